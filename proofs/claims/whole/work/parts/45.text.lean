/-! ===== texts ===== -/
def TP (I : qMI) (bt : Nat → Nat) (len : Nat) : Prop := I 86 1 = nI len ∧ len ≤ 120 ∧ ∀ i, i < len → I 87 i = nI (bt i) ∧ 32 ≤ bt i ∧ bt i ≤ 126
def figR (bt : Nat → Nat) (len p : Nat) : Option Nat := if p < len ∧ 48 ≤ bt p ∧ bt p ≤ 57 then some (bt p - 48) else none
def whatN (c : Nat) : Option Nat := if c = 99 then some 0 else if c = 114 then some 1 else if c = 115 then some 2 else if c = 120 then some 3 else none
def whatR (bt : Nat → Nat) (len p : Nat) : Option Nat := if p < len then whatN (bt p) else none
def bigW (w : Nat) : Nat := if w = 0 then 5 else if w = 1 then 3 else if w = 2 then 8 else 99
abbrev okV (s : Sit) (w a : Nat) : Prop := a ≤ bigW w ∧ (w = 2 ∧ 0 < a → ∀ q, q < s 0 0 → s 3 q ≠ a)
def numR (bt : Nat → Nat) (len : Nat) (s : Sit) (p w : Nat) : Option (Nat × Nat) :=
  match figR bt len p with
  | none => none
  | some a => if okV s w a then (if w = 3 then (match figR bt len (p + 1) with | none => some (a, p + 1) | some b => some (10 * a + b, p + 2)) else some (a, p + 1)) else none
def plR (bt : Nat → Nat) (len : Nat) (s : Sit) : Nat → Bool → Nat → (Nat → Bool) → (Nat → Nat) → Nat × Bool × (Nat → Nat)
  | 0, _, p, _, v => (p, false, v)
  | f + 1, fst, p, seen, v =>
    if fst = false ∧ (len ≤ p ∨ bt p = 59) then (p, true, v)
    else match whatR bt len p with
      | none => (p, false, v)
      | some w => if seen w = true then (p, false, v) else match numR bt len s (p + 1) w with
        | none => (p + 1, false, v)
        | some q => plR bt len s f false q.2 (fun x => x == w || seen x) (fun x => if x = w then q.1 else v x)
def pl0 (bt : Nat → Nat) (len : Nat) (s : Sit) (p : Nat) : Nat × Bool × (Nat → Nat) := plR bt len s 5 true p (fun _ => false) (fun _ => 0)
def rdR (bt : Nat → Nat) (len : Nat) : Nat → Nat → Sit → Option Nat × Sit
  | 0, p, s => (some p, s)
  | f + 1, p, s => if 10 ≤ s 0 0 then (some p, s) else
    let R := pl0 bt len s p
    if R.2.1 = true then
      (if R.1 < len then rdR bt len f (R.1 + 1) (addS s (R.2.2 0) (R.2.2 1) (R.2.2 2) (R.2.2 3)) else (none, addS s (R.2.2 0) (R.2.2 1) (R.2.2 2) (R.2.2 3)))
    else (some R.1, s)
section TX
variable {bt : Nat → Nat} {len : Nat} {s : Sit}
theorem figR_some {p a : Nat} (h : figR bt len p = some a) : p < len ∧ 48 ≤ bt p ∧ bt p ≤ 57 ∧ a = bt p - 48 ∧ a ≤ 9 := by
  unfold figR at h
  split at h
  · next c => have := Option.some.inj h; exact ⟨c.1, c.2.1, c.2.2, this.symm, by omega⟩
  · cases h
theorem whatR_some {p w : Nat} (h : whatR bt len p = some w) : p < len ∧ w < 4 ∧ whatN (bt p) = some w := by
  unfold whatR at h
  split at h
  · next c =>
    refine ⟨c, ?_, h⟩
    unfold whatN at h
    split at h
    · have := Option.some.inj h; omega
    · split at h
      · have := Option.some.inj h; omega
      · split at h
        · have := Option.some.inj h; omega
        · split at h
          · have := Option.some.inj h; omega
          · cases h
  · cases h
theorem numR_some {p w : Nat} {q : Nat × Nat} (h : numR bt len s p w = some q) : okV s w q.1 ∧ p < q.2 ∧ q.2 ≤ len := by
  unfold numR at h
  cases hf : figR bt len p with
  | none => rw [hf] at h; cases h
  | some a =>
    rw [hf] at h
    obtain ⟨f1, f2, f3, f4, f5⟩ := figR_some hf
    simp only [] at h
    split at h
    · next c =>
      split at h
      · next c3 =>
        cases hg : figR bt len (p + 1) with
        | none =>
          rw [hg] at h
          have := Option.some.inj h
          subst this
          exact ⟨c, by show p < p + 1; omega, by show p + 1 ≤ len; omega⟩
        | some b =>
          rw [hg] at h
          obtain ⟨g1, g2, g3, g4, g5⟩ := figR_some hg
          have := Option.some.inj h
          subst this
          subst c3
          refine ⟨⟨?_, fun z => absurd z.1 (by decide)⟩, by show p < p + 2; omega, by show p + 2 ≤ len; omega⟩
          show 10 * a + b ≤ 99
          omega
      · have := Option.some.inj h
        subst this
        exact ⟨c, by show p < p + 1; omega, by show p + 1 ≤ len; omega⟩
    · cases h
theorem plR_ok : ∀ (f : Nat) (fst : Bool) (p : Nat) (seen : Nat → Bool) (v : Nat → Nat), p ≤ len → (∀ w, w < 4 → okV s w (v w)) → (plR bt len s f fst p seen v).1 ≤ len ∧ ∀ w, w < 4 → okV s w ((plR bt len s f fst p seen v).2.2 w)
  | 0, fst, p, seen, v, hp, hv => ⟨hp, hv⟩
  | f + 1, fst, p, seen, v, hp, hv => by
    unfold plR
    split
    · exact ⟨hp, hv⟩
    · split
      · exact ⟨hp, hv⟩
      · next w hw =>
        obtain ⟨w1, w2, w3⟩ := whatR_some hw
        split
        · exact ⟨hp, hv⟩
        · split
          · exact ⟨by show p + 1 ≤ len; omega, hv⟩
          · next q hq =>
            obtain ⟨n1, n2, n3⟩ := numR_some hq
            refine plR_ok f false q.2 _ _ n3 fun x hx => ?_
            show okV s x (if x = w then q.1 else v x)
            by_cases c : x = w
            · rw [if_pos c, c]; exact n1
            · rw [if_neg c]; exact hv x hx
theorem pl0_ok {p : Nat} (hp : p ≤ len) : (pl0 bt len s p).1 ≤ len ∧ ∀ w, w < 4 → okV s w ((pl0 bt len s p).2.2 w) :=
  plR_ok 5 true p _ _ hp fun w _ => ⟨Nat.zero_le _, fun z => absurd z.2 (Nat.lt_irrefl 0)⟩
theorem seen_key : ∀ M, M < 16 → ∀ w, w < 4 → (((nI M >>> (nI w &&& 31)) &&& 1) = 1 ↔ M.testBit w = true) := by decide +kernel
end TX
section TY9
variable {d : Nat} {I : qMI} {L : qML} {P : qMP} {bt : Nat → Nat} {len : Nat} {s : Sit}
def ltr (bt : Nat → Nat) (len p : Nat) : Int32 := if p < len then nI (bt p) else -1
theorem ok_at {p : Nat} {f : Int32 → qMI → qML → qMP → Prop} (hP : LAY P) (hT : TP I bt len) (hp : p ≤ 200) (k : f (ltr bt len p) I L P) : Sq (d + 1) mX7_at SH0 [.ref 86, .int (nI p)] I L P (KI f) := by
  have e0 : P 86 0 = 87 := ly_86_0 hP
  refine ok_T_at (by decide) (by rw [e0]; decide) hT.1 hT.2.1 ?_
  have e : (if isP len (nI p) then I (P 86 0) (nI p).toNatClampNeg else -1) = ltr bt len p := by
    unfold ltr
    rw [e0, clN (by omega)]
    have hl := hT.2.1
    have ht : (nI p).toInt = (p : Int) := nI_toInt (by omega)
    by_cases c : p < len
    · rw [if_pos c, if_pos (by unfold isP; rw [ht]; omega)]; exact (hT.2.2 p c).1
    · rw [if_neg c, if_neg (by unfold isP; rw [ht]; omega)]
  rw [e]; exact k
theorem m1ti : (-1 : Int32).toInt = -1 := by decide
theorem m1ne {a : Nat} (h : a < 2147483648) : ¬ nI a = -1 := fun q => by
  have := congrArg Int32.toInt q
  rw [nI_toInt h, m1ti] at this
  omega
theorem ok_figure {p : Nat} {f : Int32 → qMI → qML → qMP → Prop} (hP : LAY P) (hT : TP I bt len) (hp : p ≤ 200) (h3 : I 82 3 = nI p) (k : f (match figR bt len p with | none => -1 | some a => nI a) I L P) : Sq (d + 2) mX8_figure SH0 [.ref 82] I L P (KI f) := by
  have e2 : P 82 2 = 86 := ly_82_2 hP
  have hlt : ltr bt len p < 48 ↔ ¬ (p < len ∧ 48 ≤ bt p) := by
    unfold ltr
    by_cases c : p < len
    · have b := hT.2.2 p c
      rw [if_pos c, show (48 : Int32) = nI 48 from rfl, nI_ltI (by omega) (by decide)]
      omega
    · rw [if_neg c]
      exact ⟨fun _ q => c q.1, fun _ => by decide⟩
  have hgt : 57 < ltr bt len p ↔ p < len ∧ 57 < bt p := by
    unfold ltr
    by_cases c : p < len
    · have b := hT.2.2 p c
      rw [if_pos c, show (57 : Int32) = nI 57 from rfl, nI_ltI (by decide) (by omega)]
      omega
    · rw [if_neg c]
      exact ⟨fun q => absurd q (by decide), fun q => absurd q.1 c⟩
  refine sp_X8_figure ⟨by decide, by rw [e2]; decide, ?_⟩
  rw [h3, e2]
  refine ok_at hP hT hp ⟨fun c1 => kI k ?_, fun c1 => ⟨fun c2 => kI k ?_, fun c2 => kI k ?_⟩⟩
  · have c1 := hlt.mp c1
    unfold figR
    rw [if_neg (fun q => c1 ⟨q.1, q.2.1⟩)]
  · have c2 := hgt.mp c2
    unfold figR
    rw [if_neg (by omega)]
  · have c1 : p < len ∧ 48 ≤ bt p := Classical.byContradiction fun q => c1 (hlt.mpr q)
    have c2 : ¬ (p < len ∧ 57 < bt p) := fun q => c2 (hgt.mpr q)
    unfold figR
    rw [if_pos ⟨c1.1, c1.2, by omega⟩]
    unfold ltr
    rw [if_pos c1.1]
    exact (pk_sub (b := 48) c1.2).symm
theorem ok_whatOf {p : Nat} {f : Int32 → qMI → qML → qMP → Prop} (hT : TP I bt len) (k : f (match whatR bt len p with | none => -1 | some w => nI w) I L P) : Sq (d + 1) mX8_whatOf SH0 [.int (ltr bt len p)] I L P (KI f) := by
  have key : ∀ c, c < 128 → 1 ≤ c → (ltr bt len p = nI c ↔ p < len ∧ bt p = c) := by
    intro c hc h1
    unfold ltr
    by_cases q : p < len
    · have b := hT.2.2 p q
      rw [if_pos q]
      constructor
      · intro z; exact ⟨q, nI_inj (by omega) (by omega) z⟩
      · intro z; rw [z.2]
    · rw [if_neg q]
      exact ⟨fun z => absurd z.symm (m1ne (by omega)), fun z => absurd z.1 q⟩
  have r : whatR bt len p = if p < len then whatN (bt p) else none := rfl
  refine sp_X8_whatOf ⟨fun c => kI k ?_, fun c => kI k ?_, fun c => kI k ?_, fun c => kI k ?_, fun c1 c2 c3 c4 => kI k ?_⟩
  · obtain ⟨h1, h2⟩ := (key 99 (by decide) (by decide)).mp c
    rw [r, if_pos h1, h2]; rfl
  · obtain ⟨h1, h2⟩ := (key 114 (by decide) (by decide)).mp c
    rw [r, if_pos h1, h2]; rfl
  · obtain ⟨h1, h2⟩ := (key 115 (by decide) (by decide)).mp c
    rw [r, if_pos h1, h2]; rfl
  · obtain ⟨h1, h2⟩ := (key 120 (by decide) (by decide)).mp c
    rw [r, if_pos h1, h2]; rfl
  · by_cases h1 : p < len
    · have n1 : bt p ≠ 99 := fun z => c1 ((key 99 (by decide) (by decide)).mpr ⟨h1, z⟩)
      have n2 : bt p ≠ 114 := fun z => c2 ((key 114 (by decide) (by decide)).mpr ⟨h1, z⟩)
      have n3 : bt p ≠ 115 := fun z => c3 ((key 115 (by decide) (by decide)).mpr ⟨h1, z⟩)
      have n4 : bt p ≠ 120 := fun z => c4 ((key 120 (by decide) (by decide)).mpr ⟨h1, z⟩)
      rw [r, if_pos h1]
      unfold whatN
      rw [if_neg n1, if_neg n2, if_neg n3, if_neg n4]
    · rw [r, if_neg h1]
theorem lgst_w : ∀ w, w < 4 → lgst (nI w) = nI (bigW w) := by decide
theorem mayS_ok {w a : Nat} (hw : w < 4) (ha : a ≤ 99) (hn : WE s) : mayS s (-1) (nI w) (nI a) ↔ okV s w a := by
  have hb : bigW w ≤ 99 := by unfold bigW; split <;> (try split) <;> (try split) <;> omega
  have e2 : nI w = 2 ↔ w = 2 := nI_eq (by omega) (by decide)
  have e0 : (0 : Int32) < nI a ↔ 0 < a := nI_ltI (a := 0) (by decide) (by omega)
  unfold mayS okV
  rw [lgst_w w hw, nI_leI (by omega) (by omega), e2, e0]
  have z : (0 : Int32) ≤ nI a := nI_pos' (by omega)
  constructor
  · rintro ⟨⟨-, h1⟩, h2⟩
    refine ⟨h1, fun h3 q hq h4 => ?_⟩
    have b := (hn.2.2.2.1 q hq).2.2.1
    have hn1 := hn.1
    exact h2 q hq ⟨h3.1, h3.2, m1ne (by omega)⟩ (by rw [h4])
  · rintro ⟨h1, h2⟩
    refine ⟨⟨z, h1⟩, fun q hq h3 h4 => ?_⟩
    have b := (hn.2.2.2.1 q hq).2.2.1
    exact h2 ⟨h3.1, h3.2.1⟩ q hq (nI_inj (by omega) (by omega) h4)
theorem ok_readNumber {p w : Nat} {f : Int32 → qMI → qML → qMP → Prop} (hP : LAY P) (hT : TP I bt len) (hE : ES SH0 I P 83 s) (hp : p ≤ len) (h3 : I 82 3 = nI p) (hw : w < 4) (k0 : numR bt len s p w = none → f 0 I L P)
    (k1 : ∀ q, numR bt len s p w = some q → ∀ I', (∀ r, r ≠ 82 → r ≠ 85 → I' r = I r) → I' 82 3 = nI q.2 → (∀ j, I' 85 j = if j = w then nI q.1 else I 85 j) → f 1 I' L P) : Sq (d + 4) mX8_readNumber SH0 [.ref 82, .int (nI w)] I L P (KI f) := by
  have e0 : P 82 0 = 83 := ly_82_0 hP
  have e1 : P 82 1 = 85 := ly_82_1 hP
  have hl := hT.2.1
  have hn : WE s := hE.2.2.2.2.2.2
  refine sp_X8_readNumber ⟨by decide, ok_figure hP hT (by omega) h3 ?_⟩
  cases hf : figR bt len p with
  | none =>
    have hnum : numR bt len s p w = none := by unfold numR; rw [hf]
    exact ⟨fun _ => k0 hnum, fun c => absurd rfl c⟩
  | some a =>
    obtain ⟨f1, f2, f3, f4, f5⟩ := figR_some hf
    have hcond : ∀ z, numR bt len s p w = z ↔ (if okV s w a then (if w = 3 then (match figR bt len (p + 1) with | none => some (a, p + 1) | some b => some (10 * a + b, p + 2)) else some (a, p + 1)) else none) = z := fun z => by unfold numR; rw [hf]
    refine ⟨fun c => absurd c (m1ne (by omega)), fun _ => ⟨fun c => absurd c (nI_pos (by omega)), fun _ => ⟨fun c => absurd c (nI_nlt (b := 3) (a := w) |> fun _ => by show ¬ nI 3 < nI w; rw [nI_ltI (by decide) (by omega)]; omega), fun _ => ?_⟩⟩⟩
    rw [e0]
    refine ⟨by decide, ok_mayTell hE ⟨fun c => ⟨by rw [e1]; decide, by rw [e1]; exact vin w rfl (show w < 4 from hw) (by decide), fun I17 e17 I18 e18 => ?_⟩, fun c => k0 ?_⟩⟩
    · have hok : okV s w a := (mayS_ok hw (by omega) hn).mp (b01_n0.mp c)
      rw [e1, clN (by omega)] at e17
      have f18 : ∀ r, r ≠ 82 → r ≠ 85 → I18 r = I r := fun r q1 q2 => by rw [e18, uI_ne r q1, e17, uI_ne r q2]
      have g18 : I18 82 3 = nI (p + 1) := by
        rw [e18]
        show (if _ then _ else _) = _
        rw [if_pos ⟨rfl, rfl⟩, e17, uI_ne 82 (by decide), h3, nI_1]
      have v18 : ∀ j, I18 85 j = if j = w then nI a else I 85 j := fun j => by
        rw [e18, uI_ne 85 (by decide), e17]
        show (if _ then _ else _) = _
        by_cases c : j = w
        · rw [if_pos ⟨rfl, c⟩, if_pos c]
        · rw [if_neg (fun z => c z.2), if_neg c]
      have hT18 : TP I18 bt len := ⟨by rw [f18 86 (by decide) (by decide)]; exact hT.1, hT.2.1, fun i hi => by rw [f18 87 (by decide) (by decide)]; exact hT.2.2 i hi⟩
      have e3 : nI w = 3 ↔ w = 3 := nI_eq (by omega) (by decide)
      refine ok_figure hP hT18 (by omega) g18 ⟨fun c1 => ?_, fun c1 => ?_⟩
      · have : w ≠ 3 := fun z => c1 (e3.mpr z)
        exact k1 (a, p + 1) ((hcond _).mpr (by rw [if_pos hok, if_neg this])) I18 f18 g18 v18
      · have c1 := e3.mp c1
        cases hg : figR bt len (p + 1) with
        | none => exact ⟨fun _ => k1 (a, p + 1) ((hcond _).mpr (by rw [if_pos hok, if_pos c1, hg])) I18 f18 g18 v18, fun c => absurd rfl c⟩
        | some b =>
          obtain ⟨g1, g2, g3, g4, g5⟩ := figR_some hg
          refine ⟨fun c => absurd c (m1ne (by omega)), fun _ => ?_⟩
          rw [e1]
          refine ⟨by decide, vin w rfl (show w < 4 from hw) (by decide), fun I27 e27 I28 e28 => ?_⟩
          rw [clN (by omega), show (10 : Int32) * nI a + nI b = nI (10 * a + b) from by rw [show (10 : Int32) * nI a = nI (10 * a) from pk_mul 10 a, nI_add]] at e27
          refine k1 (10 * a + b, p + 2) ((hcond _).mpr (by rw [if_pos hok, if_pos c1, hg])) I28 (fun r q1 q2 => by rw [e28, uI_ne r q1, e27, uI_ne r q2]; exact f18 r q1 q2) ?_ fun j => ?_
          · rw [e28]
            show (if _ then _ else _) = _
            rw [if_pos ⟨rfl, rfl⟩, e27, uI_ne 82 (by decide), g18, nI_1]
          · rw [e28, uI_ne 85 (by decide), e27]
            show (if _ then _ else _) = _
            by_cases z : j = w
            · rw [if_pos ⟨rfl, z⟩, if_pos z]
            · rw [if_neg (fun y => z y.2), if_neg z, v18 j, if_neg z]
    · have hno : ¬ okV s w a := fun z => b01_0.mp c ((mayS_ok hw (by omega) hn).mpr z)
      exact (hcond _).mpr (by rw [if_neg hno])
end TY9
