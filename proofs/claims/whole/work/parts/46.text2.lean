section TZ
variable {d : Nat} {I : qMI} {L : qML} {P : qMP} {bt : Nat → Nat} {len : Nat} {s : Sit}
theorem TP.congr {I I' : qMI} (h : TP I bt len) (h1 : I' 86 = I 86) (h2 : I' 87 = I 87) : TP I' bt len := ⟨by rw [h1]; exact h.1, h.2.1, fun i hi => by rw [h2]; exact h.2.2 i hi⟩
theorem plR_step {F p : Nat} {fst : Bool} {seen : Nat → Bool} {v : Nat → Nat} (h : ¬ (fst = false ∧ (len ≤ p ∨ bt p = 59))) : plR bt len s (F + 1) fst p seen v = (match whatR bt len p with | none => (p, false, v) | some w => if seen w = true then (p, false, v) else match numR bt len s (p + 1) w with | none => (p + 1, false, v) | some q => plR bt len s F false q.2 (fun x => x == w || seen x) (fun x => if x = w then q.1 else v x)) := by
  show (if fst = false ∧ (len ≤ p ∨ bt p = 59) then _ else _) = _
  rw [if_neg h]
  rfl
theorem ok_rpTail {p M F : Nat} {seen : Nat → Bool} {v : Nat → Nat} {R : Nat × Bool × (Nat → Nat)} {f : Int32 → qMI → qML → qMP → Prop} {G : Int32 → qMI → qML → qMP → Prop} (hP : LAY P) (hT : TP I bt len) (hE : ES SH0 I P 83 s) (hp : p ≤ len) (h3 : I 82 3 = nI p) (hM : M < 16) (hS : ∀ w, w < 4 → M.testBit w = seen w) (hv : ∀ w, w < 4 → I 85 w = nI (v w))
    (hR : R = (match whatR bt len p with | none => (p, false, v) | some w => if seen w = true then (p, false, v) else match numR bt len s (p + 1) w with | none => (p + 1, false, v) | some q => plR bt len s F false q.2 (fun x => x == w || seen x) (fun x => if x = w then q.1 else v x)))
    (kf : ∀ I9, (∀ r, r ≠ 82 → r ≠ 85 → I9 r = I r) → I9 82 3 = nI R.1 → (∀ w, w < 4 → I9 85 w = nI (R.2.2 w)) → R.2.1 = false → f 0 I9 L P)
    (kT : ∀ (w : Nat) (q : Nat × Nat) I9, w < 4 → q.2 ≤ len → (∀ r, r ≠ 82 → r ≠ 85 → I9 r = I r) → I9 82 3 = nI q.2 → (∀ x, x < 4 → I9 85 x = nI (if x = w then q.1 else v x)) → R = plR bt len s F false q.2 (fun x => x == w || seen x) (fun x => if x = w then q.1 else v x) → G (nI w) I9 L P) :
    Sq (d + 4) mX8_whatOf SH0 [.int (ltr bt len p)] I L P (KI fun r10 I11 L12 P13 => ((r10 = ((-1))) → (KI f (some (.int 0)) I11 L12 P13)) ∧ ((¬ r10 = ((-1))) → (((¬ ((nI M >>> (r10 &&& 31)) &&& 1) = 1) → (∀ I16 : qMI, I16 = uI I11 82 3 ((I11 82 3) + 1) → (Sq (d + 4) mX8_readNumber SH0 [.ref 82, .int r10] I16 L12 P13 (KI fun r17 I18 L19 P20 => ((¬ r17 = 0) → (G r10 I18 L19 P20)) ∧ ((r17 = 0) → (KI f (some (.int 0)) I18 L19 P20)))))) ∧ ((((nI M >>> (r10 &&& 31)) &&& 1) = 1) → (KI f (some (.int 0)) I11 L12 P13))))) := by
  have hl := hT.2.1
  refine ok_whatOf hT ?_
  cases hw : whatR bt len p with
  | none =>
    rw [hw] at hR
    refine ⟨fun _ => kf I (fun _ _ _ => rfl) (by rw [hR]; exact h3) (by rw [hR]; exact hv) (by rw [hR]), fun c => absurd rfl c⟩
  | some w =>
    rw [hw] at hR
    obtain ⟨w1, w2, w3⟩ := whatR_some hw
    have hk := seen_key M hM w w2
    refine ⟨fun c => absurd c (m1ne (by omega)), fun _ => ⟨fun c I16 e16 => ?_, fun c => ?_⟩⟩
    · have hsn : ¬ seen w = true := fun z => c (hk.mpr (by rw [hS w w2]; exact z))
      have hR : R = (match numR bt len s (p + 1) w with | none => (p + 1, false, v) | some q => plR bt len s F false q.2 (fun x => x == w || seen x) (fun x => if x = w then q.1 else v x)) := by
        rw [hR]
        show (if seen w = true then _ else _) = _
        rw [if_neg hsn]
      have f16 : ∀ r, r ≠ 82 → I16 r = I r := fun r q => by rw [e16, uI_ne r q]
      have g16 : I16 82 3 = nI (p + 1) := by
        rw [e16]
        show (if _ then _ else _) = _
        rw [if_pos ⟨rfl, rfl⟩, h3, nI_1]
      have hE16 : ES SH0 I16 P 83 s := hE.congr (f16 83 (by decide)) (by rw [ly_83_3 hP]; exact f16 84 (by decide)) rfl
      refine ok_readNumber (p := p + 1) hP (hT.congr (f16 86 (by decide)) (f16 87 (by decide))) hE16 (by omega) g16 w2 (fun hn => ⟨fun c => absurd rfl c, fun _ => ?_⟩) (fun q hq I9 f9 g9 v9 => ⟨fun _ => ?_, fun c => absurd c (by decide)⟩)
      · rw [hn] at hR
        exact kf I16 (fun r q1 _ => f16 r q1) (by rw [hR]; exact g16) (fun x hx => by rw [hR, f16 85 (by decide)]; exact hv x hx) (by rw [hR])
      · rw [hq] at hR
        refine kT w q I9 w2 (numR_some hq).2.2 (fun r q1 q2 => by rw [f9 r q1 q2, f16 r q1]) g9 (fun x hx => ?_) hR
        rw [v9 x]
        by_cases z : x = w
        · rw [if_pos z, if_pos z]
        · rw [if_neg z, if_neg z, f16 85 (by decide)]; exact hv x hx
    · have hsn : seen w = true := by rw [← hS w w2]; exact hk.mp c
      have hR : R = (p, false, v) := by
        rw [hR]
        show (if seen w = true then _ else _) = _
        rw [if_pos hsn]
      exact kf I (fun _ _ _ => rfl) (by rw [hR]; exact h3) (by rw [hR]; exact hv) (by rw [hR])
theorem seen_up {M w : Nat} {seen : Nat → Bool} (hS : ∀ x, x < 4 → M.testBit x = seen x) (hM : M < 16) (hw : w < 4) : (M ||| 2 ^ w) < 16 ∧ ∀ x, x < 4 → (M ||| 2 ^ w).testBit x = (x == w || seen x) := by
  refine ⟨Nat.or_lt_two_pow (n := 4) hM (Nat.pow_lt_pow_right (by decide) hw), fun x hx => ?_⟩
  rw [Nat.testBit_or, hS x hx, Nat.testBit_two_pow, Bool.or_comm]
  congr 1
  by_cases c : w = x
  · rw [decide_eq_true c, c]; simp
  · rw [decide_eq_false c]
    have : ¬ x = w := fun z => c z.symm
    simp [this]
theorem ok_readPlayer {p : Nat} {f : Int32 → qMI → qML → qMP → Prop} (hP : LAY P) (hT : TP I bt len) (hE : ES SH0 I P 83 s) (hp : p ≤ len) (h3 : I 82 3 = nI p)
    (k : ∀ I', (∀ r, r ≠ 82 → r ≠ 85 → I' r = I r) → I' 82 3 = nI (pl0 bt len s p).1 → (∀ w, w < 4 → I' 85 w = nI ((pl0 bt len s p).2.2 w)) → f (if (pl0 bt len s p).2.1 = true then 1 else 0) I' L P) : Sq (d + 5) mX8_readPlayer SH0 [.ref 82] I L P (KI f) := by
  have e1 : P 82 1 = 85 := ly_82_1 hP
  have e2 : P 82 2 = 86 := ly_82_2 hP
  have e3 : P 83 3 = 84 := ly_83_3 hP
  have hl := hT.2.1
  refine sp_X8_readPlayer (fun x1 x2 I' L' P' => L' = L ∧ P' = P ∧ x1 = 0 ∧ (∀ r, r ≠ 85 → I' r = I r) ∧ ∃ o, o ≤ 4 ∧ x2 = nI o ∧ ∀ j, j < o → I' 85 j = 0) (fun _ x _ _ _ => (20 - x.toNatClampNeg) + 100) (fun x1 x2 I' L' P' => L' = L ∧ P' = P ∧ (∀ r, r ≠ 82 → r ≠ 85 → I' r = I r) ∧ ∃ fl q seen v M, fl ≤ 5 ∧ x2 = nI fl ∧ x1 = nI M ∧ M < 16 ∧ (∀ w, w < 4 → M.testBit w = seen w) ∧ q ≤ len ∧ I' 82 3 = nI q ∧ (∀ w, w < 4 → I' 85 w = nI (v w)) ∧ pl0 bt len s p = plR bt len s (5 - fl) (decide (fl = 0)) q seen v) (fun _ x _ _ _ => 20 - x.toNatClampNeg) ⟨rfl, rfl, rfl, fun _ _ => rfl, 0, Nat.zero_le _, rfl, fun j hj => absurd hj (Nat.not_lt_zero j)⟩ ?_ ?_
  · rintro x1 x2 I' L' P' ⟨rfl, rfl, rfl, hF, o, ho, rfl, hj⟩
    refine ⟨by decide, ?_⟩
    rw [e1]
    refine ⟨by decide, fun c => ?_, fun c => ⟨vin o rfl (by have c : ¬ nI 4 ≤ nI o := c; rw [nI_leI (by decide) (by omega)] at c; show o < 4; omega) (by decide), fun I5 e5 => ?_⟩⟩
    · have c : nI 4 ≤ nI o := c
      rw [nI_leI (by decide) (by omega)] at c
      have : o = 4 := by omega
      subst this
      refine ⟨⟨rfl, rfl, fun r q1 q2 => hF r q2, 0, p, fun _ => false, fun _ => 0, 0, by decide, rfl, rfl, by decide, fun w _ => Nat.zero_testBit w, hp, by rw [hF 82 (by decide)]; exact h3, fun w hw => hj w hw, rfl⟩, ?_⟩
      show 20 - Int32.toNatClampNeg 0 < _
      omega
    · have c : ¬ nI 4 ≤ nI o := c
      rw [nI_leI (by decide) (by omega)] at c
      rw [clN (by omega)] at e5
      refine ⟨⟨rfl, rfl, rfl, fun r q => by rw [e5, uI_ne r q]; exact hF r q, o + 1, by omega, nI_1 o, fun j hj2 => ?_⟩, ?_⟩
      · rw [e5]
        show (if _ then _ else _) = _
        by_cases z : j = o
        · rw [if_pos ⟨rfl, z⟩]
        · rw [if_neg (fun y => z y.2)]; exact hj j (by omega)
      · have y1 : (nI o).toNatClampNeg = o := clN (by omega)
        have y2 : (nI o + 1).toNatClampNeg = o + 1 := by rw [nI_1, clN (by omega)]
        omega
  · rintro x1 x2 I' L' P' ⟨rfl, rfl, hF, fl, q, seen, v, M, hfl, rfl, rfl, hM, hS, hq, h3q, hv, hR⟩
    have hT' : TP I' bt len := hT.congr (hF 86 (by decide) (by decide)) (hF 87 (by decide) (by decide))
    have hE' : ES SH0 I' P' 83 s := hE.congr (hF 83 (by decide) (by decide)) (by rw [e3]; exact hF 84 (by decide) (by decide)) rfl
    refine ⟨by decide, ?_⟩
    rw [e1, e2]
    refine ⟨by decide, fun c => ?_, fun c => ⟨by decide, ?_⟩⟩
    · have c : nI 4 < nI fl := c
      rw [nI_ltI (by decide) (by omega)] at c
      have : fl = 5 := by omega
      subst this
      have hR : pl0 bt len s p = (q, false, v) := hR
      have kk := k I' hF
      rw [hR] at kk
      exact kk h3q hv
    · have c : ¬ nI 4 < nI fl := c
      rw [nI_ltI (by decide) (by omega)] at c
      rw [h3q]
      obtain ⟨F, eF⟩ : ∃ F, 5 - fl = F + 1 := ⟨4 - fl, by omega⟩
      rw [eF] at hR
      have hmm : 20 - (nI fl + 1).toNatClampNeg < 20 - (nI fl).toNatClampNeg := by
        rw [nI_1, clN (by omega), clN (by omega)]; omega
      have kfin : ∀ I9, (∀ r, r ≠ 82 → r ≠ 85 → I9 r = I' r) → I9 82 3 = nI (pl0 bt len s p).1 → (∀ w, w < 4 → I9 85 w = nI ((pl0 bt len s p).2.2 w)) → (pl0 bt len s p).2.1 = false → f 0 I9 L' P' := fun I9 a1 a2 a3 a4 => by
        have kk := k I9 (fun r q1 q2 => by rw [a1 r q1 q2]; exact hF r q1 q2) a2 a3
        rw [if_neg (by rw [a4]; decide)] at kk
        exact kk
      have kend : pl0 bt len s p = (q, true, v) → f 1 I' L' P' := fun e => by
        have kk := k I' hF
        rw [e] at kk
        exact kk h3q hv
      have heq0 : nI fl ≤ 0 ↔ fl = 0 := by
        show nI fl ≤ nI 0 ↔ _
        rw [nI_leI (by omega) (by decide)]; omega
      refine ok_at hP hT' (by omega) ⟨fun c1 => ?_, fun c1 => ⟨fun c2 => ?_, fun c2 => ⟨fun c3 => ?_, fun c3 => ?_⟩⟩⟩
      · have c1 := heq0.mp c1
        refine ok_rpTail (F := F) (seen := seen) (v := v) (R := pl0 bt len s p) hP hT' hE' hq h3q hM hS hv ?_ kfin (fun w y I9 w1 w2 a1 a2 a3 a4 => ?_)
        · exact hR.trans (plR_step (by rw [decide_eq_true c1]; intro z; exact absurd z.1 (by decide)))
        · obtain ⟨u1, u2⟩ := seen_up hS hM w1
          exact ⟨⟨rfl, rfl, fun r q1 q2 => by rw [a1 r q1 q2]; exact hF r q1 q2, fl + 1, y.2, _, _, _, by omega, nI_1 fl, by rw [bitN (by omega), orN], u1, u2, w2, a2, a3, by rw [a4, show 5 - (fl + 1) = F by omega, decide_eq_false (by omega)]⟩, hmm⟩
      · have hf : ¬ fl = 0 := fun z => c1 (heq0.mpr z)
        refine kend ?_
        rw [hR]
        unfold plR
        rw [if_pos]
        refine ⟨decide_eq_false hf, ?_⟩
        unfold ltr at c2
        by_cases z : q < len
        · rw [if_pos z] at c2
          have b := hT'.2.2 q z
          exact Or.inr (nI_inj (by omega) (by decide) c2)
        · exact Or.inl (by omega)
      · have hf : ¬ fl = 0 := fun z => c1 (heq0.mpr z)
        have z : q < len := by
          unfold ltr at c3
          by_cases z : q < len
          · exact z
          · rw [if_neg z] at c3; exact absurd rfl c3
        have z2 : bt q ≠ 59 := fun y => c2 (by unfold ltr; rw [if_pos z, y]; rfl)
        refine ok_rpTail (F := F) (seen := seen) (v := v) (R := pl0 bt len s p) hP hT' hE' hq h3q hM hS hv ?_ kfin (fun w y I9 w1 w2 a1 a2 a3 a4 => ?_)
        · exact hR.trans (plR_step (by rintro ⟨-, y | y⟩ <;> omega))
        · obtain ⟨u1, u2⟩ := seen_up hS hM w1
          exact ⟨⟨rfl, rfl, fun r q1 q2 => by rw [a1 r q1 q2]; exact hF r q1 q2, fl + 1, y.2, _, _, _, by omega, nI_1 fl, by rw [bitN (by omega), orN], u1, u2, w2, a2, a3, by rw [a4, show 5 - (fl + 1) = F by omega, decide_eq_false (by omega)]⟩, hmm⟩
      · have hf : ¬ fl = 0 := fun z => c1 (heq0.mpr z)
        refine kend ?_
        rw [hR]
        unfold plR
        rw [if_pos]
        refine ⟨decide_eq_false hf, Or.inl ?_⟩
        unfold ltr at c3
        by_cases z : q < len
        · rw [if_pos z] at c3
          have b := hT'.2.2 q z
          exact absurd c3 (m1ne (by omega))
        · omega
end TZ
