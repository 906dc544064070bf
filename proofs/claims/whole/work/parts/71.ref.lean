/-! ===== the reference's object ===== -/
theorem ref_P {P : qMP} (h : LAY P) : P 144 0 = 145 ∧ P 144 1 = 146 ∧ P 144 2 = 147 ∧ P 144 3 = 148 ∧ P 144 7 = 149 ∧ P 144 8 = 150 ∧ P 144 9 = 151 ∧ P 144 13 = 152 ∧ P 144 14 = 153 ∧ P 144 15 = 154 ∧ P 144 16 = 155 ∧ P 144 18 = 156 ∧ P 144 19 = 157 ∧ P 144 20 = 158 ∧ P 144 21 = 159 ∧ P 144 26 = 160 ∧ P 144 27 = 161 :=
  ⟨ly_144_0 h, ly_144_1 h, ly_144_2 h, ly_144_3 h, ly_144_7 h, ly_144_8 h, ly_144_9 h, ly_144_13 h, ly_144_14 h, ly_144_15 h, ly_144_16 h, ly_144_18 h, ly_144_19 h, ly_144_20 h, ly_144_21 h, ly_144_26 h, ly_144_27 h⟩
theorem cl_0 : Int32.toNatClampNeg 0 = 0 := by decide
theorem cl_1 : Int32.toNatClampNeg 1 = 1 := by decide
theorem cl_2 : Int32.toNatClampNeg 2 = 2 := by decide
theorem cl_3 : Int32.toNatClampNeg 3 = 3 := by decide
theorem cl_4 : Int32.toNatClampNeg 4 = 4 := by decide
theorem b01_cg {c e : Prop} [Decidable c] [Decidable e] (h : c ↔ e) : b01 c = b01 e := by
  unfold b01
  by_cases q : c
  · rw [if_pos q, if_pos (h.mp q)]
  · rw [if_neg q, if_neg (fun z => q (h.mpr z))]
def hnd (h : Nat) : Int32 := if h = 0 then -2 else nI (h - 1)
def thr (r : Nat) : Nat := 61 + if r = 1 then 0 else if r = 2 then 8 else if r = 3 then 12 else 14
def GD (v : Nat → Int32) (s : Sit) : Prop := (∀ k, k < slotsS (s 0 0) → v (45 + k) = nI (s 20 k)) ∧ (∀ r k, 1 ≤ r → r ≤ s 9 0 → k < TB (s 0 0) r → v (thr r + k) = nI (s (20 + r) k)) ∧ (∀ k, s 9 0 < lastS (s 0 0) → k < TB (s 0 0) (s 9 0 + 1) → v (76 + k) = hnd (s 11 k))
def GE (v : Nat → Int32) (s : Sit) : Prop := s 0 0 ≤ 10 ∧ v 0 = nI (s 0 0) ∧ v 1 = nI (s 5 0) ∧ v 2 = nI (s 6 0) ∧ ∀ p w, p < s 0 0 → w < 4 → v (5 + 10 * w + p) = nI (s (1 + w) p)
/-- 84 ints tell of a situation -/
def GS (v : Nat → Int32) (s : Sit) : Prop := GE v s ∧ v 3 = nI (s 7 0) ∧ v 4 = nI (s 9 0) ∧ (s 7 0 = 1 → GD v s)
theorem TB_le8 (n r : Nat) (h : 1 ≤ r) : TB n r ≤ 8 ∧ (2 ≤ r → TB n r ≤ 4) := by
  have hs := slotsS_in n
  unfold TB
  have h2 : 2 ^ 1 ≤ 2 ^ r := Nat.pow_le_pow_right (by decide) h
  constructor
  · exact Nat.le_trans (Nat.div_le_div_left h2 (by decide)) (by omega)
  · intro h3
    have h4 : 2 ^ 2 ≤ 2 ^ r := Nat.pow_le_pow_right (by decide) h3
    exact Nat.le_trans (Nat.div_le_div_left h4 (by decide)) (by omega)
theorem thr_lt {n r k : Nat} (h : 1 ≤ r) (hk : k < TB n r) : 61 ≤ thr r ∧ thr r + k < 80 := by
  have := TB_le8 n r h
  unfold thr
  by_cases c : r = 1
  · rw [if_pos c]; omega
  · rw [if_neg c]
    have := this.2 (by omega)
    split <;> (try split) <;> omega
theorem GD.congr {v v' : Nat → Int32} {s : Sit} (h : GD v s) (q : ∀ k, 45 ≤ k → k < 84 → v' k = v k) : GD v' s := by
  obtain ⟨a, b, c⟩ := h
  have hs := slotsS_in (s 0 0)
  refine ⟨fun k hk => by rw [q _ (by omega) (by omega)]; exact a k hk, fun r k h1 h2 h3 => ?_, fun k h1 h2 => ?_⟩
  · have := thr_lt h1 h3
    rw [q _ (by omega) (by omega)]; exact b r k h1 h2 h3
  · have := (TB_le8 (s 0 0) (s 9 0 + 1) (by omega)).1
    rw [q _ (by omega) (by omega)]; exact c k h1 h2
theorem GE.congr {v v' : Nat → Int32} {s : Sit} (h : GE v s) (q : ∀ k, (k < 3 ∨ 5 ≤ k ∧ k < 45) → v' k = v k) : GE v' s := by
  obtain ⟨hn, a, b, c, g⟩ := h
  exact ⟨hn, by rw [q _ (by omega)]; exact a, by rw [q _ (by omega)]; exact b, by rw [q _ (by omega)]; exact c, fun p w h1 h2 => by rw [q _ (by omega)]; exact g p w h1 h2⟩
theorem GE_cg {v : Nat → Int32} {s t : Sit} (h : GE v s) (q : ∀ x y, x ≤ 6 → t x y = s x y) : GE v t := by
  obtain ⟨hn, a, b, c, g⟩ := h
  unfold GE
  rw [q 0 0 (by decide), q 5 0 (by decide), q 6 0 (by decide)]
  exact ⟨hn, a, b, c, fun p w h1 h2 => by rw [q _ _ (by omega)]; exact g p w h1 h2⟩
theorem GS.congr {v v' : Nat → Int32} {s : Sit} (h : GS v s) (q : ∀ k, k < 84 → v' k = v k) : GS v' s := by
  obtain ⟨g, e, f, i⟩ := h
  exact ⟨g.congr fun k hk => q k (by omega), by rw [q _ (by decide)]; exact e, by rw [q _ (by decide)]; exact f, fun z => (i z).congr fun k _ hk => q k hk⟩
/-- the same players, no draw -/
theorem GE.drop {v v' : Nat → Int32} {s : Sit} (h : GE v s) (q : ∀ k, k < 84 → v' k = if k = 3 ∨ k = 4 ∨ 45 ≤ k then 0 else v k) : GS v' (dropS s) := by
  have e7 : dropS s 7 0 = 0 := by unfold dropS; rw [up_ne (by decide)]; exact up_at _ _ _ _
  have e9 : dropS s 9 0 = 0 := up_at _ _ _ _
  refine ⟨GE_cg (h.congr fun k hk => ?_) fun x y hx => dropS_lo s x y hx, ?_, ?_, fun z => ?_⟩
  · rw [q k (by omega), if_neg (by omega)]
  · rw [q _ (by decide), e7]; rfl
  · rw [q _ (by decide), e9]; rfl
  · rw [e7] at z; cases z
theorem v145 (p : Nat) (h : p < 84) : vp_in (nI p) (shp SH0 145).2 := vin p rfl h (by decide)
section RE
variable {d : Nat} {I : qMI} {L : qML} {P : qMP} {s : Sit}
theorem ok10_in {x y z : Int32} {l u : Int64} {f : Int32 → qMI → qML → qMP → Prop} (hl : l = y.toInt64) (hu : u = z.toInt64) (k : f (b01 (y.toInt ≤ x.toInt ∧ x.toInt ≤ z.toInt)) I L P) : Sq (d + 1) mX10_in SH0 [.long x.toInt64, .long l, .long u] I L P (KI f) := by
  subst hl hu
  have e : ∀ a b : Int32, a.toInt64 < b.toInt64 ↔ a.toInt < b.toInt := fun a b => by rw [Int64.lt_iff_toInt_lt, Int32.toInt_toInt64, Int32.toInt_toInt64]
  refine sp_X10_in ⟨fun c => ?_, fun c => ⟨fun c2 => ?_, fun c2 => ?_⟩⟩
  · rw [e] at c
    exact kI k (b01_f fun q => by omega)
  · rw [e] at c2
    exact kI k (b01_f fun q => by omega)
  · rw [e] at c c2
    exact kI k (b01_t ⟨by omega, by omega⟩)
theorem ok10_inL {a b c : Int64} {f : Int32 → qMI → qML → qMP → Prop} (k : f (b01 (b.toInt ≤ a.toInt ∧ a.toInt ≤ c.toInt)) I L P) : Sq (d + 1) mX10_in SH0 [.long a, .long b, .long c] I L P (KI f) := by
  refine sp_X10_in ⟨fun c => ?_, fun c => ⟨fun c2 => ?_, fun c2 => ?_⟩⟩
  · rw [Int64.lt_iff_toInt_lt] at c
    exact kI k (b01_f fun q => by omega)
  · rw [Int64.lt_iff_toInt_lt] at c2
    exact kI k (b01_f fun q => by omega)
  · rw [Int64.lt_iff_toInt_lt] at c c2
    exact kI k (b01_t ⟨by omega, by omega⟩)
theorem nm1 {n : Nat} (h : n ≤ 2000000000) : (nI n - 1).toInt = (n : Int) - 1 := by
  rw [ti_sub, ti_nI, ti_1]; omega
theorem ok10_isPlayer {x : Int32} {f : Int32 → qMI → qML → qMP → Prop} (hP : LAY P) (hG : GE (I 145) s) (k : f (b01 (isP (s 0 0) x)) I L P) : Sq (d + 2) mX10_isPlayer SH0 [.ref 144, .int x] I L P (KI f) := by
  obtain ⟨g0, -⟩ := ref_P hP
  have hn := hG.1
  refine sp_X10_isPlayer ⟨by decide, ?_⟩
  rw [g0, cl_0, hG.2.1]
  refine ⟨by decide, v145 0 (by decide), ok10_in (y := 0) rfl rfl ⟨b01_or, kI k (b01_cg ?_)⟩⟩
  rw [nm1 (by omega), ti_0]
  unfold isP
  omega
theorem ok10_areFew {f : Int32 → qMI → qML → qMP → Prop} (hP : LAY P) (hG : GE (I 145) s) (k : f (b01 (s 0 0 < 2)) I L P) : Sq (d + 1) mX10_areFew SH0 [.ref 144] I L P (KI f) := by
  obtain ⟨g0, -⟩ := ref_P hP
  have hn := hG.1
  refine sp_X10_areFew ⟨by decide, ?_⟩
  rw [g0, cl_0, hG.2.1]
  refine ⟨by decide, v145 0 (by decide), fun c => ?_, fun c => ?_⟩
  · have c := (nI_leI (a := 2) (by decide) (by omega)).mp c
    exact kI k (b01_f (by omega))
  · have c : ¬ 2 ≤ s 0 0 := fun q => c ((nI_leI (a := 2) (by decide) (by omega)).mpr q)
    exact kI k (b01_t (by omega))
theorem ok10_slots {f : Int32 → qMI → qML → qMP → Prop} (hP : LAY P) (hG : GE (I 145) s) (k : f (nI (slotsS (s 0 0))) I L P) : Sq (d + 1) mX10_slots SH0 [.ref 144] I L P (KI f) := by
  obtain ⟨g0, -⟩ := ref_P hP
  have hn := hG.1
  refine sp_X10_slots (fun x I' L' P' => I' = I ∧ L' = L ∧ P' = P ∧ ∃ a, (a = 2 ∨ a = 4 ∨ a = 8 ∨ a = 16) ∧ x = nI a ∧ (a = 2 ∨ a < 2 * s 0 0)) (fun x _ _ _ => 20 - x.toNatClampNeg) ⟨rfl, rfl, rfl, 2, Or.inl rfl, rfl, Or.inl rfl⟩ ?_
  rintro x I' L' P' ⟨rfl, rfl, rfl, a, ha, rfl, hc⟩
  refine ⟨by decide, ?_⟩
  rw [g0, cl_0, hG.2.1]
  refine ⟨by decide, v145 0 (by decide), fun c1 => ?_, fun c1 => ?_⟩
  · have c1 := (nI_leI (by omega) (by omega)).mp c1
    refine kI k (congrArg nI ?_)
    unfold slotsS
    split <;> (try split) <;> (try split) <;> omega
  · have c1 : ¬ s 0 0 ≤ a := fun q => c1 ((nI_leI (by omega) (by omega)).mpr q)
    refine ⟨⟨rfl, rfl, rfl, a * 2, by omega, pk_mul a 2, by omega⟩, ?_⟩
    rw [show nI a * 2 = nI (a * 2) from pk_mul a 2, clN (by omega), clN (by omega)]
    omega
theorem ok10_last {f : Int32 → qMI → qML → qMP → Prop} (hP : LAY P) (hG : GE (I 145) s) (k : f (nI (lastS (s 0 0))) I L P) : Sq (d + 1) mX10_lastRound SH0 [.ref 144] I L P (KI f) := by
  obtain ⟨g0, -⟩ := ref_P hP
  have hn := hG.1
  refine sp_X10_lastRound (fun x I' L' P' => I' = I ∧ L' = L ∧ P' = P ∧ ∃ a, (a = 1 ∨ a = 2 ∨ a = 3 ∨ a = 4) ∧ x = nI a ∧ (a = 1 ∨ 2 ^ (a - 1) < s 0 0)) (fun x _ _ _ => 20 - x.toNatClampNeg) ⟨rfl, rfl, rfl, 1, Or.inl rfl, rfl, Or.inl rfl⟩ ?_
  rintro x I' L' P' ⟨rfl, rfl, rfl, a, ha, rfl, hc⟩
  refine ⟨by decide, ?_⟩
  rw [g0, cl_0, hG.2.1, bitN (by omega)]
  have hp : 2 ^ a ≤ 2 ^ 4 := Nat.pow_le_pow_right (by decide) (by omega)
  refine ⟨by decide, v145 0 (by decide), fun c1 => ?_, fun c1 => ?_⟩
  · have c1 := (nI_leI (by omega) (by omega)).mp c1
    refine kI k (congrArg nI ?_)
    unfold lastS
    rcases ha with rfl | rfl | rfl | rfl <;> simp only [Nat.reducePow, Nat.reduceSub] at c1 hc <;> split <;> (try split) <;> (try split) <;> omega
  · have c1 : ¬ s 0 0 ≤ 2 ^ a := fun q => c1 ((nI_leI (by omega) (by omega)).mpr q)
    have c2 : a ≠ 4 := fun q => by subst q; omega
    refine ⟨⟨rfl, rfl, rfl, a + 1, by omega, nI_1 a, Or.inr (by rw [Nat.add_sub_cancel]; omega)⟩, ?_⟩
    rw [nI_1, clN (by omega), clN (by omega)]
    omega
theorem ok10_isSlot {x : Int32} {f : Int32 → qMI → qML → qMP → Prop} (hP : LAY P) (hG : GE (I 145) s) (k : f (b01 (isP (slotsS (s 0 0)) x)) I L P) : Sq (d + 2) mX10_isSlot SH0 [.ref 144, .int x] I L P (KI f) := by
  have hs := slotsS_in (s 0 0)
  refine sp_X10_isSlot ⟨by decide, ok10_slots hP hG (ok10_in (y := 0) rfl rfl ⟨b01_or, kI k (b01_cg ?_)⟩)⟩
  rw [nm1 (by omega), ti_0]
  unfold isP
  omega
theorem ok10_isRound {x : Int32} {f : Int32 → qMI → qML → qMP → Prop} (hP : LAY P) (hG : GE (I 145) s) (k : f (b01 (isRd s x)) I L P) : Sq (d + 2) mX10_isRound SH0 [.ref 144, .int x] I L P (KI f) := by
  have hs := lastS_le (s 0 0)
  refine sp_X10_isRound ⟨by decide, ok10_last hP hG (ok10_in (y := 1) rfl rfl ⟨b01_or, kI k (b01_cg ?_)⟩)⟩
  rw [show (nI (lastS (s 0 0))).toInt = (lastS (s 0 0) : Int) from nI_toInt (by omega), ti_1]
theorem sl_ge (n : Nat) (h : n ≤ 10) : n ≤ slotsS n := by
  have : ∀ m, m ≤ 10 → m ≤ slotsS m := by decide
  exact this n h
theorem ok10_byes {f : Int32 → qMI → qML → qMP → Prop} (hP : LAY P) (hG : GE (I 145) s) (k : f (nI (slotsS (s 0 0) - s 0 0)) I L P) : Sq (d + 2) mX10_byes SH0 [.ref 144] I L P (KI f) := by
  obtain ⟨g0, -⟩ := ref_P hP
  refine sp_X10_byes ⟨by decide, ok10_slots hP hG ?_⟩
  rw [g0, cl_0, hG.2.1]
  exact ⟨by decide, v145 0 (by decide), kI k (pk_sub (sl_ge _ hG.1)).symm⟩
theorem ok10_copies {c e a b : Nat} {f : qMI → qML → qMP → Prop} (hc : (shp SH0 c).1 = 20) (he : (shp SH0 e).1 = 20) (hca : a + 84 ≤ (shp SH0 c).2) (heb : b + 84 ≤ (shp SH0 e).2) (hcs : (shp SH0 c).2 < 2000) (hes : (shp SH0 e).2 < 2000) (hne : c ≠ e) (k : ∀ I', (∀ r, r ≠ e → I' r = I r) → (∀ j, I' e j = if b ≤ j ∧ j < b + 84 then I c (a + (j - b)) else I e j) → f I' L P) : Sq (d + 1) mX10_copies SH0 [.ref c, .int (nI a), .ref e, .int (nI b)] I L P (KV f) := by
  refine sp_X10_copies (fun x I' L' P' => L' = L ∧ P' = P ∧ ∃ o, o ≤ 84 ∧ x = nI o ∧ (∀ r, r ≠ e → I' r = I r) ∧ ∀ j, I' e j = if b ≤ j ∧ j < b + o then I c (a + (j - b)) else I e j) (fun x _ _ _ => 100 - x.toNatClampNeg) ⟨rfl, rfl, 0, Nat.zero_le _, rfl, fun _ _ => rfl, fun j => (if_neg (by omega)).symm⟩ ?_
  rintro x I1 L1 P1 ⟨rfl, rfl, o, ho, rfl, hF, hV⟩
  refine ⟨fun c1 => ?_, fun c1 => ?_⟩
  · have c1 := (nI_leI (a := 84) (by decide) (by omega)).mp c1
    have : o = 84 := by omega
    subst this
    exact k I1 hF hV
  · have c1 : ¬ 84 ≤ o := fun q => c1 ((nI_leI (a := 84) (by decide) (by omega)).mpr q)
    rw [nI_add, nI_add, nI_1, clN (by omega), clN (by omega)]
    refine ⟨hc, vin _ rfl (by omega) (by omega), he, vin _ rfl (by omega) (by omega), fun I6 e6 => ⟨⟨rfl, rfl, o + 1, by omega, rfl, fun r q => by rw [e6, uI_ne r q]; exact hF r q, fun j => ?_⟩, ?_⟩⟩
    · rw [e6, hF c hne]
      show (if e = e ∧ j = b + o then I c (a + o) else I1 e j) = _
      by_cases z : j = b + o
      · rw [if_pos ⟨rfl, z⟩, if_pos (by omega), z, show b + o - b = o by omega]
      · rw [if_neg (fun q => z q.2), hV]
        by_cases z2 : b ≤ j ∧ j < b + o
        · rw [if_pos z2, if_pos (by omega)]
        · rw [if_neg z2, if_neg (by omega)]
    · rw [clN (by omega), clN (by omega)]; omega
theorem ok10_clears {f : qMI → qML → qMP → Prop} (hP : LAY P) (k : ∀ I', (∀ r, r ≠ 145 → I' r = I r) → (∀ j, j < 84 → I' 145 j = if j = 3 ∨ j = 4 ∨ 45 ≤ j then 0 else I 145 j) → f I' L P) : Sq (d + 1) mX10_clears SH0 [.ref 144] I L P (KV f) := by
  obtain ⟨g0, -⟩ := ref_P hP
  refine sp_X10_clears (fun x I' L' P' => L' = L ∧ P' = P ∧ ∃ o, 45 ≤ o ∧ o ≤ 84 ∧ x = nI o ∧ (∀ r, r ≠ 145 → I' r = I r) ∧ ∀ j, j < 84 → I' 145 j = if j = 3 ∨ j = 4 ∨ (45 ≤ j ∧ j < o) then 0 else I 145 j) (fun x _ _ _ => 100 - x.toNatClampNeg) ⟨by decide, ?_⟩ ?_
  · rw [g0, cl_3, cl_4]
    refine ⟨by decide, v145 3 (by decide), fun I4 e4 => ⟨v145 4 (by decide), fun I6 e6 => ⟨rfl, rfl, 45, by decide, by decide, rfl, fun r q => by rw [e6, uI_ne r q, e4, uI_ne r q], fun j _ => ?_⟩⟩⟩
    rw [e6, e4]
    show (if 145 = 145 ∧ j = 4 then 0 else if 145 = 145 ∧ j = 3 then 0 else I 145 j) = _
    by_cases z : j = 4
    · rw [if_pos ⟨rfl, z⟩, if_pos (by omega)]
    · rw [if_neg (fun q => z q.2)]
      by_cases z2 : j = 3
      · rw [if_pos ⟨rfl, z2⟩, if_pos (by omega)]
      · rw [if_neg (fun q => z2 q.2), if_neg (by omega)]
  · rintro x I1 L1 P1 ⟨rfl, rfl, o, ho1, ho, rfl, hF, hV⟩
    refine ⟨fun c1 => ?_, fun c1 => ⟨by decide, ?_⟩⟩
    · have c1 := (nI_leI (a := 84) (by decide) (by omega)).mp c1
      have : o = 84 := by omega
      subst this
      refine k I1 hF fun j hj => ?_
      rw [hV j hj]
      by_cases z : j = 3 ∨ j = 4 ∨ 45 ≤ j
      · rw [if_pos z, if_pos (by omega)]
      · rw [if_neg z, if_neg (by omega)]
    · have c1 : ¬ 84 ≤ o := fun q => c1 ((nI_leI (a := 84) (by decide) (by omega)).mpr q)
      rw [g0, nI_1, clN (by omega)]
      refine ⟨by decide, v145 o (by omega), fun I5 e5 => ⟨⟨rfl, rfl, o + 1, by omega, by omega, rfl, fun r q => by rw [e5, uI_ne r q]; exact hF r q, fun j hj => ?_⟩, ?_⟩⟩
      · rw [e5]
        show (if 145 = 145 ∧ j = o then 0 else I1 145 j) = _
        by_cases z : j = o
        · rw [if_pos ⟨rfl, z⟩, if_pos (by omega)]
        · rw [if_neg (fun q => z q.2), hV j hj]
          by_cases z2 : j = 3 ∨ j = 4 ∨ (45 ≤ j ∧ j < o)
          · rw [if_pos z2, if_pos (by omega)]
          · rw [if_neg z2, if_neg (by omega)]
      · rw [clN (by omega)]; omega
theorem ok10_noDraw {f : qMI → qML → qMP → Prop} (hP : LAY P) (hG : GE (I 145) s) (k : ∀ I', (∀ r, r ≠ 145 → r ≠ 144 → I' r = I r) → (∀ j, j ≠ 17 → I' 144 j = I 144 j) → I' 144 17 = 0 → GS (I' 145) (dropS s) → f I' L P) : Sq (d + 2) mX10_noDraw SH0 [.ref 144] I L P (KV f) := by
  refine sp_X10_noDraw ⟨by decide, ok10_clears hP fun I' f' v' I5 e5 => k I5 (fun r q1 q2 => by rw [e5, uI_ne r q2]; exact f' r q1) (fun j hj => ?_) (by rw [e5]; exact if_pos ⟨rfl, rfl⟩) (hG.drop fun j hj => by rw [e5, uI_ne 145 (by decide)]; exact v' j hj)⟩
  rw [e5]
  show (if _ then _ else _) = _
  rw [if_neg (fun q => hj q.2), f' 144 (by decide)]
end RE
