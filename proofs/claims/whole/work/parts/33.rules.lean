/-! ===== the rules: which sets may stand in a block ===== -/
def bcE (x0 : Int32) : Int32 := ((((((((x0 - (((Int32.toUInt32 x0 >>> (Int32.toUInt32 1 &&& Int32.toUInt32 31)).toInt32) &&& 1431655765)) &&& 858993459) + (((Int32.toUInt32 (x0 - (((Int32.toUInt32 x0 >>> (Int32.toUInt32 1 &&& Int32.toUInt32 31)).toInt32) &&& 1431655765)) >>> (Int32.toUInt32 2 &&& Int32.toUInt32 31)).toInt32) &&& 858993459)) + ((Int32.toUInt32 (((x0 - (((Int32.toUInt32 x0 >>> (Int32.toUInt32 1 &&& Int32.toUInt32 31)).toInt32) &&& 1431655765)) &&& 858993459) + (((Int32.toUInt32 (x0 - (((Int32.toUInt32 x0 >>> (Int32.toUInt32 1 &&& Int32.toUInt32 31)).toInt32) &&& 1431655765)) >>> (Int32.toUInt32 2 &&& Int32.toUInt32 31)).toInt32) &&& 858993459)) >>> (Int32.toUInt32 4 &&& Int32.toUInt32 31)).toInt32)) &&& 252645135) + ((Int32.toUInt32 (((((x0 - (((Int32.toUInt32 x0 >>> (Int32.toUInt32 1 &&& Int32.toUInt32 31)).toInt32) &&& 1431655765)) &&& 858993459) + (((Int32.toUInt32 (x0 - (((Int32.toUInt32 x0 >>> (Int32.toUInt32 1 &&& Int32.toUInt32 31)).toInt32) &&& 1431655765)) >>> (Int32.toUInt32 2 &&& Int32.toUInt32 31)).toInt32) &&& 858993459)) + ((Int32.toUInt32 (((x0 - (((Int32.toUInt32 x0 >>> (Int32.toUInt32 1 &&& Int32.toUInt32 31)).toInt32) &&& 1431655765)) &&& 858993459) + (((Int32.toUInt32 (x0 - (((Int32.toUInt32 x0 >>> (Int32.toUInt32 1 &&& Int32.toUInt32 31)).toInt32) &&& 1431655765)) >>> (Int32.toUInt32 2 &&& Int32.toUInt32 31)).toInt32) &&& 858993459)) >>> (Int32.toUInt32 4 &&& Int32.toUInt32 31)).toInt32)) &&& 252645135) >>> (Int32.toUInt32 8 &&& Int32.toUInt32 31)).toInt32)) + ((Int32.toUInt32 ((((((x0 - (((Int32.toUInt32 x0 >>> (Int32.toUInt32 1 &&& Int32.toUInt32 31)).toInt32) &&& 1431655765)) &&& 858993459) + (((Int32.toUInt32 (x0 - (((Int32.toUInt32 x0 >>> (Int32.toUInt32 1 &&& Int32.toUInt32 31)).toInt32) &&& 1431655765)) >>> (Int32.toUInt32 2 &&& Int32.toUInt32 31)).toInt32) &&& 858993459)) + ((Int32.toUInt32 (((x0 - (((Int32.toUInt32 x0 >>> (Int32.toUInt32 1 &&& Int32.toUInt32 31)).toInt32) &&& 1431655765)) &&& 858993459) + (((Int32.toUInt32 (x0 - (((Int32.toUInt32 x0 >>> (Int32.toUInt32 1 &&& Int32.toUInt32 31)).toInt32) &&& 1431655765)) >>> (Int32.toUInt32 2 &&& Int32.toUInt32 31)).toInt32) &&& 858993459)) >>> (Int32.toUInt32 4 &&& Int32.toUInt32 31)).toInt32)) &&& 252645135) + ((Int32.toUInt32 (((((x0 - (((Int32.toUInt32 x0 >>> (Int32.toUInt32 1 &&& Int32.toUInt32 31)).toInt32) &&& 1431655765)) &&& 858993459) + (((Int32.toUInt32 (x0 - (((Int32.toUInt32 x0 >>> (Int32.toUInt32 1 &&& Int32.toUInt32 31)).toInt32) &&& 1431655765)) >>> (Int32.toUInt32 2 &&& Int32.toUInt32 31)).toInt32) &&& 858993459)) + ((Int32.toUInt32 (((x0 - (((Int32.toUInt32 x0 >>> (Int32.toUInt32 1 &&& Int32.toUInt32 31)).toInt32) &&& 1431655765)) &&& 858993459) + (((Int32.toUInt32 (x0 - (((Int32.toUInt32 x0 >>> (Int32.toUInt32 1 &&& Int32.toUInt32 31)).toInt32) &&& 1431655765)) >>> (Int32.toUInt32 2 &&& Int32.toUInt32 31)).toInt32) &&& 858993459)) >>> (Int32.toUInt32 4 &&& Int32.toUInt32 31)).toInt32)) &&& 252645135) >>> (Int32.toUInt32 8 &&& Int32.toUInt32 31)).toInt32)) >>> (Int32.toUInt32 16 &&& Int32.toUInt32 31)).toInt32)) &&& 63)
theorem bc_key : ∀ x, x < 1024 → nI (pc x) = bcE (nI x) := by decide +kernel
theorem sev_key : ∀ x, x < 1024 → ((nI x &&& (nI x - 1)) = 0 ↔ pc x ≤ 1) := by decide +kernel
def mk (f : Nat → Bool) : Nat → Nat
  | 0 => 0
  | n + 1 => mk f n ||| (if f n = true then 2 ^ n else 0)
theorem mk_lt (f : Nat → Bool) : ∀ n, mk f n < 2 ^ n
  | 0 => Nat.one_pos
  | n + 1 => by
    unfold mk
    have ih := mk_lt f n
    refine Nat.or_lt_two_pow (Nat.lt_of_lt_of_le ih (Nat.pow_le_pow_right (by decide) (by omega))) ?_
    split
    · exact Nat.pow_lt_pow_right (by decide) (by omega)
    · exact Nat.two_pow_pos _
theorem mk_bit (f : Nat → Bool) (i : Nat) : ∀ n, (mk f n).testBit i = (decide (i < n) && f i)
  | 0 => by simp [mk]
  | n + 1 => by
    unfold mk
    rw [Nat.testBit_or, mk_bit f i n]
    by_cases c : i = n
    · subst c
      cases hf : f i <;> simp
    · have e : (if f n = true then 2 ^ n else 0 : Nat).testBit i = false := by
        split
        · rw [Nat.testBit_two_pow]; exact decide_eq_false (fun q => c q.symm)
        · exact Nat.zero_testBit i
      rw [e, Bool.or_false, show decide (i < n + 1) = decide (i < n) from decide_eq_decide.mpr (by omega)]
theorem pcb_one : ∀ n x, 1 ≤ pcb n x → ∃ p, p < n ∧ x.testBit p = true
  | 0, _, h => absurd h (by unfold pcb; omega)
  | n + 1, x, h => by
    unfold pcb at h
    cases hb : x.testBit n with
    | true => exact ⟨n, by omega, hb⟩
    | false =>
      rw [hb] at h
      simp at h
      obtain ⟨p, h1, h2⟩ := pcb_one n x h
      exact ⟨p, by omega, h2⟩
theorem pcb_ex : ∀ n x, 2 ≤ pcb n x → ∃ p q, p < q ∧ q < n ∧ x.testBit p = true ∧ x.testBit q = true
  | 0, _, h => absurd h (by unfold pcb; omega)
  | n + 1, x, h => by
    unfold pcb at h
    cases hb : x.testBit n with
    | true =>
      rw [hb] at h
      simp at h
      obtain ⟨p, h1, h2⟩ := pcb_one n x (by omega)
      exact ⟨p, n, h1, by omega, h2, hb⟩
    | false =>
      rw [hb] at h
      simp at h
      obtain ⟨p, q, h1, h2, h3, h4⟩ := pcb_ex n x h
      exact ⟨p, q, h1, by omega, h3, h4⟩
theorem pc_two {x : Nat} : 2 ≤ pc x ↔ ∃ p q, p < q ∧ q < 10 ∧ x.testBit p = true ∧ x.testBit q = true :=
  ⟨fun h => pcb_ex 10 x h, fun ⟨p, q, h1, h2, h3, h4⟩ => pcb_two 10 p q (by omega) h2 (by omega) h3 h4⟩
theorem and_bit {a b i : Nat} : (a &&& b).testBit i = true ↔ a.testBit i = true ∧ b.testBit i = true := by rw [Nat.testBit_and, Bool.and_eq_true]
theorem and_lt {a b n : Nat} (h : a < 2 ^ n) : a &&& b < 2 ^ n := Nat.lt_of_le_of_lt Nat.and_le_left h
/-- those of one club, of one region -/
def mkV (s : Sit) (a v n : Nat) : Nat := mk (fun p => decide (s a p = v)) n
theorem mkV_bit {s : Sit} {a v n p : Nat} : (mkV s a v n).testBit p = true ↔ p < n ∧ s a p = v := by
  unfold mkV
  rw [mk_bit, Bool.and_eq_true, decide_eq_true_iff, decide_eq_true_iff]
theorem mkV_lt {s : Sit} {a v n : Nat} (hn : n ≤ 10) : mkV s a v n < 1024 := Nat.lt_of_lt_of_le (mk_lt _ n) (Nat.pow_le_pow_right (by decide) hn : 2 ^ n ≤ 2 ^ 10)
theorem unl_iff {s : Sit} {a set : Nat} (hs : set < 2 ^ s 0 0) (hn : s 0 0 ≤ 10) : ¬ unl s a set ↔ ∃ v, 1 ≤ v ∧ 2 ≤ pc (set &&& mkV s a v (s 0 0)) := by
  constructor
  · intro h
    refine Classical.byContradiction fun c => h fun p q hp hq hne h1 h2 e => Classical.byContradiction fun z => c ⟨s a p, by omega, ?_⟩
    rw [pc_two]
    have b1 := and_bit.mpr ⟨h1, (mkV_bit (v := s a p)).mpr ⟨hp, rfl⟩⟩
    have b2 := and_bit.mpr ⟨h2, (mkV_bit (v := s a p)).mpr ⟨hq, e.symm⟩⟩
    rcases Nat.lt_or_ge p q with y | y
    · exact ⟨p, q, y, by omega, b1, b2⟩
    · exact ⟨q, p, by omega, by omega, b2, b1⟩
  · rintro ⟨v, h1, h2⟩ h
    obtain ⟨p, q, g1, g2, g3, g4⟩ := pc_two.mp h2
    obtain ⟨a1, a2⟩ := and_bit.mp g3
    obtain ⟨b1, b2⟩ := and_bit.mp g4
    obtain ⟨c1, c2⟩ := mkV_bit.mp a2
    obtain ⟨d1, d2⟩ := mkV_bit.mp b2
    have := h p q c1 d1 (by omega) a1 b1 (by omega)
    omega
def RSh (sh : List qSh) (P : qMP) (a : Nat) : Prop := (shp sh a).1 = 5 ∧ shp sh (P a 3) = (20, 8) ∧ shp sh (P a 4) = (20, 8) ∧ P a 3 ≠ P a 4
def RG (I : qMI) (P : qMP) (a : Nat) (s : Sit) : Prop := ∃ (c : Nat) (G V : Nat → Nat), c ≤ 8 ∧ I a 5 = nI c ∧ (∀ i, i < c → I (P a 3) i = nI (G i) ∧ I (P a 4) i = nI (V i) ∧ G i < 1024 ∧ V i ≤ 4) ∧ ∀ r set, 1 ≤ r → set < 2 ^ s 0 0 → ((∃ i, i < c ∧ r ≤ V i ∧ 2 ≤ pc (set &&& G i)) ↔ ¬ ((s 5 0 < r ∨ unl s 1 set) ∧ (s 6 0 < r ∨ unl s 2 set)))
def RU (sh : List qSh) (I : qMI) (P : qMP) (a : Nat) (s : Sit) (w : Nat) (ap tg : Int32) : Prop := RSh sh P a ∧ I a 0 = nI (s 0 0) ∧ I a 1 = nI (slotsS (s 0 0)) ∧ (∃ wb, wb < 1024 ∧ I a 2 = nI wb ∧ ∀ p, p < s 0 0 → (wb.testBit p = true ↔ earlyP s p)) ∧ RG I P a s ∧ I a 6 = nI w ∧ w < 1024 ∧ I a 7 = ap ∧ I a 8 = tg
theorem RU.congr {sh : List qSh} {I I' : qMI} {P : qMP} {a : Nat} {s : Sit} {w : Nat} {ap tg : Int32} (h : RU sh I P a s w ap tg) (h1 : I' a = I a) (h2 : I' (P a 3) = I (P a 3)) (h3 : I' (P a 4) = I (P a 4)) : RU sh I' P a s w ap tg := by
  obtain ⟨a1, a2, a3, a4, ⟨c, G, V, g1, g2, g3, g4⟩, a6, a7, a8, a9⟩ := h
  exact ⟨a1, by rw [h1]; exact a2, by rw [h1]; exact a3, by rw [h1]; exact a4, ⟨c, G, V, g1, by rw [h1]; exact g2, by rw [h2, h3]; exact g3, g4⟩, by rw [h1]; exact a6, a7, by rw [h1]; exact a8, by rw [h1]; exact a9⟩
section RL
variable {d : Nat} {sh : List qSh} {I : qMI} {L : qML} {P : qMP} {a e : Nat} {s : Sit}
theorem ok_bc {x : Nat} {f : Int32 → qMI → qML → qMP → Prop} (hx : x < 1024) (k : f (nI (pc x)) I L P) : Sq (d + 1) mJ6_bitCount_0f7a4 sh [.int (nI x)] I L P (KI f) :=
  sp_J6_bitCount_0f7a4 (kI k (bc_key x hx))
theorem ok_sev {x : Nat} {f : Int32 → qMI → qML → qMP → Prop} (hx : x < 1024) (k : f (b01 (2 ≤ pc x)) I L P) : Sq (d + 1) mX5_severalOf sh [.int (nI x)] I L P (KI f) := by
  have e := sev_key x hx
  exact sp_X5_severalOf ⟨fun c => kI k (b01_f (by have := e.mp c; omega)), fun c => kI k (b01_t (Nat.not_le.mp (fun q => c (e.mpr (by omega)))))⟩
theorem ok_watch {x y z : Int32} {f : qMI → qML → qMP → Prop} (h : (shp sh a).1 = 5) (k : f (uI (uI (uI I a 6 x) a 7 y) a 8 z) L P) : Sq (d + 1) mX5_watch sh [.ref a, .int x, .int y, .int z] I L P (KV f) :=
  sp_X5_watch ⟨h, fun I2 e2 I3 e3 I4 e4 => by subst e4; subst e3; subst e2; exact k⟩
theorem ok_size {m r : Nat} {f : Int32 → qMI → qML → qMP → Prop} (h : (shp sh a).1 = 5) (h0 : I a 0 = nI (s 0 0)) (h1 : I a 1 = nI (slotsS (s 0 0))) (hn : s 0 0 ≤ 10) (hm : m ≤ 10) (hr : 1 ≤ r) (hr2 : r ≤ lastS (s 0 0)) (k : f (b01 (2 ^ r / 2 ≤ m ∧ s 0 0 + 2 ^ r ≤ m + slotsS (s 0 0) ∧ m ≤ 2 ^ r ∧ m + (slotsS (s 0 0) - 2 ^ r) / 2 ≤ s 0 0)) I L P) : Sq (d + 1) mX5_sizeFits sh [.ref a, .int (nI m), .int (nI r)] I L P (KI f) := by
  have hl := lastS_le (s 0 0)
  have hp := slots_pow hn
  have e1 : (1 : Int32) <<< (nI r &&& 31) = nI (2 ^ r) := by
    have := shlN (a := 1) (k := r) (by omega) (by
      have : 2 ^ r ≤ 2 ^ 4 := Nat.pow_le_pow_right (by decide) (by omega)
      omega)
    rw [Nat.one_mul] at this
    exact this
  have hr4 : 2 ^ r = 2 ∨ 2 ^ r = 4 ∨ 2 ^ r = 8 ∨ 2 ^ r = 16 := by
    have : r = 1 ∨ r = 2 ∨ r = 3 ∨ r = 4 := by omega
    rcases this with rfl | rfl | rfl | rfl <;> decide
  have hle : 2 ^ r ≤ slotsS (s 0 0) := by rw [hp]; exact Nat.pow_le_pow_right (by decide) hr2
  have hs := slotsS_in (s 0 0)
  refine sp_X5_sizeFits ⟨h, ?_⟩
  rw [e1, h0, h1]
  generalize 2 ^ r = R at *
  generalize slotsS (s 0 0) = S at *
  generalize s 0 0 = n at *
  rw [show nI R / 2 = nI (R / 2) from pk_div (by omega) (by decide) (by decide), pk_sub hle, show nI (S - R) / 2 = nI ((S - R) / 2) from pk_div (by omega) (by decide) (by decide)]
  have t1 : (nI n - nI (S - R)).toInt = (n : Int) - ((S - R : Nat) : Int) := pk_sub_toInt (by omega) (by omega)
  have t2 : (nI n - nI ((S - R) / 2)).toInt = (n : Int) - (((S - R) / 2 : Nat) : Int) := pk_sub_toInt (by omega) (by omega)
  have t3 : (nI (R / 2)).toInt = ((R / 2 : Nat) : Int) := nI_toInt (by omega)
  have t4 : (nI R).toInt = (R : Int) := nI_toInt (by omega)
  have t5 : (nI m).toInt = (m : Int) := nI_toInt (by omega)
  generalize nI n - nI (S - R) = u1 at *
  generalize nI n - nI ((S - R) / 2) = u2 at *
  generalize nI (R / 2) = u3 at *
  generalize nI R = u4 at *
  generalize nI m = u5 at *
  refine ⟨fun c => kI k (b01_f ?_), fun c => ⟨fun c2 => kI k (b01_f ?_), fun c2 => kI k (b01_t ?_)⟩⟩
  · split at c <;> (simp only [Int32.lt_iff_toInt_lt] at *; omega)
  · split at c <;> split at c2 <;> (simp only [Int32.lt_iff_toInt_lt] at *; omega)
  · split at c <;> split at c2 <;> (simp only [Int32.lt_iff_toInt_lt] at *; omega)
theorem ok_tooClose {r set : Nat} {f : Int32 → qMI → qML → qMP → Prop} (h : RSh sh P a) (g : RG I P a s) (hr : 1 ≤ r) (hr4 : r ≤ 4) (hs : set < 2 ^ s 0 0) (hn : s 0 0 ≤ 10) (k0 : ((s 5 0 < r ∨ unl s 1 set) ∧ (s 6 0 < r ∨ unl s 2 set)) → f 0 I L P) (k1 : ¬ ((s 5 0 < r ∨ unl s 1 set) ∧ (s 6 0 < r ∨ unl s 2 set)) → f 1 I L P) : Sq (d + 2) mX5_tooClose sh [.ref a, .int (nI set), .int (nI r)] I L P (KI f) := by
  obtain ⟨c, G, V, g1, g2, g3, g4⟩ := g
  obtain ⟨b1, b3, b4, b5⟩ := h
  have hs2 : set < 2 ^ 10 := Nat.lt_of_lt_of_le hs (Nat.pow_le_pow_right (by decide) hn)
  refine sp_X5_tooClose (fun x I' L' P' => I' = I ∧ L' = L ∧ P' = P ∧ ∃ o, o ≤ c ∧ x = nI o ∧ ∀ i, i < o → ¬ (r ≤ V i ∧ 2 ≤ pc (set &&& G i))) (fun x _ _ _ => 20 - x.toNatClampNeg) ⟨rfl, rfl, rfl, 0, Nat.zero_le _, rfl, fun i hi => absurd hi (Nat.not_lt_zero i)⟩ ?_
  rintro x I' L' P' ⟨rfl, rfl, rfl, o, ho, rfl, hj⟩
  refine ⟨b1, fun c1 => ?_, fun c1 => ?_⟩
  · rw [g2, nI_leI (by omega) (by omega)] at c1
    refine k0 (Classical.byContradiction fun z => ?_)
    obtain ⟨i, i1, i2, i3⟩ := (g4 r set hr hs).mpr z
    exact hj i (by omega) ⟨i2, i3⟩
  · rw [g2, nI_leI (by omega) (by omega)] at c1
    obtain ⟨q1, q2, q3, q4⟩ := g3 o (by omega)
    rw [b3, b4]
    refine ⟨rfl, fun c2 => absurd c2 (nI_ge (by show o < 8; omega) (by decide)), fun c2 => ⟨rfl, vin o rfl (by show o < 8; omega) (by decide), ?_⟩⟩
    rw [clN (by omega), q2, q1]
    have hm : 20 - (nI o + 1).toNatClampNeg < 20 - o := by
      rw [nI_1, clN (by omega)]
      omega
    refine ⟨fun c3 => ⟨⟨rfl, rfl, rfl, o + 1, by omega, nI_1 o, fun i hi => ?_⟩, hm⟩, fun c3 => ⟨vin o rfl (by show o < 8; omega) (by decide), ?_⟩⟩
    · rw [nI_ltI (by omega) (by omega)] at c3
      rcases Nat.lt_succ_iff_lt_or_eq.mp hi with z | rfl
      · exact hj i z
      · exact fun y => by have := y.1; omega
    · rw [nI_ltI (by omega) (by omega)] at c3
      rw [andN]
      refine ok_sev (and_lt (n := 10) hs2) ⟨fun c4 => ⟨⟨rfl, rfl, rfl, o + 1, by omega, nI_1 o, fun i hi => ?_⟩, hm⟩, fun c4 => k1 ((g4 r set hr hs).mp ⟨o, by omega, by omega, b01_n0.mp c4⟩)⟩
      rcases Nat.lt_succ_iff_lt_or_eq.mp hi with z | rfl
      · exact hj i z
      · exact fun y => b01_0.mp c4 y.2
theorem ok_watchedFits {r t w : Nat} {ap tg : Int32} {f : Int32 → qMI → qML → qMP → Prop} (h : (shp sh a).1 = 5) (h6 : I a 6 = nI w) (hw : w < 1024) (h7 : I a 7 = ap) (h8 : I a 8 = tg) (ht : t < 1024) (hr : r ≤ 4) (k0 : ¬ (((r : Int) = ap.toInt → pc t ≤ 1) ∧ ((r : Int) = tg.toInt → t = 0 ∨ t = w)) → f 0 I L P) (k1 : (((r : Int) = ap.toInt → pc t ≤ 1) ∧ ((r : Int) = tg.toInt → t = 0 ∨ t = w)) → f 1 I L P) : Sq (d + 2) mX5_watchedFits sh [.ref a, .int (nI t), .int (nI r)] I L P (KI f) := by
  have er : ∀ y : Int32, nI r = y ↔ (r : Int) = y.toInt := fun y => by rw [← Int32.toInt_inj, nI_toInt (by omega)]
  have e0 : nI t = 0 ↔ t = 0 := nI_eq (by omega) (by decide)
  have ew : nI t = nI w ↔ t = w := nI_eq (by omega) (by omega)
  refine sp_X5_watchedFits ⟨h, ?_⟩
  rw [h6, h7, h8]
  refine ⟨fun c1 => ⟨fun c2 => k1 ⟨fun q => absurd ((er _).mpr q) c1, fun q => absurd ((er _).mpr q) c2⟩, fun c2 => ⟨fun c3 => k1 ⟨fun q => absurd ((er _).mpr q) c1, fun _ => Or.inl (e0.mp c3)⟩, fun c3 => ⟨fun c4 => k0 fun q => ?_, fun c4 => k1 ⟨fun q => absurd ((er _).mpr q) c1, fun _ => Or.inr (ew.mp c4)⟩⟩⟩⟩, fun c1 => ok_sev ht ⟨fun c2 => ?_, fun c2 => k0 fun q => b01_n0.mp c2 |> fun y => by have := q.1 ((er _).mp c1); omega⟩⟩
  · rcases q.2 ((er _).mp c2) with z | z
    · exact c3 (e0.mpr z)
    · exact c4 (ew.mpr z)
  · have c2 := b01_0.mp c2
    rw [h6, h8]
    refine ⟨fun c3 => k1 ⟨fun _ => by omega, fun q => absurd ((er _).mpr q) c3⟩, fun c3 => ⟨fun c4 => k1 ⟨fun _ => by omega, fun _ => Or.inl (e0.mp c4)⟩, fun c4 => ⟨fun c5 => k0 fun q => ?_, fun c5 => k1 ⟨fun _ => by omega, fun _ => Or.inr (ew.mp c5)⟩⟩⟩⟩
    rcases q.2 ((er _).mp c3) with z | z
    · exact c4 (e0.mpr z)
    · exact c5 (ew.mpr z)
theorem ok_fits {r set w : Nat} {ap tg : Int32} {f : Int32 → qMI → qML → qMP → Prop} (h : RU sh I P a s w ap tg) (hn : s 0 0 ≤ 10) (hr : 1 ≤ r) (hr2 : r ≤ lastS (s 0 0)) (hs : set < 2 ^ s 0 0) (k0 : ¬ fitS s w ap.toInt tg.toInt r set → f 0 I L P) (k1 : fitS s w ap.toInt tg.toInt r set → f 1 I L P) : Sq (d + 3) mX5_fits sh [.ref a, .int (nI set), .int (nI r)] I L P (KI f) := by
  obtain ⟨a1, a2, a3, ⟨wb, w1, w2, w3⟩, a5, a6, a7, a8, a9⟩ := h
  have hl := lastS_le (s 0 0)
  have hs2 : set < 2 ^ 10 := Nat.lt_of_lt_of_le hs (Nat.pow_le_pow_right (by decide) hn)
  have hpn := pc_le_n hn hs
  have e1 : nI r = 1 ↔ r = 1 := nI_eq (by omega) (by decide)
  have hwb : set &&& wb = 0 ↔ ∀ p, p < s 0 0 → set.testBit p = true → ¬ earlyP s p := by
    constructor
    · intro q p hp hb he
      have := and_bit.mpr ⟨hb, (w3 p hp).mpr he⟩
      rw [q, Nat.zero_testBit] at this
      cases this
    · intro q
      apply Nat.eq_of_testBit_eq
      intro i
      rw [Nat.zero_testBit]
      cases hb : (set &&& wb).testBit i with
      | false => rfl
      | true =>
        obtain ⟨c1, c2⟩ := and_bit.mp hb
        rcases Nat.lt_or_ge i (s 0 0) with z | z
        · exact absurd ((w3 i z).mp c2) (q i z c1)
        · rw [big_bit hs z] at c1; cases c1
  refine sp_X5_fits (ok_bc hs2 ⟨a1.1, ok_size a1.1 a2 a3 hn (by omega) hr hr2 ⟨fun c1 => k0 fun q => b01_0.mp c1 q.1, fun c1 => ?_⟩⟩)
  have hv : viab s r set := by have z := b01_n0.mp c1; exact z
  have tail : ∀ {g : Int32 → qMI → qML → qMP → Prop}, (r = 1 → 2 ≤ pc set → ∀ p, p < s 0 0 → set.testBit p = true → ¬ earlyP s p) → (g = fun r12 I13 L14 P15 => ((¬ r12 = 0) → (KI f (some (.int 0)) I13 L14 P15)) ∧ ((r12 = 0) → (Sq (d + 2) mX5_watchedFits sh [.ref a, .int (nI set &&& (I13 a 6)), .int (nI r)] I13 L14 P15 (KI fun r17 I18 L19 P20 => ((r17 = 0) → (KI f (some (.int 0)) I18 L19 P20)) ∧ ((¬ r17 = 0) → (KI f (some (.int 1)) I18 L19 P20)))))) → Sq (d + 2) mX5_tooClose sh [.ref a, .int (nI set), .int (nI r)] I L P (KI g) := by
    intro g he hg
    subst hg
    refine ok_tooClose a1 a5 hr (by omega) hs hn (fun q => ⟨fun c => absurd rfl c, fun _ => ?_⟩) (fun q => ⟨fun _ => k0 fun y => q ⟨y.2.2.1, y.2.2.2.1⟩, fun c => absurd c (by decide)⟩)
    rw [a6, andN]
    exact ok_watchedFits a1.1 a6 a7 a8 a9 (and_lt (n := 10) hs2) (by omega) (fun y => ⟨fun _ => k0 fun z => y z.2.2.2.2, fun c => absurd rfl c⟩) (fun y => ⟨fun c => absurd c (by decide), fun _ => k1 ⟨hv, he, q.1, q.2, y⟩⟩)
  refine ⟨fun c2 => tail (fun q => absurd (e1.mpr q) c2) rfl, fun c2 => ?_⟩
  rw [w2, andN]
  have e0 : nI (set &&& wb) = 0 ↔ set &&& wb = 0 := nI_eq (Nat.lt_of_lt_of_le (and_lt hs2) (by decide)) (by decide)
  refine ⟨fun c3 => tail (fun _ _ => hwb.mp (e0.mp c3)) rfl, fun c3 => ok_sev hs2 ⟨fun c4 => k0 fun q => c3 (e0.mpr (hwb.mpr (q.2.1 (e1.mp c2) (b01_n0.mp c4)))), fun c4 => tail (fun _ q => absurd q (b01_0.mp c4)) rfl⟩⟩
end RL
