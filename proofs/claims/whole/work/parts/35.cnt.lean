/-! ===== the counter ===== -/
theorem and1023 {x : Nat} (h : x < 1024) : x &&& 1023 = x := by
  have : x &&& 1023 = x % 2 ^ 10 := Nat.and_two_pow_sub_one_eq_mod x 10
  omega
theorem a1023 {x : Nat} (h : x < 1024) : nI x &&& 1023 = nI x := by
  rw [show (1023 : Int32) = nI 1023 from rfl, andN, and1023 h]
theorem nxN {set p : Nat} (hs : set < 1024) (hp : p < 1024) : (nI p - nI set) &&& nI set = nI (nx set p) := by
  apply Int32.toBitVec_inj.1
  show (BitVec.ofNat 32 p - BitVec.ofNat 32 set) &&& BitVec.ofNat 32 set = BitVec.ofNat 32 (nx set p)
  apply BitVec.eq_of_toNat_eq
  rw [BitVec.toNat_and, BitVec.toNat_sub, BitVec.toNat_ofNat, BitVec.toNat_ofNat, BitVec.toNat_ofNat]
  unfold nx
  have key : ∀ x : Nat, x &&& set = x % 1024 &&& set := by
    intro x
    apply Nat.eq_of_testBit_eq
    intro i
    rw [Nat.testBit_and, Nat.testBit_and, show (1024 : Nat) = 2 ^ 10 from rfl, Nat.testBit_mod_two_pow]
    rcases Nat.lt_or_ge i 10 with z | z
    · rw [decide_eq_true z, Bool.true_and]
    · rw [big_bit (n := 10) hs z, Bool.and_false, Bool.and_false]
  have hl : ((p + 1024 - set) % 1024 &&& set) ≤ set := Nat.and_le_right
  have e1 : set % 2 ^ 32 = set := by omega
  have e2 : p % 2 ^ 32 = p := by omega
  rw [e1, e2, key ((2 ^ 32 - set + p) % 2 ^ 32), Nat.mod_eq_of_lt (a := (p + 1024 - set) % 1024 &&& set) (by omega)]
  congr 1
  omega
theorem bo_f {c : Prop} (h : ¬ c) : bo c = false := by
  cases hc : bo c with
  | false => rfl
  | true => exact absurd (bo_iff.mp hc) h
noncomputable def mu (n : Nat) (pn : Nat → Prop) (sg : Nat → Nat) (r b : Nat) : Nat := mk (fun p => bo (pn p ∧ sg p / 2 ^ r = b)) n
noncomputable def pmS (n : Nat) (pn : Nat → Prop) : Nat := mk (fun p => bo (pn p)) n
theorem mu_lt {n : Nat} {pn : Nat → Prop} {sg : Nat → Nat} {r b : Nat} : mu n pn sg r b < 2 ^ n := mk_lt _ _
theorem pmS_lt {n : Nat} {pn : Nat → Prop} : pmS n pn < 2 ^ n := mk_lt _ _
theorem p10 {n x : Nat} (hn : n ≤ 10) (h : x < 2 ^ n) : x < 1024 := Nat.lt_of_lt_of_le h (Nat.pow_le_pow_right (by decide) hn : 2 ^ n ≤ 2 ^ 10)
theorem mu_bit {n : Nat} {pn : Nat → Prop} {sg : Nat → Nat} {r b p : Nat} : (mu n pn sg r b).testBit p = true ↔ p < n ∧ pn p ∧ sg p / 2 ^ r = b := by
  unfold mu
  rw [mk_bit, Bool.and_eq_true, decide_eq_true_iff, bo_iff]
theorem pmS_bit {n : Nat} {pn : Nat → Prop} {p : Nat} : (pmS n pn).testBit p = true ↔ p < n ∧ pn p := by
  unfold pmS
  rw [mk_bit, Bool.and_eq_true, decide_eq_true_iff, bo_iff]
theorem bits_eq {a b : Nat} (h : ∀ i, a.testBit i = true ↔ b.testBit i = true) : a = b := by
  apply Nat.eq_of_testBit_eq
  intro i
  have := h i
  cases ha : a.testBit i <;> cases hb : b.testBit i <;> simp_all
theorem bits_lt {a i n : Nat} (h : a < 2 ^ n) (hb : a.testBit i = true) : i < n := by
  rcases Nat.lt_or_ge i n with z | z
  · exact z
  · rw [big_bit h z] at hb; cases hb
theorem pin_iff {n : Nat} {pn : Nat → Prop} {sg : Nat → Nat} {r b set : Nat} (hs : set < 2 ^ n) : pinP n pn sg r b set ↔ set &&& pmS n pn = mu n pn sg r b := by
  constructor
  · intro h
    refine bits_eq fun i => ?_
    rw [and_bit, pmS_bit, mu_bit]
    constructor
    · rintro ⟨h1, h2, h3⟩; exact ⟨h2, h3, (h i h2 h3).mpr h1⟩
    · rintro ⟨h1, h2, h3⟩; exact ⟨(h i h1 h2).mp h3, h1, h2⟩
  · intro h p hp hq
    have e : (set &&& pmS n pn).testBit p = true ↔ (mu n pn sg r b).testBit p = true := by rw [h]
    rw [and_bit, pmS_bit, mu_bit] at e
    constructor
    · intro z; exact (e.mpr ⟨hp, hq, z⟩).1
    · intro z; exact (e.mp ⟨z, hp, hq⟩).2.2
theorem notAll : ∀ n, n ≤ 10 → ∀ m, m < 2 ^ n → (nI m &&& (nI (2 ^ n - 1) ^^^ (-1))) = 0 ∧ (nI (2 ^ n - 1) &&& (nI m ^^^ (-1))) = nI ((2 ^ n - 1) ^^^ m) := by decide +kernel
def isCnt (a : Nat) : Prop := a = 88 ∨ a = 112
theorem cnt_all9 : ∀ a, a = 88 ∨ a = 112 → [(a, 0, a + 1), (a + 1, 3, a + 2), (a + 1, 4, a + 3), (a, 1, a + 4), (a + 4, 3, a + 5), (a, 8, a + 6), (a, 9, a + 7)].all (fun z => decide (z ∈ LT0)) = true ∧ (List.range 16).all (fun i => decide ((a + 7, i, a + 8 + i) ∈ LT0)) = true := by
  rintro a (rfl | rfl) <;> decide +kernel
theorem cnt_P {P : qMP} (h : LAY P) {a : Nat} (ha : isCnt a) : P a 0 = a + 1 ∧ P (a + 1) 3 = a + 2 ∧ P (a + 1) 4 = a + 3 ∧ P a 1 = a + 4 ∧ P (a + 4) 3 = a + 5 ∧ P a 8 = a + 6 ∧ P a 9 = a + 7 ∧ ∀ i, i < 16 → P (a + 7) i = a + 8 + i := by
  obtain ⟨q1, q2⟩ := cnt_all9 a ha
  have q1 := List.all_eq_true.mp q1
  have q2 := List.all_eq_true.mp q2
  exact ⟨h (a, 0, a + 1) (of_decide_eq_true (q1 _ (by simp))), h (a + 1, 3, a + 2) (of_decide_eq_true (q1 _ (by simp))), h (a + 1, 4, a + 3) (of_decide_eq_true (q1 _ (by simp))), h (a, 1, a + 4) (of_decide_eq_true (q1 _ (by simp))), h (a + 4, 3, a + 5) (of_decide_eq_true (q1 _ (by simp))), h (a, 8, a + 6) (of_decide_eq_true (q1 _ (by simp))), h (a, 9, a + 7) (of_decide_eq_true (q1 _ (by simp))), fun i hi => h _ (of_decide_eq_true (q2 i (List.mem_range.mpr hi)))⟩
theorem cnt_K {a : Nat} (ha : isCnt a) : shp SH0 a = (0, 0) ∧ shp SH0 (a + 1) = (5, 0) ∧ shp SH0 (a + 2) = (20, 8) ∧ shp SH0 (a + 3) = (20, 8) ∧ shp SH0 (a + 4) = (2, 0) ∧ shp SH0 (a + 5) = (20, 40) ∧ shp SH0 (a + 6) = (20, 32) ∧ shp SH0 (a + 7) = (24, 16) ∧ ∀ i, i < 16 → shp SH0 (a + 8 + i) = (21, 1024) := by
  rcases ha with rfl | rfl <;> decide +kernel
theorem cnt_RSh {P : qMP} (h : LAY P) {a : Nat} (ha : isCnt a) : RSh SH0 P (a + 1) := by
  obtain ⟨p0, p1, p2, p3, p4, p5, p6, p7⟩ := cnt_P h ha
  obtain ⟨k0, k1, k2, k3, k4, k5, k6, k7, k8⟩ := cnt_K ha
  exact ⟨by rw [k1], by rw [p1, k2], by rw [p2, k3], by rw [p1, p2]; omega⟩
/-- the counter has begun for s, with players pinned -/
def CB (I : qMI) (P : qMP) (a : Nat) (s : Sit) (pn : Nat → Prop) (sg : Nat → Nat) (w : Nat) (ap tg : Int32) : Prop := RU SH0 I P (a + 1) s w ap tg ∧ ES SH0 I P (a + 4) s ∧ I a 4 = nI (2 ^ s 0 0 - 1) ∧ I a 5 = nI (slotsS (s 0 0)) ∧ I a 6 = nI (lastS (s 0 0)) ∧ I a 7 = nI (pmS (s 0 0) pn) ∧ (∀ r b, r ≤ lastS (s 0 0) → b < TB (s 0 0) r → I (a + 6) (TB (s 0 0) r + b) = nI (mu (s 0 0) pn sg r b)) ∧ (∀ p, p < s 0 0 → pn p → sg p < slotsS (s 0 0)) ∧ (∀ p q, p < s 0 0 → q < s 0 0 → pn p → pn q → sg p = sg q → p = q)
theorem CB.congr {I I' : qMI} {P : qMP} {a : Nat} {s : Sit} {pn : Nat → Prop} {sg : Nat → Nat} {w : Nat} {ap tg : Int32} (hP : LAY P) (ha : isCnt a) (h : CB I P a s pn sg w ap tg) (q : ∀ r, a ≤ r → r < a + 8 → I' r = I r) : CB I' P a s pn sg w ap tg := by
  obtain ⟨p0, p1, p2, p3, p4, p5, p6, p7⟩ := cnt_P hP ha
  obtain ⟨a1, a2, a3, a4, a5, a6, a7, a8⟩ := h
  have ea := q a (by omega) (by omega)
  exact ⟨a1.congr (q _ (by omega) (by omega)) (by rw [p1]; exact q _ (by omega) (by omega)) (by rw [p2]; exact q _ (by omega) (by omega)), a2.congr (q _ (by omega) (by omega)) (by rw [p4]; exact q _ (by omega) (by omega)) rfl, by rw [ea]; exact a3, by rw [ea]; exact a4, by rw [ea]; exact a5, by rw [ea]; exact a6, by rw [q _ (by omega) (by omega)]; exact a7, a8⟩
/-- a row of the counter is filled -/
def RF (L : qML) (a : Nat) (A : Nat → Nat → Nat → Bool) (n : Nat) (pn : Nat → Prop) (sg : Nat → Nat) (r b : Nat) : Prop := ∀ set, set < 2 ^ n → set &&& pmS n pn = mu n pn sg r b → L (a + 8 + (TB n r + b)) set = lN (gc A r b set)
section CN
variable {d : Nat} {I : qMI} {L : qML} {P : qMP} {a : Nat} {s : Sit} {pn : Nat → Prop} {sg : Nat → Nat} {w : Nat} {ap tg : Int32}
theorem gc_bad {i1 i2 : Int} {r b set : Nat} (hs : set < 2 ^ s 0 0) (h : ¬ (set &&& pmS (s 0 0) pn = mu (s 0 0) pn sg r b)) : gc (xA s pn sg w i1 i2) r b set = 0 := by
  rcases Nat.eq_zero_or_pos (gc (xA s pn sg w i1 i2) r b set) with q | q
  · exact q
  · have := bo_iff.mp (gc_node (fun z => by omega : gc (xA s pn sg w i1 i2) r b set ≠ 0))
    exact absurd ((pin_iff hs).mp this.1) h
theorem ok_waysOf {r b B set : Nat} {f : Int64 → qMI → qML → qMP → Prop} (hP : LAY P) (ha : isCnt a) (h : CB I P a s pn sg w ap tg) (hn : s 0 0 ≤ 10) (hr : r ≤ lastS (s 0 0)) (hb : b < TB (s 0 0) r) (hB : B = TB (s 0 0) r + b) (hs : set < 2 ^ s 0 0) (hR : 1 ≤ r → RF L a (xA s pn sg w ap.toInt tg.toInt) (s 0 0) pn sg r b) (k : f (lN (gc (xA s pn sg w ap.toInt tg.toInt) r b set)) I L P) : Sq (d + 2) mX0_waysOf SH0 [.ref a, .int (nI B), .int (nI set)] I L P (KL f) := by
  obtain ⟨p0, p1, p2, p3, p4, p5, p6, p7⟩ := cnt_P hP ha
  obtain ⟨k0, k1, k2, k3, k4, k5, k6, k7, k8⟩ := cnt_K ha
  obtain ⟨a1, a2, a3, a4, a5, a6, a7, a8, a9⟩ := id h
  have t := TB_all _ hn r hr
  have hsl := slotsS_in (s 0 0)
  have hs10 := p10 hn hs
  have hT0 : r = 0 → TB (s 0 0) r = slotsS (s 0 0) := fun q => by rw [q, TB_0]
  have hlt : B < 2 * slotsS (s 0 0) ∧ B < 32 ∧ 1 ≤ B ∧ (1 ≤ r → B < 16) ∧ (B < slotsS (s 0 0) ↔ 1 ≤ r) := by
    rcases Nat.eq_zero_or_pos r with z | z
    · have := hT0 z; omega
    · have t5 := t.2.2.2.2 z
      have t3 := t.2.2.1
      have : 2 ≤ 2 ^ r := by
        have : 2 ^ 1 ≤ 2 ^ r := Nat.pow_le_pow_right (by decide) z
        omega
      have t6 : TB (s 0 0) r * 2 ≤ TB (s 0 0) r * 2 ^ r := Nat.mul_le_mul_left _ this
      omega
  obtain ⟨l1, l2, l3, l4, l5⟩ := hlt
  have hbad : ¬ (set &&& pmS (s 0 0) pn = mu (s 0 0) pn sg r b) → gc (xA s pn sg w ap.toInt tg.toInt) r b set = 0 := gc_bad hs
  refine sp_X0_waysOf ⟨fun c => absurd c (nI_nlt (a := B) (b := 1) l3 (by omega)), fun _ => ⟨by rw [k0], ?_⟩⟩
  rw [a4, a3, a6, p5, k6, show (2 : Int32) * nI (slotsS (s 0 0)) = nI (2 * slotsS (s 0 0)) from pk_mul 2 _, (notAll _ hn _ hs).1, andN]
  refine ⟨fun c => absurd c (nI_ge l1 (by omega)), fun _ => ⟨fun c => absurd rfl c, fun _ => ⟨rfl, vin B rfl l2 (by decide), ?_⟩⟩⟩
  rw [clN (by omega), hB, a7 r b hr hb, ← hB, a1023 hs10]
  refine ⟨fun c1 => ?_, fun c1 => ?_⟩
  · have hq := and_lt (n := 10) (b := pmS (s 0 0) pn) hs10
    have hm := p10 hn (mu_lt (n := s 0 0) (pn := pn) (sg := sg) (r := r) (b := b))
    have c1 := nI_inj (by omega) (by omega) c1
    refine ⟨fun c2 => ?_, fun c2 => ?_⟩
    · rw [nI_ltI (by omega) (by omega)] at c2
      have hr1 := l5.mp c2
      rw [p6, k7, p7 B (l4 hr1), k8 B (l4 hr1)]
      refine ⟨rfl, vin B rfl (l4 hr1) (by decide), rfl, vin set rfl hs10 (by decide), kL k ?_⟩
      rw [clN (by omega)]
      have := hR hr1 set hs c1
      rw [← hB] at this
      exact this.symm
    · rw [nI_ltI (by omega) (by omega)] at c2
      have hr0 : r = 0 := by omega
      subst hr0
      have hpc := pc_le_n hn hs
      refine ok_bc hs10 ?_
      have hg : gc (xA s pn sg w ap.toInt tg.toInt) 0 b set = if pc set ≤ 1 then 1 else 0 := by
        unfold gc
        by_cases z : pc set ≤ 1
        · rw [if_pos (show xA s pn sg w ap.toInt tg.toInt 0 b set = true from bo_iff.mpr ⟨(pin_iff hs).mpr c1, fun _ => z, fun q => absurd q (by decide)⟩), if_pos z]
        · rw [if_neg (show ¬ xA s pn sg w ap.toInt tg.toInt 0 b set = true from fun q => z ((bo_iff.mp q).2.1 rfl)), if_neg z]
      refine ⟨fun c3 => kL k ?_, fun c3 => kL k ?_⟩
      · have c3 : nI 1 < nI (pc set) := c3
        rw [nI_ltI (by decide) (by omega)] at c3
        rw [hg, if_neg (by omega)]; rfl
      · have c3 : ¬ nI 1 < nI (pc set) := c3
        rw [nI_ltI (by decide) (by omega)] at c3
        rw [hg, if_pos (by omega)]; rfl
  · refine kL k ?_
    rw [hbad fun q => c1 (by rw [q])]
    rfl
end CN
