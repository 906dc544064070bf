/-! ===== the reference: which sets may stand in a block ===== -/
noncomputable def bz (c : Prop) : Int32 := if bo c = true then 1 else 0
theorem bz_t {c : Prop} (h : c) : bz c = 1 := if_pos (bo_iff.mpr h)
theorem bz_f {c : Prop} (h : ¬ c) : bz c = 0 := if_neg fun q => h (bo_iff.mp q)
theorem bz_0 {c : Prop} : bz c = 0 ↔ ¬ c := by
  constructor
  · intro h q
    rw [bz_t q] at h
    exact absurd h (by decide)
  · exact bz_f
theorem bz_n0 {c : Prop} : ¬ bz c = 0 ↔ c := by
  rw [bz_0]
  exact Classical.not_not
theorem bz_or {c : Prop} : bz c = 0 ∨ bz c = 1 := by
  by_cases h : c
  · exact Or.inr (bz_t h)
  · exact Or.inl (bz_f h)
theorem bz_cg {c e : Prop} (h : c ↔ e) : bz c = bz e := by
  by_cases q : c
  · rw [bz_t q, bz_t (h.mp q)]
  · rw [bz_f q, bz_f (fun z => q (h.mpr z))]
theorem bz_nar {c : Prop} : vp_nar .boolean (bz c) = bz c := by
  rcases bz_or (c := c) with h | h <;> rw [h] <;> decide
theorem bitT {set o : Nat} (hs : set < 2147483648) (ho : o < 32) : ((nI set >>> (nI o &&& 31)) &&& 1) = 1 ↔ set.testBit o = true := by
  rw [shrN hs ho, show (1 : Int32) = nI 1 from rfl, andN, Nat.and_one_is_mod, Nat.testBit_eq_decide_div_mod_eq, decide_eq_true_iff]
  exact nI_eq (by omega) (by decide)
theorem bo4_lt {n r b : Nat} (h4 : r ≤ 4) (hb : b < TB n r) : bo4 r + b < 31 := by
  obtain ⟨b1, b2, b3, b4⟩ := TB_b n
  have hs := slotsS_in n
  have hr : r = 0 ∨ r = 1 ∨ r = 2 ∨ r = 3 ∨ r = 4 := by omega
  unfold bo4
  rcases hr with rfl | rfl | rfl | rfl | rfl
  · rw [TB_0] at hb; simp; omega
  · simp; omega
  · simp; omega
  · simp; omega
  · simp; omega
theorem bo4_inj {n r q b c : Nat} (h4 : r ≤ 4) (q4 : q ≤ 4) (hb : b < TB n r) (hc : c < TB n q) (h : bo4 r + b = bo4 q + c) : r = q ∧ b = c := by
  obtain ⟨b1, b2, b3, b4⟩ := TB_b n
  have hs := slotsS_in n
  have t0 := TB_0 n
  have hr : r = 0 ∨ r = 1 ∨ r = 2 ∨ r = 3 ∨ r = 4 := by omega
  have hq : q = 0 ∨ q = 1 ∨ q = 2 ∨ q = 3 ∨ q = 4 := by omega
  unfold bo4 at h
  rcases hr with rfl | rfl | rfl | rfl | rfl <;> rcases hq with rfl | rfl | rfl | rfl | rfl <;> simp at h <;> omega
theorem pc_hc : ((List.range 1024).all fun x => pc x == pc (x / 2) + x % 2) = true := by decide +kernel
theorem pc_half {x : Nat} (h : x < 1024) : pc x = pc (x / 2) + x % 2 := by
  have := List.all_eq_true.mp pc_hc x (List.mem_range.mpr h)
  exact beq_iff_eq.mp this
def PR (I : qMI) (s : Sit) : Prop := (∃ e, I 144 22 = nI e ∧ e < 1024 ∧ ∀ p, p < s 0 0 → (e.testBit p = true ↔ earlyP s p)) ∧ (∀ p, p < s 0 0 → I 159 p = if seated s p then nI (seatF s p) else -2) ∧ ∀ set, set < 2 ^ s 0 0 → I 158 set = nI (pc set) ∧ I 156 set = bz (unl s 1 set) ∧ I 157 set = bz (unl s 2 set)
section RS
variable {d : Nat} {I : qMI} {L : qML} {P : qMP} {W : Wd} {s : Sit}
theorem ok10_blockAt {r b : Nat} {f : Int32 → qMI → qML → qMP → Prop} (h4 : r ≤ 4) (k : f (nI (1024 * (bo4 r + b))) I L P) : Sq (d + 1) mX10_blockAt SH0 [.int (nI r), .int (nI b)] I L P (KI f) := by
  have e : ∀ q, q < 5 → (nI r = nI q ↔ r = q) := fun q hq => nI_eq (by omega) (by omega)
  have m : ∀ c, (1024 : Int32) * (nI c + nI b) = nI (1024 * (c + b)) := fun c => (congrArg (fun q => (1024 : Int32) * q) (nI_add c b)).trans (pk_mul 1024 (c + b))
  unfold bo4 at k
  refine sp_X10_blockAt ⟨fun c0 => ⟨fun c1 => ⟨fun c2 => ⟨fun c3 => kI k ?_, fun c3 => kI k ?_⟩, fun c2 => kI k ?_⟩, fun c1 => kI k ?_⟩, fun c0 => kI k ?_⟩
  · have c0 : r ≠ 0 := fun q => c0 ((e 0 (by decide)).mpr q)
    have c1 : r ≠ 1 := fun q => c1 ((e 1 (by decide)).mpr q)
    have c2 : r ≠ 2 := fun q => c2 ((e 2 (by decide)).mpr q)
    have c3 : r ≠ 3 := fun q => c3 ((e 3 (by decide)).mpr q)
    rw [if_neg c0, if_neg c1, if_neg c2, if_neg c3]; exact (m 30).symm
  · have := (e 3 (by decide)).mp c3
    subst this
    exact (m 28).symm
  · have := (e 2 (by decide)).mp c2
    subst this
    exact (m 24).symm
  · have := (e 1 (by decide)).mp c1
    subst this
    exact (m 16).symm
  · have := (e 0 (by decide)).mp c0
    subst this
    exact (m 0).symm
theorem ok10_areUnlike {set a : Nat} {f : Int32 → qMI → qML → qMP → Prop} (hP : LAY P) (hG : GE (I 145) s) (we : WE s) (ha : a < 2) (hs : set < 2 ^ s 0 0) (k : f (bz (unl s (1 + a) set)) I L P) : Sq (d + 1) mX10_areUnlike SH0 [.ref 144, .int (nI set), .int (nI (5 + 10 * a))] I L P (KI f) := by
  obtain ⟨g0, -⟩ := ref_P hP
  have hn := hG.1
  have h10 := p10 hn hs
  have hv : ∀ p, p < s 0 0 → s (1 + a) p ≤ 5 := fun p hp => by
    have := we.2.2.2.1 p hp
    have ha : a = 0 ∨ a = 1 := by omega
    rcases ha with rfl | rfl
    · exact this.1
    · exact Nat.le_trans this.2.1 (by decide)
  refine sp_X10_areUnlike (fun x3 x4 I' L' P' => I' = I ∧ L' = L ∧ P' = P ∧ ∃ m o, x3 = nI m ∧ x4 = nI o ∧ o ≤ s 0 0 ∧ m < 64 ∧ (∀ c, 1 ≤ c → (m.testBit c = true ↔ ∃ p, p < o ∧ set.testBit p = true ∧ s (1 + a) p = c)) ∧ ∀ p q, p < o → q < o → p ≠ q → set.testBit p = true → set.testBit q = true → s (1 + a) p = s (1 + a) q → s (1 + a) p = 0) (fun _ x4 _ _ _ => 20 - x4.toNatClampNeg) ⟨rfl, rfl, rfl, 0, 0, rfl, rfl, Nat.zero_le _, by decide, fun c _ => ?_, fun p q hp => absurd hp (Nat.not_lt_zero p)⟩ ?_
  · rw [Nat.zero_testBit]
    exact ⟨fun q => absurd q (by decide), fun ⟨p, hp, _⟩ => absurd hp (Nat.not_lt_zero p)⟩
  · rintro x3 x4 I' L' P' ⟨rfl, rfl, rfl, m, o, rfl, rfl, ho, hm, hb, hd⟩
    refine ⟨by decide, ?_⟩
    rw [g0, cl_0, hG.2.1]
    refine ⟨by decide, v145 0 (by decide), fun c => kI k ?_, fun c => ?_⟩
    · have c := (nI_leI (by omega) (by omega)).mp c
      have : o = s 0 0 := by omega
      subst this
      exact bz_t hd
    · have c : o < s 0 0 := Nat.lt_of_not_le fun q => c (nI_le q (by omega))
      have hvo := hv o c
      have stp : ∀ z, z = (if set.testBit o = true then s (1 + a) o else 0) → (1 ≤ z → ¬ m.testBit z = true) → (I' = I' ∧ L' = L' ∧ P' = P' ∧ ∃ m_1 o_1, nI m ||| nI (2 ^ z) = nI m_1 ∧ nI o + 1 = nI o_1 ∧ o_1 ≤ s 0 0 ∧ m_1 < 64 ∧ (∀ c, 1 ≤ c → (m_1.testBit c = true ↔ ∃ p, p < o_1 ∧ set.testBit p = true ∧ s (1 + a) p = c)) ∧ ∀ p q, p < o_1 → q < o_1 → p ≠ q → set.testBit p = true → set.testBit q = true → s (1 + a) p = s (1 + a) q → s (1 + a) p = 0) ∧ 20 - (nI o + 1).toNatClampNeg < 20 - (nI o).toNatClampNeg := by
        intro z hz hno
        have z5 : z ≤ 5 := by rw [hz]; split <;> omega
        refine ⟨⟨rfl, rfl, rfl, m ||| 2 ^ z, o + 1, orN _ _, nI_1 o, c, ?_, fun c9 h9 => ?_, fun p q hp hq hne h1 h2 he => ?_⟩, ?_⟩
        · exact Nat.or_lt_two_pow (n := 6) hm (Nat.lt_of_le_of_lt (Nat.pow_le_pow_right (by decide) z5) (by decide))
        · rw [or_bit, hb c9 h9, Nat.testBit_two_pow, decide_eq_true_iff]
          constructor
          · rintro (⟨p, p1, p2, p3⟩ | q)
            · exact ⟨p, by omega, p2, p3⟩
            · subst q
              by_cases hs : set.testBit o = true
              · rw [if_pos hs] at hz
                exact ⟨o, by omega, hs, hz.symm⟩
              · rw [if_neg hs] at hz; omega
          · rintro ⟨p, p1, p2, p3⟩
            rcases Nat.lt_succ_iff_lt_or_eq.mp p1 with w | w
            · exact Or.inl ⟨p, w, p2, p3⟩
            · subst w
              right
              rw [if_pos p2] at hz
              omega
        · have old : ∀ p, p < o → set.testBit p = true → set.testBit o = true → s (1 + a) p = s (1 + a) o → s (1 + a) p = 0 := fun p hp h1 h2 he => by
            rw [if_pos h2] at hz
            rcases Nat.eq_zero_or_pos z with y | y
            · omega
            · exact absurd ((hb z y).mpr ⟨p, hp, h1, by omega⟩) (hno y)
          rcases Nat.lt_succ_iff_lt_or_eq.mp hp with w | w
          · rcases Nat.lt_succ_iff_lt_or_eq.mp hq with w2 | w2
            · exact hd p q w w2 hne h1 h2 he
            · subst w2; exact old p w h1 h2 he
          · subst w
            rcases Nat.lt_succ_iff_lt_or_eq.mp hq with w2 | w2
            · have := old q w2 h2 h1 he.symm
              omega
            · omega
        · rw [nI_1, clN (by omega), clN (by omega)]; omega
      have b0 : (1 : Int32) <<< ((0 : Int32) &&& 31) = nI (2 ^ 0) := by decide
      have hval : I' 145 (5 + 10 * a + o) = nI (s (1 + a) o) := hG.2.2.2.2 o a c (by omega)
      rw [b0, nI_add, clN (p := 5 + 10 * a + o) (by omega), hval, bitN (o := s (1 + a) o) (by omega)]
      refine ⟨fun c2 => ?_, fun c2 => ⟨v145 _ (by omega), fun c3 => ?_, fun c3 => ⟨fun c4 => ?_, fun c4 => kI k (bz_f fun q => ?_)⟩⟩⟩
      · have c2 := fun q => c2 ((bitT (set := set) (o := o) (by omega) (by omega)).mpr q)
        exact stp 0 (by rw [if_neg c2]) (fun q => absurd q (by decide))
      · have c2 := (bitT (by omega) (by omega)).mp c2
        have c3 := (nI_leI (b := 0) (by omega) (by decide)).mp c3
        exact stp _ (by rw [if_pos c2]) (fun q => by omega)
      · have c2 := (bitT (by omega) (by omega)).mp c2
        have c4 := fun q => c4 ((bitT (set := m) (o := s (1 + a) o) (by omega) (by omega)).mpr q)
        exact stp _ (by rw [if_pos c2]) (fun _ => c4)
      · have c2 := (bitT (by omega) (by omega)).mp c2
        have c4 := (bitT (by omega) (by omega)).mp c4
        have c3 : 1 ≤ s (1 + a) o := Nat.lt_of_not_le fun q => c3 ((nI_leI (b := 0) (by omega) (by decide)).mpr q)
        obtain ⟨p, h1, h2, h3⟩ := (hb _ c3).mp c4
        have := q p o (by omega) c (by omega) h2 c2 h3
        omega
theorem ok10_prepares {f : qMI → qML → qMP → Prop} (hP : LAY P) (hG : GE (I 145) s) (we : WE s) (k : ∀ I', (∀ r, r ≠ 144 → (r < 152 ∨ 160 ≤ r) → I' r = I r) → (∀ j, j ≠ 22 → I' 144 j = I 144 j) → PR I' s → f I' L P) : Sq (d + 3) mX10_prepares SH0 [.ref 144] I L P (KV f) := by
  obtain ⟨g0, g1, g2, g3, g4, g5, g6, g7, g8, g9, g10, g11, g12, g13, g14, -⟩ := ref_P hP
  have hn := hG.1
  have hs := slotsS_in (s 0 0)
  have h10 := pow10 hn
  have sge := sl_ge _ hn
  refine sp_X10_prepares
    (fun x1 I' L' P' => L' = L ∧ P' = P ∧ (∀ r, r ≠ 144 → (r < 152 ∨ 160 ≤ r) → I' r = I r) ∧ (∀ j, j ≠ 22 → I' 144 j = I 144 j) ∧ ∃ o e, x1 = nI o ∧ o ≤ s 0 0 ∧ I' 144 22 = nI e ∧ e < 1024 ∧ (∀ p, e.testBit p = true ↔ p < o ∧ earlyP s p) ∧ ∀ p, p < o → I' 159 p = if seated s p then nI (seatF s p) else -2)
    (fun x1 _ _ _ => 2100 - x1.toNatClampNeg)
    (fun x1 I' L' P' => L' = L ∧ P' = P ∧ (∀ r, r ≠ 144 → (r < 152 ∨ 160 ≤ r) → I' r = I r) ∧ (∀ j, j ≠ 22 → I' 144 j = I 144 j) ∧ (∃ e, I' 144 22 = nI e ∧ e < 1024 ∧ ∀ p, p < s 0 0 → (e.testBit p = true ↔ earlyP s p)) ∧ (∀ p, p < s 0 0 → I' 159 p = if seated s p then nI (seatF s p) else -2) ∧ ∃ o, x1 = nI o ∧ o ≤ 2 ^ s 0 0 ∧ ∀ set, set < o → I' 158 set = nI (pc set) ∧ I' 156 set = bz (unl s 1 set) ∧ I' 157 set = bz (unl s 2 set))
    (fun x1 _ _ _ => 2000 - x1.toNatClampNeg) ⟨by decide, fun I2 e2 => ?_⟩ ?_ ?_
  · refine ⟨rfl, rfl, fun r q _ => by rw [e2, uI_ne r q], fun j q => by rw [e2]; exact if_neg (fun z => q z.2), 0, 0, rfl, Nat.zero_le _, by rw [e2]; exact if_pos ⟨rfl, rfl⟩, by decide, fun p => ?_, fun p hp => absurd hp (Nat.not_lt_zero p)⟩
    rw [Nat.zero_testBit]
    exact ⟨fun q => absurd q (by decide), fun q => absurd q.1 (Nat.not_lt_zero p)⟩
  · rintro x1 I1 L1 P1 ⟨rfl, rfl, hF, hV, o, e, rfl, ho, i22, he, hb, hS⟩
    have v1 : I1 145 = I 145 := hF 145 (by decide) (by decide)
    have hG1 : GE (I1 145) s := by rw [v1]; exact hG
    refine ⟨by decide, ?_⟩
    rw [g0, cl_0, hG1.2.1]
    refine ⟨by decide, v145 0 (by decide), fun c => ?_, fun c => ?_⟩
    · have c := (nI_leI (by omega) (by omega)).mp c
      have : o = s 0 0 := by omega
      subst this
      refine ⟨⟨rfl, rfl, hF, hV, ⟨e, i22, he, fun p hp => by rw [hb]; exact ⟨fun q => q.2, fun q => ⟨hp, q⟩⟩⟩, hS, 0, rfl, Nat.zero_le _, fun set h => absurd h (Nat.not_lt_zero set)⟩, ?_⟩
      rw [cl_0, clN (by omega)]; omega
    · have c : o < s 0 0 := Nat.lt_of_not_le fun q => c (nI_le q (by omega))
      have hz := (we.2.2.2.1 o c).2.2.1
      have hval : I1 145 (25 + o) = nI (s 3 o) := hG1.2.2.2.2 o 2 c (by decide)
      rw [show (25 : Int32) + nI o = nI (25 + o) from nI_add 25 o, clN (p := 25 + o) (by omega), hval]
      refine ⟨v145 _ (by omega), ok10_seedSlot hP hG1 hz fun I7 f7 => ?_⟩
      rw [g14, g0, clN (p := o) (by omega)]
      refine ⟨by decide, vin o rfl (show o < 10 by omega) (by decide), fun I12 e12 => ?_⟩
      have f12 : ∀ r, r ≠ 152 → r ≠ 153 → r ≠ 159 → I12 r = I1 r := fun r q1 q2 q3 => by rw [e12, uI_ne r q3, f7 r q1 q2]
      have hG12 : GE (I12 145) s := by rw [f12 145 (by decide) (by decide) (by decide)]; exact hG1
      have hval12 : I12 145 (25 + o) = nI (s 3 o) := hG12.2.2.2.2 o 2 c (by decide)
      have i12 : I12 144 22 = nI e := by rw [f12 144 (by decide) (by decide) (by decide)]; exact i22
      rw [hval12, i12]
      refine ⟨by decide, v145 _ (by omega), ok10_byes hP hG12 (ok10_in (y := 1) rfl rfl ?_)⟩
      rw [ti_1, show (nI (s 3 o)).toInt = (s 3 o : Int) from nI_toInt (by omega), show (nI (slotsS (s 0 0) - s 0 0)).toInt = ((slotsS (s 0 0) - s 0 0 : Nat) : Int) from nI_toInt (by omega)]
      have fin : ∀ (I24 : qMI) (e' : Nat), I24 = uI I12 144 22 (nI e') → e' < 1024 → (∀ p, e'.testBit p = true ↔ p < o + 1 ∧ earlyP s p) → (L1 = L1 ∧ P1 = P1 ∧ (∀ r, r ≠ 144 → (r < 152 ∨ 160 ≤ r) → I24 r = I r) ∧ (∀ j, j ≠ 22 → I24 144 j = I 144 j) ∧ ∃ o_1 e, nI o + 1 = nI o_1 ∧ o_1 ≤ s 0 0 ∧ I24 144 22 = nI e ∧ e < 1024 ∧ (∀ p, e.testBit p = true ↔ p < o_1 ∧ earlyP s p) ∧ ∀ p, p < o_1 → I24 159 p = if seated s p then nI (seatF s p) else -2) ∧ 2100 - (nI o + 1).toNatClampNeg < 2100 - o := by
        intro I24 e' e24 he' hb'
        refine ⟨⟨rfl, rfl, fun r q1 q2 => ?_, fun j q => ?_, o + 1, e', nI_1 o, c, by rw [e24]; exact if_pos ⟨rfl, rfl⟩, he', hb', fun p hp => ?_⟩, ?_⟩
        · rw [e24, uI_ne r q1, f12 r (by omega) (by omega) (by omega)]; exact hF r q1 q2
        · rw [e24]; exact (if_neg (fun z => q z.2)).trans (by rw [f12 144 (by decide) (by decide) (by decide)]; exact hV j q)
        · rw [e24, uI_ne 159 (by decide), e12]
          show (if 159 = 159 ∧ p = o then _ else I7 159 p) = _
          by_cases z : p = o
          · subst z; rw [if_pos ⟨rfl, rfl⟩]; rfl
          · rw [if_neg (fun q => z q.2), f7 159 (by decide) (by decide)]; exact hS p (by omega)
        · rw [nI_1, clN (by omega)]; omega
      refine ⟨fun c2 I24 e24 => ?_, fun c2 I25 e25 => ?_⟩
      · have c2 := b01_0.mp c2
        refine fin I24 e (by rw [e24, show (0 : Int32) = nI 0 from rfl, orN, Nat.or_zero]) he fun p => ?_
        rw [hb]
        constructor
        · exact fun q => ⟨by omega, q.2⟩
        · rintro ⟨q1, q2⟩
          rcases Nat.lt_succ_iff_lt_or_eq.mp q1 with w | w
          · exact ⟨w, q2⟩
          · subst w
            unfold earlyP byesS at q2
            omega
      · have c2 := b01_n0.mp c2
        refine fin I25 (e ||| 2 ^ o) (by rw [e25, bitN (by omega), orN]) (Nat.or_lt_two_pow (n := 10) he (Nat.lt_of_lt_of_le (Nat.pow_lt_pow_right (by decide) (show o < 10 by omega)) (by decide))) fun p => ?_
        rw [or_bit, hb, Nat.testBit_two_pow, decide_eq_true_iff]
        constructor
        · rintro (q | q)
          · exact ⟨by omega, q.2⟩
          · subst q
            refine ⟨by omega, ?_⟩
            unfold earlyP byesS
            omega
        · rintro ⟨q1, q2⟩
          rcases Nat.lt_succ_iff_lt_or_eq.mp q1 with w | w
          · exact Or.inl ⟨w, q2⟩
          · exact Or.inr w.symm
  · rintro x1 I1 L1 P1 ⟨rfl, rfl, hF, hV, hE, hS, o, rfl, ho, hT⟩
    have v1 : I1 145 = I 145 := hF 145 (by decide) (by decide)
    have hG1 : GE (I1 145) s := by rw [v1]; exact hG
    refine ⟨by decide, ?_⟩
    rw [g0, cl_0, hG1.2.1, bitN (o := s 0 0) (by omega)]
    refine ⟨by decide, v145 0 (by decide), fun c => ?_, fun c => ?_⟩
    · have c := (nI_leI (by omega) (by omega)).mp c
      have : o = 2 ^ s 0 0 := by omega
      subst this
      exact k I1 hF hV ⟨hE, hS, hT⟩
    · have c : o < 2 ^ s 0 0 := Nat.lt_of_not_le fun q => c (nI_le q (by omega))
      rw [g13, g11]
      have fin : ∀ I9 : qMI, I9 = uI I1 158 o (nI (pc o)) → Sq (d + 2) mX10_areUnlike SH0 [.ref 144, .int (nI o), .int 5] I9 L1 P1 (KI fun r10 I11 L12 P13 => ((shp SH0 156).1 = 22) ∧ ((vp_in (nI o) (shp SH0 156).2) ∧ (∀ I16 : qMI, I16 = uI I11 156 o (vp_nar .boolean r10) → (Sq (d + 2) mX10_areUnlike SH0 [.ref 144, .int (nI o), .int 15] I16 L12 P13 (KI fun r17 I18 L19 P20 => ((shp SH0 (P13 144 19)).1 = 22) ∧ ((vp_in (nI o) (shp SH0 (P13 144 19)).2) ∧ (∀ I23 : qMI, I23 = uI I18 (P13 144 19) o (vp_nar .boolean r17) → (L19 = L1 ∧ P20 = P1 ∧ (∀ r, r ≠ 144 → (r < 152 ∨ 160 ≤ r) → I23 r = I r) ∧ (∀ j, j ≠ 22 → I23 144 j = I 144 j) ∧ (∃ e, I23 144 22 = nI e ∧ e < 1024 ∧ ∀ p, p < s 0 0 → (e.testBit p = true ↔ earlyP s p)) ∧ (∀ p, p < s 0 0 → I23 159 p = if seated s p then nI (seatF s p) else -2) ∧ ∃ o_1, nI o + 1 = nI o_1 ∧ o_1 ≤ 2 ^ s 0 0 ∧ ∀ set, set < o_1 → I23 158 set = nI (pc set) ∧ I23 156 set = bz (unl s 1 set) ∧ I23 157 set = bz (unl s 2 set)) ∧ 2000 - (nI o + 1).toNatClampNeg < 2000 - o))))))) := by
        intro I9 e9
        have f9 : ∀ r, r ≠ 158 → I9 r = I1 r := fun r q => by rw [e9, uI_ne r q]
        have hG9 : GE (I9 145) s := by rw [f9 145 (by decide)]; exact hG1
        refine ok10_areUnlike (a := 0) hP hG9 we (by decide) c ⟨by decide, vin o rfl (show o < 1024 by omega) (by decide), fun I16 e16 => ?_⟩
        rw [bz_nar] at e16
        have f16 : ∀ r, r ≠ 158 → r ≠ 156 → I16 r = I1 r := fun r q1 q2 => by rw [e16, uI_ne r q2, f9 r q1]
        have hG16 : GE (I16 145) s := by rw [f16 145 (by decide) (by decide)]; exact hG1
        refine ok10_areUnlike (a := 1) hP hG16 we (by decide) c ?_
        rw [g12]
        refine ⟨by decide, vin o rfl (show o < 1024 by omega) (by decide), fun I23 e23 => ?_⟩
        rw [bz_nar] at e23
        have f23 : ∀ r, r ≠ 158 → r ≠ 156 → r ≠ 157 → I23 r = I1 r := fun r q1 q2 q3 => by rw [e23, uI_ne r q3, f16 r q1 q2]
        refine ⟨⟨rfl, rfl, fun r q1 q2 => by rw [f23 r (by omega) (by omega) (by omega)]; exact hF r q1 q2, fun j q => by rw [f23 144 (by decide) (by decide) (by decide)]; exact hV j q, by rw [f23 144 (by decide) (by decide) (by decide)]; exact hE, by rw [f23 159 (by decide) (by decide) (by decide)]; exact hS, o + 1, nI_1 o, c, fun set hset => ?_⟩, ?_⟩
        · by_cases z : set = o
          · subst z
            refine ⟨?_, ?_, ?_⟩
            · rw [e23, uI_ne 158 (by decide), e16, uI_ne 158 (by decide), e9]; exact if_pos ⟨rfl, rfl⟩
            · rw [e23, uI_ne 156 (by decide), e16]; exact if_pos ⟨rfl, rfl⟩
            · rw [e23]; exact if_pos ⟨rfl, rfl⟩
          · obtain ⟨t1, t2, t3⟩ := hT set (by omega)
            refine ⟨?_, ?_, ?_⟩
            · rw [e23, uI_ne 158 (by decide), e16, uI_ne 158 (by decide), e9]; exact (if_neg (fun q => z q.2)).trans t1
            · rw [e23, uI_ne 156 (by decide), e16]; exact (if_neg (fun q => z q.2)).trans (by rw [f9 156 (by decide)]; exact t2)
            · rw [e23]; exact (if_neg (fun q => z q.2)).trans (by rw [f16 157 (by decide) (by decide)]; exact t3)
        · rw [nI_1, clN (by omega)]; omega
      have hin : vp_in (nI o) (shp SH0 158).2 := vin o rfl (show o < 1024 by omega) (by decide)
      rw [show nI o >>> ((1 : Int32) &&& 31) = nI (o / 2) from shrN (k := 1) (by omega) (by decide), show nI o &&& 1 = nI (o % 2) from (andN o 1).trans (by rw [Nat.and_one_is_mod]), clN (p := o) (by omega), clN (p := o / 2) (by omega)]
      refine ⟨fun c2 => ⟨by decide, vin _ rfl (show o / 2 < 1024 by omega) (by decide), hin, fun I9 e9 => fin I9 ?_⟩, fun c2 => ⟨by decide, hin, fun I26 e26 => fin I26 ?_⟩⟩
      · have c2 : o ≠ 0 := fun q => c2 (by rw [q]; rfl)
        rw [e9, (hT (o / 2) (by omega)).1, nI_add, ← pc_half (by omega)]
      · have c2 : o = 0 := nI_inj (by omega) (by decide) c2
        rw [e26, c2]; rfl
theorem ok10_isSeated {r b set : Nat} {f : Int32 → qMI → qML → qMP → Prop} (hP : LAY P) (hG : GE (I 145) s) (hR : PR I s) (h4 : r ≤ 4) (hb : b < 16) (hs : set < 2 ^ s 0 0) (k : f (bz (seatP s r b set)) I L P) : Sq (d + 1) mX10_isSeated SH0 [.ref 144, .int (nI r), .int (nI b), .int (nI set)] I L P (KI f) := by
  obtain ⟨g0, g1, g2, g3, g4, g5, g6, g7, g8, g9, g10, g11, g12, g13, g14, -⟩ := ref_P hP
  have hn := hG.1
  have h10 := p10 hn hs
  have hsl := slotsS_in (s 0 0)
  refine sp_X10_isSeated (fun x4 x5 I' L' P' => I' = I ∧ L' = L ∧ P' = P ∧ ∃ o, x5 = nI o ∧ o ≤ s 0 0 ∧ x4 = bz (∀ p, p < o → seated s p → (seatS (slotsS (s 0 0)) (s 3 p) / 2 ^ r = b ↔ set.testBit p = true))) (fun _ x5 _ _ _ => 20 - x5.toNatClampNeg) ⟨rfl, rfl, rfl, 0, rfl, Nat.zero_le _, (bz_t fun p hp => absurd hp (Nat.not_lt_zero p)).symm⟩ ?_
  rintro x4 x5 I' L' P' ⟨rfl, rfl, rfl, o, rfl, ho, rfl⟩
  refine ⟨by decide, ?_⟩
  rw [g0, cl_0, hG.2.1]
  refine ⟨by decide, v145 0 (by decide), fun c => ?_, fun c => ?_⟩
  · have c := (nI_leI (by omega) (by omega)).mp c
    have : o = s 0 0 := by omega
    subst this
    exact ⟨bz_or, k⟩
  · have c : o < s 0 0 := Nat.lt_of_not_le fun q => c (nI_le q (by omega))
    have hm : 20 - (nI o + 1).toNatClampNeg < 20 - o := by
      rw [nI_1, clN (by omega)]; omega
    have stp : ∀ v : Int32, v = bz (∀ p, p < o + 1 → seated s p → (seatS (slotsS (s 0 0)) (s 3 p) / 2 ^ r = b ↔ set.testBit p = true)) → (I' = I' ∧ L' = L' ∧ P' = P' ∧ ∃ o_1, nI o + 1 = nI o_1 ∧ o_1 ≤ s 0 0 ∧ v = bz (∀ p, p < o_1 → seated s p → (seatS (slotsS (s 0 0)) (s 3 p) / 2 ^ r = b ↔ set.testBit p = true))) ∧ 20 - (nI o + 1).toNatClampNeg < 20 - o := fun v hv => ⟨⟨rfl, rfl, rfl, o + 1, nI_1 o, c, hv⟩, hm⟩
    have all : (∀ p, p < o → seated s p → (seatS (slotsS (s 0 0)) (s 3 p) / 2 ^ r = b ↔ set.testBit p = true)) → (seated s o → (seatS (slotsS (s 0 0)) (s 3 o) / 2 ^ r = b ↔ set.testBit o = true)) → (1 : Int32) = bz (∀ p, p < o + 1 → seated s p → (seatS (slotsS (s 0 0)) (s 3 p) / 2 ^ r = b ↔ set.testBit p = true)) := fun h1 h2 => by
      refine (bz_t fun p hp => ?_).symm
      rcases Nat.lt_succ_iff_lt_or_eq.mp hp with w | w
      · exact h1 p w
      · subst w; exact h2
    have no : seated s o → ¬ (seatS (slotsS (s 0 0)) (s 3 o) / 2 ^ r = b ↔ set.testBit o = true) → (0 : Int32) = bz (∀ p, p < o + 1 → seated s p → (seatS (slotsS (s 0 0)) (s 3 p) / 2 ^ r = b ↔ set.testBit p = true)) := fun h1 h2 => (bz_f fun q => h2 (q o (by omega) h1)).symm
    rw [g14, clN (p := o) (by omega)]
    refine ⟨fun c2 => stp 0 ?_, fun c2 => ⟨by decide, vin o rfl (show o < 10 by omega) (by decide), ?_⟩⟩
    · have c2 := bz_0.mp c2
      exact (bz_f fun q => c2 fun p hp => q p (by omega)).symm
    · have c2 := bz_n0.mp c2
      rw [hR.2.1 o c]
      by_cases z : seated s o
      · rw [if_pos z]
        have hlt : seatS (slotsS (s 0 0)) (s 3 o) < slotsS (s 0 0) := seatS_lt _ hn _ z.2 z.1
        have hq : seatS (slotsS (s 0 0)) (s 3 o) / 2 ^ r < 2147483648 := Nat.lt_of_le_of_lt (Nat.div_le_self _ _) (by omega)
        rw [show nI (seatF s o) >>> (nI r &&& 31) = nI (seatS (slotsS (s 0 0)) (s 3 o) / 2 ^ r) from shrN (show seatF s o < 2147483648 from by show seatS (slotsS (s 0 0)) (s 3 o) < _; omega) (by omega)]
        refine ⟨fun c3 => absurd c3 (nI_pos (show seatF s o < 2147483648 from by show seatS (slotsS (s 0 0)) (s 3 o) < _; omega)), fun _ => ⟨fun c3 => ⟨fun c4 => stp 1 (all c2 fun _ => ?_), fun c4 => stp 0 (no z fun q => ?_)⟩, fun c3 => ⟨fun c4 => stp 0 (no z fun q => ?_), fun c4 => stp 1 (all c2 fun _ => ?_)⟩⟩⟩
        · have c3 : seatS (slotsS (s 0 0)) (s 3 o) / 2 ^ r ≠ b := fun q => c3 (by rw [q])
          have c4 := fun q => c4 ((bitT (set := set) (o := o) (by omega) (by omega)).mpr q)
          exact ⟨fun q => absurd q c3, fun q => absurd q c4⟩
        · have c3 : seatS (slotsS (s 0 0)) (s 3 o) / 2 ^ r ≠ b := fun q => c3 (by rw [q])
          exact c3 (q.mpr ((bitT (by omega) (by omega)).mp c4))
        · have c3 := nI_inj hq (by omega) c3
          exact c4 ((bitT (by omega) (by omega)).mpr (q.mp c3))
        · have c3 := nI_inj hq (by omega) c3
          have c4 := (bitT (by omega) (by omega)).mp c4
          exact ⟨fun _ => c4, fun _ => c3⟩
      · rw [if_neg z]
        exact ⟨fun _ => stp 1 (all c2 fun q => absurd q z), fun c3 => absurd (by decide) c3⟩
end RS
