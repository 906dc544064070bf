/-! ===== the draw of a situation ===== -/
def TB (n r : Nat) : Nat := slotsS n / 2 ^ r
theorem TB_all : ∀ n, n ≤ 10 → ∀ r, r ≤ lastS n → (1 ≤ TB n r ∧ TB n r ≤ 16 ∧ TB n r * 2 ^ r = slotsS n ∧ (r < lastS n → TB n r = 2 * TB n (r + 1)) ∧ (1 ≤ r → TB n r ≤ 8 ∧ TB n r * 2 ≤ 16)) := by decide
theorem TB_0 (n : Nat) : TB n 0 = slotsS n := by simp [TB]
theorem TB_blk : ∀ n, n ≤ 10 → ∀ r, r ≤ lastS n → ∀ j, j < slotsS n → (slotsS n + j) / 2 ^ r = TB n r + j / 2 ^ r ∧ j / 2 ^ r < TB n r := by decide +kernel
theorem TB_rng {n r j : Nat} (hn : n ≤ 10) (hr : r ≤ lastS n) (hj : j < slotsS n) : 1 ≤ TB n r + j / 2 ^ r ∧ TB n r + j / 2 ^ r < 32 ∧ (1 ≤ r → TB n r + j / 2 ^ r < 16) := by
  have t := TB_all n hn r hr
  have tb := (TB_blk n hn r hr j hj).2
  generalize j / 2 ^ r = q at *
  omega
theorem TB_xor : ∀ n, n ≤ 10 → ∀ r, r < lastS n → ∀ j, j < TB n r → ((TB n r + j) ^^^ 1) = TB n r + (j ^^^ 1) ∧ (j ^^^ 1) < TB n r := by decide +kernel
theorem sh31 : ∀ k, k < 32 → ((nI k &&& 31).toBitVec.smod 32).toNat = k := by decide +kernel
theorem shrN {a k : Nat} (ha : a < 2147483648) (hk : k < 32) : nI a >>> (nI k &&& 31) = nI (a / 2 ^ k) := pk_shrN ha _ k (sh31 k hk)
theorem shlN {a k : Nat} (hk : k < 32) (h : a * 2 ^ k < 4294967296) : nI a <<< (nI k &&& 31) = nI (a * 2 ^ k) := pk_shlN _ k (sh31 k hk) h
theorem xorN (a b : Nat) : nI a ^^^ nI b = nI (a ^^^ b) := by
  apply Int32.toBitVec_inj.1
  show BitVec.ofNat 32 a ^^^ BitVec.ofNat 32 b = BitVec.ofNat 32 (a ^^^ b)
  apply BitVec.eq_of_getLsbD_eq
  intro i hi
  simp [hi]
theorem andN (a b : Nat) : nI a &&& nI b = nI (a &&& b) := by
  apply Int32.toBitVec_inj.1
  show BitVec.ofNat 32 a &&& BitVec.ofNat 32 b = BitVec.ofNat 32 (a &&& b)
  apply BitVec.eq_of_getLsbD_eq
  intro i hi
  simp [hi]
theorem orN (a b : Nat) : nI a ||| nI b = nI (a ||| b) := by
  apply Int32.toBitVec_inj.1
  show BitVec.ofNat 32 a ||| BitVec.ofNat 32 b = BitVec.ofNat 32 (a ||| b)
  apply BitVec.eq_of_getLsbD_eq
  intro i hi
  simp [hi]
theorem cI_at (I : qMI) (x y n b : Nat) : cI I x y 0 0 n y b = if b < n then I x b else I y b := by
  unfold cI
  rw [if_pos rfl]
  unfold va_cpy
  by_cases h : b < n
  · rw [if_pos ⟨Nat.zero_le _, by omega⟩, if_pos h]; simp
  · rw [if_neg (by omega), if_neg h]
/-- what is sound of a draw -/
def WD (s : Sit) : Prop := s 9 0 ≤ lastS (s 0 0) ∧ 2 ≤ s 0 0 ∧ s 0 0 ≤ 10 ∧ (∀ r k, r ≤ s 9 0 → k < TB (s 0 0) r → s (20 + r) k < s 0 0 ∨ (r = 0 ∧ s (20 + r) k = 10)) ∧ (∀ p, p < s 0 0 → ∃ k, k < slotsS (s 0 0) ∧ s 20 k = p) ∧ (∀ j k, j < slotsS (s 0 0) → k < slotsS (s 0 0) → s 20 j = s 20 k → s 20 j ≠ 10 → j = k) ∧ (∀ r k, r < s 9 0 → k < TB (s 0 0) (r + 1) → s (20 + (r + 1)) k = s (20 + r) (2 * k) ∨ s (20 + (r + 1)) k = s (20 + r) (2 * k + 1)) ∧ (∀ k, k < TB (s 0 0) 1 → s 20 (2 * k) ≠ 10 ∨ s 20 (2 * k + 1) ≠ 10) ∧ (∀ k, s 9 0 < lastS (s 0 0) → k < TB (s 0 0) (s 9 0 + 1) → s 11 k ≠ 0 → s 11 k - 1 = s (20 + s 9 0) (2 * k) ∨ s 11 k - 1 = s (20 + s 9 0) (2 * k + 1))
def DV (I : qMI) (L : qML) (P : qMP) (d : Nat) (s : Sit) : Prop := L d 1 = lN (s 8 0) ∧ I d 2 = nI (slotsS (s 0 0)) ∧ I d 3 = nI (lastS (s 0 0)) ∧ (∀ r k, r ≤ s 9 0 → k < TB (s 0 0) r → I (P d 5) (TB (s 0 0) r + k) = nI (s (20 + r) k)) ∧ (∀ k, s 9 0 < lastS (s 0 0) → k < TB (s 0 0) (s 9 0 + 1) → I (P d 6) (TB (s 0 0) (s 9 0 + 1) + k) = nI (s 11 k) - 1) ∧ (∀ r k, s 9 0 + 1 < r → r ≤ lastS (s 0 0) → k < TB (s 0 0) r → I (P d 6) (TB (s 0 0) r + k) = -1) ∧ WD s
def DSh (sh : List qSh) (P : qMP) (d : Nat) : Prop := (shp sh d).1 = 1 ∧ shp sh (P d 5) = (20, 32) ∧ shp sh (P d 6) = (20, 16)
def DS (sh : List qSh) (I : qMI) (L : qML) (P : qMP) (d : Nat) (s : Sit) : Prop := DSh sh P d ∧ I d 0 = nI (s 7 0) ∧ I d 4 = nI (s 9 0) ∧ (s 7 0 = 0 ∨ s 7 0 = 1) ∧ (s 7 0 = 0 → s 9 0 = 0) ∧ (s 7 0 = 1 → DV I L P d s)
theorem DV.congr {I I' : qMI} {L L' : qML} {P P' : qMP} {d d' : Nat} {s : Sit} (h : DV I L P d s) (hL : L' d' 1 = L d 1) (h2 : I' d' 2 = I d 2) (h3 : I' d' 3 = I d 3) (h5 : ∀ k, k < 32 → I' (P' d' 5) k = I (P d 5) k) (h6 : ∀ k, k < 16 → I' (P' d' 6) k = I (P d 6) k) : DV I' L' P' d' s := by
  obtain ⟨a, b, c, f, g, j, w⟩ := h
  have hn := w.2.2.1
  have hp := w.1
  refine ⟨by rw [hL]; exact a, by rw [h2]; exact b, by rw [h3]; exact c, fun r k hr hk => ?_, fun k hl hk => ?_, fun r k hr hl hk => ?_, w⟩
  · have t := TB_all _ hn r (by omega)
    rw [h5 _ (by omega)]
    exact f r k hr hk
  · have t := TB_all _ hn (s 9 0 + 1) (by omega)
    have t2 := t.2.2.2.2 (by omega)
    rw [h6 _ (by omega)]
    exact g k hl hk
  · have t := TB_all _ hn r hl
    have t2 := t.2.2.2.2 (by omega)
    rw [h6 _ (by omega)]
    exact j r k hr hl hk
theorem DS.congr {sh : List qSh} {I I' : qMI} {L L' : qML} {P P' : qMP} {d : Nat} {s : Sit} (h : DS sh I L P d s) (h1 : I' d = I d) (hL : L' d = L d) (h5 : I' (P d 5) = I (P d 5)) (h6 : I' (P d 6) = I (P d 6)) (h7 : P' d = P d) : DS sh I' L' P' d s := by
  obtain ⟨⟨a, b, c⟩, f, g, j, k, v⟩ := h
  refine ⟨⟨a, by rw [h7]; exact b, by rw [h7]; exact c⟩, by rw [h1]; exact f, by rw [h1]; exact g, j, k, fun q => (v q).congr (by rw [hL]) (by rw [h1]) (by rw [h1]) (fun z _ => by rw [h7, h5]) (fun z _ => by rw [h7, h6])⟩
section DR
variable {d : Nat} {sh : List qSh} {I : qMI} {L : qML} {P : qMP} {e u : Nat} {s : Sit}
theorem raw_cameTo {B : Nat} {f : Int32 → qMI → qML → qMP → Prop} (h : DSh sh P e) (h1 : 1 ≤ B) (h2 : B < 32) (k : f (I (P e 5) B) I L P) : Sq (d + 1) mX1_cameTo sh [.ref e, .int (nI B)] I L P (KI f) := by
  obtain ⟨a, b, c⟩ := h
  refine sp_X1_cameTo ⟨fun c1 => absurd c1 (by ((try simp only [Int32.lt_iff_toInt_lt, Int32.le_iff_toInt_le, ne_eq, ← Int32.toInt_inj, isP, ti_nI, ti_add, ti_sub, ti_mul, ti_neg, ti_0, ti_1, ti_2, ti_3, ti_4, ti_5, ti_6, ti_7, ti_8, ti_9, ti_10, ti_11, ti_12, ti_13, ti_14, ti_15, ti_16, ti_17, ti_18, ti_19, ti_20, ti_28, ti_30, ti_31, ti_32, ti_40, ti_45, ti_47, ti_48, ti_49, ti_57, ti_58, ti_59, ti_61, ti_76, ti_84, ti_96, ti_99, ti_100, ti_114, ti_115, ti_120, ti_126, ti_840, ti_1024] at *); omega)), fun c1 => ⟨a, ?_⟩⟩
  rw [b]
  refine ⟨rfl, fun c2 => absurd c2 (by show ¬ nI 32 ≤ nI B; ((try simp only [Int32.lt_iff_toInt_lt, Int32.le_iff_toInt_le, ne_eq, ← Int32.toInt_inj, isP, ti_nI, ti_add, ti_sub, ti_mul, ti_neg, ti_0, ti_1, ti_2, ti_3, ti_4, ti_5, ti_6, ti_7, ti_8, ti_9, ti_10, ti_11, ti_12, ti_13, ti_14, ti_15, ti_16, ti_17, ti_18, ti_19, ti_20, ti_28, ti_30, ti_31, ti_32, ti_40, ti_45, ti_47, ti_48, ti_49, ti_57, ti_58, ti_59, ti_61, ti_76, ti_84, ti_96, ti_99, ti_100, ti_114, ti_115, ti_120, ti_126, ti_840, ti_1024] at *); omega)), fun c2 => ⟨vin B rfl h2 (by decide), kI k ?_⟩⟩
  rw [clN (by omega)]
theorem ok_canGoOn {f : Int32 → qMI → qML → qMP → Prop} (h : DS sh I L P e s) (k : f (b01 (s 7 0 = 1 ∧ s 9 0 < lastS (s 0 0))) I L P) : Sq (d + 1) mX1_canGoOn sh [.ref e] I L P (KI f) := by
  obtain ⟨⟨a, b, c⟩, g1, g2, g3, g4, v⟩ := h
  refine sp_X1_canGoOn ⟨a, fun c1 => ?_, fun c1 => ?_⟩
  · rw [g1] at c1
    refine kI k (b01_f fun q => ?_)
    rw [q.1] at c1
    exact absurd c1 (by decide)
  · have g5 : s 7 0 = 1 := by
      rcases g3 with q | q
      · rw [g1, q] at c1; exact absurd rfl c1
      · exact q
    obtain ⟨v1, v2, v3, v4, v5, v6, w⟩ := v g5
    have wl := lastS_le (s 0 0)
    have wp := w.1
    rw [v3, g2]
    refine ⟨fun c2 => kI k (b01_f fun q => ?_), fun c2 => kI k (b01_t ⟨g5, ?_⟩)⟩
    · have := q.2; ((try simp only [Int32.lt_iff_toInt_lt, Int32.le_iff_toInt_le, ne_eq, ← Int32.toInt_inj, isP, ti_nI, ti_add, ti_sub, ti_mul, ti_neg, ti_0, ti_1, ti_2, ti_3, ti_4, ti_5, ti_6, ti_7, ti_8, ti_9, ti_10, ti_11, ti_12, ti_13, ti_14, ti_15, ti_16, ti_17, ti_18, ti_19, ti_20, ti_28, ti_30, ti_31, ti_32, ti_40, ti_45, ti_47, ti_48, ti_49, ti_57, ti_58, ti_59, ti_61, ti_76, ti_84, ti_96, ti_99, ti_100, ti_114, ti_115, ti_120, ti_126, ti_840, ti_1024] at *); omega)
    · ((try simp only [Int32.lt_iff_toInt_lt, Int32.le_iff_toInt_le, ne_eq, ← Int32.toInt_inj, isP, ti_nI, ti_add, ti_sub, ti_mul, ti_neg, ti_0, ti_1, ti_2, ti_3, ti_4, ti_5, ti_6, ti_7, ti_8, ti_9, ti_10, ti_11, ti_12, ti_13, ti_14, ti_15, ti_16, ti_17, ti_18, ti_19, ti_20, ti_28, ti_30, ti_31, ti_32, ti_40, ti_45, ti_47, ti_48, ti_49, ti_57, ti_58, ti_59, ti_61, ti_76, ti_84, ti_96, ti_99, ti_100, ti_114, ti_115, ti_120, ti_126, ti_840, ti_1024] at *); omega)
theorem ok_standing {j : Nat} {f : Int32 → qMI → qML → qMP → Prop} (h : DSh sh P e) (v : DV I L P e s) (hj : j < slotsS (s 0 0)) (k : f (nI (s 20 j)) I L P) : Sq (d + 2) mX1_standing sh [.ref e, .int (nI j)] I L P (KI f) := by
  obtain ⟨v1, v2, v3, v4, v5, v6, w⟩ := v
  have hs := slotsS_in (s 0 0)
  refine sp_X1_standing ⟨h.1, ?_⟩
  rw [v2, nI_add]
  refine raw_cameTo h (by omega) (by omega) (kI k ?_)
  have := v4 0 j (Nat.zero_le _) (by rw [TB_0]; exact hj)
  rw [TB_0] at this
  exact this.symm
theorem ok_cameThrough {r j : Nat} {f : Int32 → qMI → qML → qMP → Prop} (h : DSh sh P e) (v : DV I L P e s) (hr : 1 ≤ r) (hr2 : r ≤ s 9 0) (hj : j < TB (s 0 0) r) (k : f (nI (s (20 + r) j)) I L P) : Sq (d + 2) mX1_cameThrough sh [.ref e, .int (nI r), .int (nI j)] I L P (KI f) := by
  obtain ⟨v1, v2, v3, v4, v5, v6, w⟩ := v
  have hs := slotsS_in (s 0 0)
  have hl := lastS_le (s 0 0)
  have hp := w.1
  have t := TB_all _ w.2.2.1 r (by omega)
  refine sp_X1_cameThrough ⟨fun c1 => absurd c1 (by ((try simp only [Int32.lt_iff_toInt_lt, Int32.le_iff_toInt_le, ne_eq, ← Int32.toInt_inj, isP, ti_nI, ti_add, ti_sub, ti_mul, ti_neg, ti_0, ti_1, ti_2, ti_3, ti_4, ti_5, ti_6, ti_7, ti_8, ti_9, ti_10, ti_11, ti_12, ti_13, ti_14, ti_15, ti_16, ti_17, ti_18, ti_19, ti_20, ti_28, ti_30, ti_31, ti_32, ti_40, ti_45, ti_47, ti_48, ti_49, ti_57, ti_58, ti_59, ti_61, ti_76, ti_84, ti_96, ti_99, ti_100, ti_114, ti_115, ti_120, ti_126, ti_840, ti_1024] at *); omega)), fun c1 => ⟨h.1, ?_⟩⟩
  rw [v3, v2, shrN (by omega) (by omega)]
  refine ⟨fun c2 => absurd c2 (by ((try simp only [Int32.lt_iff_toInt_lt, Int32.le_iff_toInt_le, ne_eq, ← Int32.toInt_inj, isP, ti_nI, ti_add, ti_sub, ti_mul, ti_neg, ti_0, ti_1, ti_2, ti_3, ti_4, ti_5, ti_6, ti_7, ti_8, ti_9, ti_10, ti_11, ti_12, ti_13, ti_14, ti_15, ti_16, ti_17, ti_18, ti_19, ti_20, ti_28, ti_30, ti_31, ti_32, ti_40, ti_45, ti_47, ti_48, ti_49, ti_57, ti_58, ti_59, ti_61, ti_76, ti_84, ti_96, ti_99, ti_100, ti_114, ti_115, ti_120, ti_126, ti_840, ti_1024] at *); omega)), fun c2 => ?_⟩
  rw [nI_add]
  exact raw_cameTo h (by show 1 ≤ TB _ _ + j; omega) (by show TB _ _ + j < 32; omega) (kI k (v4 r j hr2 hj).symm)
theorem ok_slotOf {p : Nat} {f : Int32 → qMI → qML → qMP → Prop} (h : DSh sh P e) (v : DV I L P e s) (hp : p < s 0 0) (k : ∀ j, j < slotsS (s 0 0) → s 20 j = p → f (nI j) I L P) : Sq (d + 3) mX1_slotOf sh [.ref e, .int (nI p)] I L P (KI f) := by
  obtain ⟨v1, v2, v3, v4, v5, v6, w⟩ := id v
  have hs := slotsS_in (s 0 0)
  have hn := w.2.2.1
  obtain ⟨j0, hj0, e0⟩ := w.2.2.2.2.1 p hp
  refine sp_X1_slotOf (fun x I' L' P' => I' = I ∧ L' = L ∧ P' = P ∧ ∃ o, o ≤ j0 ∧ x = nI o) (fun x _ _ _ => 20 - x.toNatClampNeg) ⟨rfl, rfl, rfl, 0, Nat.zero_le _, rfl⟩ ?_
  rintro x I' L' P' ⟨rfl, rfl, rfl, o, ho, rfl⟩
  refine ⟨h.1, ?_⟩
  rw [v2]
  refine ⟨fun c1 => absurd c1 (by ((try simp only [Int32.lt_iff_toInt_lt, Int32.le_iff_toInt_le, ne_eq, ← Int32.toInt_inj, isP, ti_nI, ti_add, ti_sub, ti_mul, ti_neg, ti_0, ti_1, ti_2, ti_3, ti_4, ti_5, ti_6, ti_7, ti_8, ti_9, ti_10, ti_11, ti_12, ti_13, ti_14, ti_15, ti_16, ti_17, ti_18, ti_19, ti_20, ti_28, ti_30, ti_31, ti_32, ti_40, ti_45, ti_47, ti_48, ti_49, ti_57, ti_58, ti_59, ti_61, ti_76, ti_84, ti_96, ti_99, ti_100, ti_114, ti_115, ti_120, ti_126, ti_840, ti_1024] at *); omega)), fun c1 => ok_standing h v (by omega) ⟨fun c2 => ?_, fun c2 => ?_⟩⟩
  · have hne : o ≠ j0 := fun q => c2 (by rw [q, e0])
    refine ⟨⟨rfl, rfl, rfl, o + 1, by omega, nI_1 o⟩, ?_⟩
    rw [nI_1, clN (by omega), clN (by omega)]
    omega
  · have hv := w.2.2.2.1 0 o (Nat.zero_le _) (by rw [TB_0]; omega)
    refine k o (by omega) (nI_inj ?_ (by omega) c2)
    rcases hv with q | ⟨-, q⟩ <;> (have q := q; simp only [Nat.add_zero] at q; omega)
def fcr (a b : Nat) : Nat := if a = b then 0 else if a / 2 = b / 2 then 1 else if a / 4 = b / 4 then 2 else if a / 8 = b / 8 then 3 else 4
theorem fcr_1 : ∀ a, a < 16 → ∀ b, b < 16 → ∀ r, r < fcr a b → (a ^^^ b) / 2 ^ r ≠ 0 ∧ a / 2 ^ r ≠ b / 2 ^ r := by decide +kernel
theorem fcr_2 : ∀ a, a < 16 → ∀ b, b < 16 → (a ^^^ b) / 2 ^ fcr a b = 0 ∧ a / 2 ^ fcr a b = b / 2 ^ fcr a b ∧ (a ^^^ b) < 16 := by decide +kernel
theorem fcr_3 : ∀ n, n ≤ 10 → ∀ a, a < slotsS n → ∀ b, b < slotsS n → fcr a b ≤ lastS n := by decide +kernel
theorem fcr_spec {n a b : Nat} (hn : n ≤ 10) (ha : a < slotsS n) (hb : b < slotsS n) : fcr a b ≤ lastS n ∧ (∀ r, r < fcr a b → (a ^^^ b) / 2 ^ r ≠ 0 ∧ a / 2 ^ r ≠ b / 2 ^ r) ∧ (a ^^^ b) / 2 ^ fcr a b = 0 ∧ a / 2 ^ fcr a b = b / 2 ^ fcr a b ∧ (a ^^^ b) < 16 := by
  have hs := slotsS_in n
  exact ⟨fcr_3 n hn a ha b hb, fcr_1 a (by omega) b (by omega), fcr_2 a (by omega) b (by omega)⟩
theorem ok_first {p q : Nat} {f : Int32 → qMI → qML → qMP → Prop} (h : DSh sh P e) (v : DV I L P e s) (hp : p < s 0 0) (hq : q < s 0 0) (k : ∀ j i, j < slotsS (s 0 0) → s 20 j = p → i < slotsS (s 0 0) → s 20 i = q → f (nI (fcr j i)) I L P) : Sq (d + 4) mX1_firstCommonRound sh [.ref e, .int (nI p), .int (nI q)] I L P (KI f) := by
  obtain ⟨v1, v2, v3, v4, v5, v6, w⟩ := id v
  have hl := lastS_le (s 0 0)
  refine sp_X1_firstCommonRound (fun x3 x4 I' L' P' => I' = I ∧ L' = L ∧ P' = P ∧ ∃ j i o, j < slotsS (s 0 0) ∧ s 20 j = p ∧ i < slotsS (s 0 0) ∧ s 20 i = q ∧ x3 = nI (j ^^^ i) ∧ x4 = nI o ∧ o ≤ fcr j i) (fun _ x _ _ _ => 20 - x.toNatClampNeg) ⟨h.1, ok_slotOf h v hp fun j hj ej => ok_slotOf h v hq fun i hi ei => ?_⟩ ?_
  · exact ⟨rfl, rfl, rfl, j, i, 0, hj, ej, hi, ei, xorN j i, rfl, Nat.zero_le _⟩
  · rintro x3 x4 I' L' P' ⟨rfl, rfl, rfl, j, i, o, hj, ej, hi, ei, rfl, rfl, ho⟩
    obtain ⟨g1, g2, g3, g4, g5⟩ := fcr_spec w.2.2.1 hj hi
    refine ⟨h.1, ?_⟩
    rw [v3]
    refine ⟨fun c1 => ?_, fun c1 => ?_⟩
    · exact kI (k j i hj ej hi ei) (congrArg nI (by have c1 : lastS (s 0 0) ≤ o := by ((try simp only [Int32.lt_iff_toInt_lt, Int32.le_iff_toInt_le, ne_eq, ← Int32.toInt_inj, isP, ti_nI, ti_add, ti_sub, ti_mul, ti_neg, ti_0, ti_1, ti_2, ti_3, ti_4, ti_5, ti_6, ti_7, ti_8, ti_9, ti_10, ti_11, ti_12, ti_13, ti_14, ti_15, ti_16, ti_17, ti_18, ti_19, ti_20, ti_28, ti_30, ti_31, ti_32, ti_40, ti_45, ti_47, ti_48, ti_49, ti_57, ti_58, ti_59, ti_61, ti_76, ti_84, ti_96, ti_99, ti_100, ti_114, ti_115, ti_120, ti_126, ti_840, ti_1024] at *); omega)
                                                    omega))
    · rw [shrN (by omega) (by omega)]
      refine ⟨fun c2 => ?_, fun c2 => ?_⟩
      · refine kI (k j i hj ej hi ei) (congrArg nI ?_)
        rcases Nat.lt_or_ge o (fcr j i) with z | z
        · have hd : (j ^^^ i) / 2 ^ o ≤ j ^^^ i := Nat.div_le_self _ _
          exact absurd (nI_inj (by omega) (by decide) c2) (g2 o z).1
        · omega
      · have hne : o ≠ fcr j i := fun z => c2 (by rw [z, g3]; rfl)
        refine ⟨⟨rfl, rfl, rfl, j, i, o + 1, hj, ej, hi, ei, rfl, nI_1 o, by omega⟩, ?_⟩
        rw [nI_1, clN (by omega), clN (by omega)]
        omega
theorem ok_blockOf {p r : Nat} {f : Int32 → qMI → qML → qMP → Prop} (h : DSh sh P e) (v : DV I L P e s) (hp : p < s 0 0) (hr : r ≤ lastS (s 0 0)) (k : ∀ j, j < slotsS (s 0 0) → s 20 j = p → f (nI (TB (s 0 0) r + j / 2 ^ r)) I L P) : Sq (d + 4) mX1_blockOf sh [.ref e, .int (nI p), .int (nI r)] I L P (KI f) := by
  obtain ⟨v1, v2, v3, v4, v5, v6, w⟩ := id v
  have hs := slotsS_in (s 0 0)
  have hl := lastS_le (s 0 0)
  refine sp_X1_blockOf ⟨h.1, ok_slotOf h v hp fun j hj ej => kI (k j hj ej) ?_⟩
  rw [v2, nI_add, shrN (by omega) (by omega), (TB_blk _ w.2.2.1 r hr j hj).1]
theorem ok_isIn {p r : Nat} {f : Int32 → qMI → qML → qMP → Prop} (h : DSh sh P e) (v : DV I L P e s) (hp : p < s 0 0) (hr : r ≤ s 9 0) (k : ∀ j, j < slotsS (s 0 0) → s 20 j = p → f (b01 (s (20 + r) (j / 2 ^ r) = p)) I L P) : Sq (d + 5) mX1_isIn sh [.ref e, .int (nI p), .int (nI r)] I L P (KI f) := by
  obtain ⟨v1, v2, v3, v4, v5, v6, w⟩ := id v
  have hl := w.1
  have hn := w.2.2.1
  refine sp_X1_isIn ⟨h.1, ok_blockOf h v hp (by omega) fun j hj ej => ?_⟩
  have t := TB_all _ w.2.2.1 r (by omega)
  have tb := TB_blk _ w.2.2.1 r (by omega) j hj
  have tr := TB_rng hn (show r ≤ lastS (s 0 0) by omega) hj
  refine raw_cameTo h tr.1 tr.2.1 ?_
  have ec := v4 r (j / 2 ^ r) hr tb.2
  have hv := w.2.2.2.1 r (j / 2 ^ r) hr tb.2
  rw [ec]
  refine ⟨fun c1 => kI (k j hj ej) (b01_f fun q => c1 (by rw [q])), fun c1 => kI (k j hj ej) (b01_t (nI_inj (by omega) (by omega) c1))⟩
theorem ok_opponent {p r : Nat} {f : Int32 → qMI → qML → qMP → Prop} (h : DSh sh P e) (v : DV I L P e s) (hp : p < s 0 0) (hr : r ≤ s 9 0) (hr2 : r < lastS (s 0 0)) (k : ∀ j, j < slotsS (s 0 0) → s 20 j = p → f (nI (s (20 + r) ((j / 2 ^ r) ^^^ 1))) I L P) : Sq (d + 5) mX1_opponent sh [.ref e, .int (nI p), .int (nI (r + 1))] I L P (KI f) := by
  obtain ⟨v1, v2, v3, v4, v5, v6, w⟩ := id v
  have hn := w.2.2.1
  refine sp_X1_opponent ⟨h.1, ?_⟩
  rw [nI_pred]
  refine ok_blockOf h v hp (by omega) fun j hj ej => ?_
  have t := TB_all _ w.2.2.1 r (by omega)
  have tb := TB_blk _ w.2.2.1 r (by omega) j hj
  have tx := TB_xor _ w.2.2.1 r hr2 _ tb.2
  show Sq _ _ _ [.ref e, .int (nI (TB (s 0 0) r + j / 2 ^ r) ^^^ nI 1)] _ _ _ _
  rw [xorN, tx.1]
  exact raw_cameTo h (by omega) (by omega) (kI (k j hj ej) (v4 r _ hr tx.2).symm)
theorem ok_favour {p : Nat} {f : qMI → qML → qMP → Prop} (h : DSh sh P e) (v : DV I L P e s) (h4 : I e 4 = nI (s 9 0)) (hp : p < s 0 0) (hr : s 9 0 < lastS (s 0 0)) (k : ∀ j, j < slotsS (s 0 0) → s 20 j = p → f (uI I (P e 6) (TB (s 0 0) (s 9 0 + 1) + j / 2 ^ (s 9 0 + 1)) (nI p)) L P) : Sq (d + 5) mX1_favour sh [.ref e, .int (nI p)] I L P (KV f) := by
  obtain ⟨v1, v2, v3, v4, v5, v6, w⟩ := id v
  have hn := w.2.2.1
  refine sp_X1_favour ⟨h.1, ?_⟩
  rw [h4, nI_1]
  refine ok_blockOf h v hp (by omega) fun j hj ej => ?_
  have t := TB_all _ w.2.2.1 (s 9 0 + 1) (by omega)
  have t2 := t.2.2.2.2 (by omega)
  have tb := TB_blk _ w.2.2.1 (s 9 0 + 1) (by omega) j hj
  have tr := TB_rng hn (show s 9 0 + 1 ≤ lastS (s 0 0) by omega) hj
  have k := k j hj ej
  generalize TB (s 0 0) (s 9 0 + 1) + j / 2 ^ (s 9 0 + 1) = B at tr k ⊢
  have tr3 := tr.2.2 (by omega)
  refine ⟨fun c1 => absurd c1 (by ((try simp only [Int32.lt_iff_toInt_lt, Int32.le_iff_toInt_le, ne_eq, ← Int32.toInt_inj, isP, ti_nI, ti_add, ti_sub, ti_mul, ti_neg, ti_0, ti_1, ti_2, ti_3, ti_4, ti_5, ti_6, ti_7, ti_8, ti_9, ti_10, ti_11, ti_12, ti_13, ti_14, ti_15, ti_16, ti_17, ti_18, ti_19, ti_20, ti_28, ti_30, ti_31, ti_32, ti_40, ti_45, ti_47, ti_48, ti_49, ti_57, ti_58, ti_59, ti_61, ti_76, ti_84, ti_96, ti_99, ti_100, ti_114, ti_115, ti_120, ti_126, ti_840, ti_1024] at *); omega)), fun c1 => ?_⟩
  rw [h.2.2]
  refine ⟨rfl, fun c2 => absurd c2 (by show ¬ nI 16 ≤ nI _; ((try simp only [Int32.lt_iff_toInt_lt, Int32.le_iff_toInt_le, ne_eq, ← Int32.toInt_inj, isP, ti_nI, ti_add, ti_sub, ti_mul, ti_neg, ti_0, ti_1, ti_2, ti_3, ti_4, ti_5, ti_6, ti_7, ti_8, ti_9, ti_10, ti_11, ti_12, ti_13, ti_14, ti_15, ti_16, ti_17, ti_18, ti_19, ti_20, ti_28, ti_30, ti_31, ti_32, ti_40, ti_45, ti_47, ti_48, ti_49, ti_57, ti_58, ti_59, ti_61, ti_76, ti_84, ti_96, ti_99, ti_100, ti_114, ti_115, ti_120, ti_126, ti_840, ti_1024] at *); omega)), fun c2 => ⟨vin _ rfl (by omega) (by decide), fun I9 e9 => ?_⟩⟩
  rw [clN (by omega)] at e9
  subst e9
  exact k
/-- who comes through in a block of the next round -/
def winS (s : Sit) (k : Nat) : Nat :=
  if s (20 + s 9 0) (2 * k) = 10 ∨ s (20 + s 9 0) (2 * k + 1) = 10 then (if s (20 + s 9 0) (2 * k) = 10 then s (20 + s 9 0) (2 * k + 1) else s (20 + s 9 0) (2 * k))
  else if s 11 k ≠ 0 then s 11 k - 1
  else if beatsS s (s (20 + s 9 0) (2 * k)) (s (20 + s 9 0) (2 * k + 1)) then s (20 + s 9 0) (2 * k) else s (20 + s 9 0) (2 * k + 1)
def playS (s : Sit) : Sit := fun x y => if x = 9 ∧ y = 0 then s 9 0 + 1 else if x = 20 + (s 9 0 + 1) then winS s y else if x = 11 then 0 else s x y
end DR
