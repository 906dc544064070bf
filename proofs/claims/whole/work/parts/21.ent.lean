/-! ===== what a situation is: by field and place. 0: players; 1 club, 2 region, 3 seed, 4 strength of a player; 5, 6: the levels; 7: is there a draw; 8: its number; 9: rounds played; 10: who stands in a slot (10: nobody); 11: by hand, 1 + the player, of a block of the next round; 20 + r: who came through in a block of round r ===== -/
abbrev Sit : Type := Nat → Nat → Nat
def slotsS (n : Nat) : Nat := if n ≤ 2 then 2 else if n ≤ 4 then 4 else if n ≤ 8 then 8 else 16
def lastS (n : Nat) : Nat := if n ≤ 2 then 1 else if n ≤ 4 then 2 else if n ≤ 8 then 3 else 4
def WE (s : Sit) : Prop := s 0 0 ≤ 10 ∧ s 5 0 ≤ 4 ∧ s 6 0 ≤ 4 ∧ (∀ p, p < s 0 0 → s 1 p ≤ 5 ∧ s 2 p ≤ 3 ∧ s 3 p ≤ 8 ∧ s 4 p ≤ 99) ∧ ∀ p q, p < s 0 0 → q < s 0 0 → p ≠ q → s 3 p = s 3 q → s 3 p = 0
def up (s : Sit) (a b v : Nat) : Sit := fun x y => if x = a ∧ y = b then v else s x y
theorem up_at (s : Sit) (a b v : Nat) : up s a b v a b = v := if_pos ⟨rfl, rfl⟩
theorem up_ne {s : Sit} {a b v x y : Nat} (h : ¬ (x = a ∧ y = b)) : up s a b v x y = s x y := if_neg h
def addS (s : Sit) (c r z t : Nat) : Sit := up (up (up (up (up s 0 0 (s 0 0 + 1)) 1 (s 0 0) c) 2 (s 0 0) r) 3 (s 0 0) z) 4 (s 0 0) t
def lgst (x : Int32) : Int32 := if x = 0 then 5 else if x = 1 then 3 else if x = 2 then 8 else if x = 3 then 99 else -1
/-- may that be told of a player -/
abbrev mayS (s : Sit) (pl wh v : Int32) : Prop := (0 ≤ v ∧ v ≤ lgst wh) ∧ ∀ o, o < s 0 0 → (wh = 2 ∧ 0 < v ∧ nI o ≠ pl → nI (s 3 o) ≠ v)
abbrev beatsS (s : Sit) (p q : Nat) : Prop := s 4 q < s 4 p ∨ (s 4 q = s 4 p ∧ p < q)
def Best (s : Sit) (b : Nat) : Prop := (s 0 0 = 0 → b = 0) ∧ (0 < s 0 0 → b < s 0 0 ∧ ∀ q, q < s 0 0 → q ≠ b → beatsS s b q)
abbrev SameD (s t : Sit) : Prop := s 0 0 = t 0 0 ∧ s 5 0 = t 5 0 ∧ s 6 0 = t 6 0 ∧ ∀ p, p < s 0 0 → s 1 p = t 1 p ∧ s 2 p = t 2 p ∧ s 3 p = t 3 p
def rowS (L : Nat) : List Nat := if L ≤ 2 then [1, 2] else if L ≤ 4 then [1, 4, 2, 3] else if L ≤ 8 then [1, 8, 4, 5, 2, 7, 3, 6] else [1, 16, 8, 9, 4, 13, 5, 12, 2, 15, 7, 10, 3, 14, 6, 11]
def seatS (L k : Nat) : Nat := (rowS L).idxOf k
abbrev seated (s : Sit) (p : Nat) : Prop := 1 ≤ s 3 p ∧ s 3 p ≤ slotsS (s 0 0)
def seedRun : Nat → Nat → Nat → Nat → Nat → Nat
  | 0, _, acc, _, _ => acc
  | f + 1, left, acc, w, size => if size ≤ 1 then acc else if left ≤ size / 2 then seedRun f left acc (w * 2) (size / 2) else seedRun f (size + 1 - left) (acc + w) (w * 2) (size / 2)
theorem seedRun_seat : ∀ n, n ≤ 10 → ∀ k, k ≤ 16 → 1 ≤ k → k ≤ slotsS n → seedRun 5 k 0 1 (slotsS n) = seatS (slotsS n) k := by decide +kernel
theorem slotsS_in (n : Nat) : slotsS n = 2 ∨ slotsS n = 4 ∨ slotsS n = 8 ∨ slotsS n = 16 := by
  unfold slotsS
  split
  · exact Or.inl rfl
  · split
    · exact Or.inr (Or.inl rfl)
    · split
      · exact Or.inr (Or.inr (Or.inl rfl))
      · exact Or.inr (Or.inr (Or.inr rfl))
/-- entries of the class hold a situation's players and levels -/
def ES (sh : List qSh) (I : qMI) (P : qMP) (e : Nat) (s : Sit) : Prop := (shp sh e).1 = 2 ∧ shp sh (P e 3) = (20, 40) ∧ I e 0 = nI (s 0 0) ∧ I e 1 = nI (s 5 0) ∧ I e 2 = nI (s 6 0) ∧ (∀ p w, p < s 0 0 → w < 4 → I (P e 3) (4 * p + w) = nI (s (1 + w) p)) ∧ WE s
theorem ES.congr {sh : List qSh} {I I' : qMI} {P P' : qMP} {e : Nat} {s : Sit} (h : ES sh I P e s) (h1 : I' e = I e) (h2 : I' (P e 3) = I (P e 3)) (h3 : P' e 3 = P e 3) : ES sh I' P' e s := by
  obtain ⟨a, b, c, d, f, g, w⟩ := h
  exact ⟨a, by rw [h3]; exact b, by rw [h1]; exact c, by rw [h1]; exact d, by rw [h1]; exact f, fun p q hp hq => by rw [h3, h2]; exact g p q hp hq, w⟩
section EN
variable {d : Nat} {sh : List qSh} {I : qMI} {L : qML} {P : qMP} {e : Nat} {s : Sit}
theorem raw_has {n : Nat} {x : Int32} {f : Int32 → qMI → qML → qMP → Prop} (h1 : (shp sh e).1 = 2) (hn : I e 0 = nI n) (hb : n ≤ 10) (k : f (b01 (isP n x)) I L P) : Sq (d + 1) mX2_has sh [.ref e, .int x] I L P (KI f) := by
  refine sp_X2_has ⟨fun c1 => ?_, fun c1 => ⟨h1, fun c2 => ?_, fun c2 => ?_⟩⟩
  · exact kI k (by (first | (refine if_neg ?_; (try simp only [Int32.lt_iff_toInt_lt, Int32.le_iff_toInt_le, ne_eq, ← Int32.toInt_inj, isP, ti_nI, ti_add, ti_sub, ti_mul, ti_neg, ti_0, ti_1, ti_2, ti_3, ti_4, ti_5, ti_6, ti_7, ti_8, ti_9, ti_10, ti_11, ti_12, ti_13, ti_14, ti_15, ti_16, ti_17, ti_18, ti_19, ti_20, ti_28, ti_30, ti_31, ti_32, ti_40, ti_45, ti_47, ti_48, ti_49, ti_57, ti_58, ti_59, ti_61, ti_76, ti_84, ti_96, ti_99, ti_100, ti_114, ti_115, ti_120, ti_126, ti_840, ti_1024] at *); omega) | (refine if_pos ?_; (try simp only [Int32.lt_iff_toInt_lt, Int32.le_iff_toInt_le, ne_eq, ← Int32.toInt_inj, isP, ti_nI, ti_add, ti_sub, ti_mul, ti_neg, ti_0, ti_1, ti_2, ti_3, ti_4, ti_5, ti_6, ti_7, ti_8, ti_9, ti_10, ti_11, ti_12, ti_13, ti_14, ti_15, ti_16, ti_17, ti_18, ti_19, ti_20, ti_28, ti_30, ti_31, ti_32, ti_40, ti_45, ti_47, ti_48, ti_49, ti_57, ti_58, ti_59, ti_61, ti_76, ti_84, ti_96, ti_99, ti_100, ti_114, ti_115, ti_120, ti_126, ti_840, ti_1024] at *); omega)))
  · rw [hn] at c2; exact kI k (by (first | (refine if_neg ?_; (try simp only [Int32.lt_iff_toInt_lt, Int32.le_iff_toInt_le, ne_eq, ← Int32.toInt_inj, isP, ti_nI, ti_add, ti_sub, ti_mul, ti_neg, ti_0, ti_1, ti_2, ti_3, ti_4, ti_5, ti_6, ti_7, ti_8, ti_9, ti_10, ti_11, ti_12, ti_13, ti_14, ti_15, ti_16, ti_17, ti_18, ti_19, ti_20, ti_28, ti_30, ti_31, ti_32, ti_40, ti_45, ti_47, ti_48, ti_49, ti_57, ti_58, ti_59, ti_61, ti_76, ti_84, ti_96, ti_99, ti_100, ti_114, ti_115, ti_120, ti_126, ti_840, ti_1024] at *); omega) | (refine if_pos ?_; (try simp only [Int32.lt_iff_toInt_lt, Int32.le_iff_toInt_le, ne_eq, ← Int32.toInt_inj, isP, ti_nI, ti_add, ti_sub, ti_mul, ti_neg, ti_0, ti_1, ti_2, ti_3, ti_4, ti_5, ti_6, ti_7, ti_8, ti_9, ti_10, ti_11, ti_12, ti_13, ti_14, ti_15, ti_16, ti_17, ti_18, ti_19, ti_20, ti_28, ti_30, ti_31, ti_32, ti_40, ti_45, ti_47, ti_48, ti_49, ti_57, ti_58, ti_59, ti_61, ti_76, ti_84, ti_96, ti_99, ti_100, ti_114, ti_115, ti_120, ti_126, ti_840, ti_1024] at *); omega)))
  · rw [hn] at c2; exact kI k (by (first | (refine if_neg ?_; (try simp only [Int32.lt_iff_toInt_lt, Int32.le_iff_toInt_le, ne_eq, ← Int32.toInt_inj, isP, ti_nI, ti_add, ti_sub, ti_mul, ti_neg, ti_0, ti_1, ti_2, ti_3, ti_4, ti_5, ti_6, ti_7, ti_8, ti_9, ti_10, ti_11, ti_12, ti_13, ti_14, ti_15, ti_16, ti_17, ti_18, ti_19, ti_20, ti_28, ti_30, ti_31, ti_32, ti_40, ti_45, ti_47, ti_48, ti_49, ti_57, ti_58, ti_59, ti_61, ti_76, ti_84, ti_96, ti_99, ti_100, ti_114, ti_115, ti_120, ti_126, ti_840, ti_1024] at *); omega) | (refine if_pos ?_; (try simp only [Int32.lt_iff_toInt_lt, Int32.le_iff_toInt_le, ne_eq, ← Int32.toInt_inj, isP, ti_nI, ti_add, ti_sub, ti_mul, ti_neg, ti_0, ti_1, ti_2, ti_3, ti_4, ti_5, ti_6, ti_7, ti_8, ti_9, ti_10, ti_11, ti_12, ti_13, ti_14, ti_15, ti_16, ti_17, ti_18, ti_19, ti_20, ti_28, ti_30, ti_31, ti_32, ti_40, ti_45, ti_47, ti_48, ti_49, ti_57, ti_58, ti_59, ti_61, ti_76, ti_84, ti_96, ti_99, ti_100, ti_114, ti_115, ti_120, ti_126, ti_840, ti_1024] at *); omega)))
theorem ok_has {x : Int32} {f : Int32 → qMI → qML → qMP → Prop} (h : ES sh I P e s) (k : f (b01 (isP (s 0 0) x)) I L P) : Sq (d + 1) mX2_has sh [.ref e, .int x] I L P (KI f) :=
  raw_has h.1 h.2.2.1 h.2.2.2.2.2.2.1 k
theorem ok_hasBoth {x y : Int32} {f : Int32 → qMI → qML → qMP → Prop} (h : ES sh I P e s) (k : f (b01 (isP (s 0 0) x ∧ isP (s 0 0) y ∧ x ≠ y)) I L P) : Sq (d + 2) mX2_hasBoth sh [.ref e, .int x, .int y] I L P (KI f) := by
  refine sp_X2_hasBoth ⟨h.1, ok_has h ⟨fun c1 => ?_, fun c1 => ok_has h ⟨fun c2 => ?_, fun c2 => ⟨fun c3 => ?_, fun c3 => ?_⟩⟩⟩⟩
  · exact kI k (b01_f fun q => b01_0.mp c1 q.1)
  · exact kI k (b01_f fun q => b01_0.mp c2 q.2.1)
  · exact kI k (b01_f fun q => q.2.2 c3)
  · exact kI k (b01_t ⟨b01_n0.mp c1, b01_n0.mp c2, c3⟩)
theorem ok_bothLevels {f : Int32 → qMI → qML → qMP → Prop} (h : ES sh I P e s) (k : f (nI (10 * s 5 0 + s 6 0)) I L P) : Sq (d + 1) mX2_bothLevels sh [.ref e] I L P (KI f) := by
  refine sp_X2_bothLevels ⟨h.1, kI k ?_⟩
  rw [h.2.2.2.1, h.2.2.2.2.1, nl 10, pk_mul, nI_add]
theorem ok_told {p w : Nat} {f : Int32 → qMI → qML → qMP → Prop} (h : ES sh I P e s) (hp : p < s 0 0) (hw : w < 4) (k : f (nI (s (1 + w) p)) I L P) : Sq (d + 2) mX2_told sh [.ref e, .int (nI p), .int (nI w)] I L P (KI f) := by
  obtain ⟨a1, a2, a3, a4, a5, a6, w1, w2⟩ := id h
  have hi : nI p * 4 + nI w = nI (4 * p + w) := by rw [nl 4, pk_mul, nI_add, Nat.mul_comm]
  refine sp_X2_told ⟨a1, ok_has h ⟨fun c1 => ?_, fun c1 => ⟨fun c2 => ?_, fun c2 => ⟨fun c3 => ?_, fun c3 => ?_⟩⟩⟩⟩
  · exact absurd (isP_nI hp (by omega)) (b01_0.mp c1)
  · exact absurd c2 (by ((try simp only [Int32.lt_iff_toInt_lt, Int32.le_iff_toInt_le, ne_eq, ← Int32.toInt_inj, isP, ti_nI, ti_add, ti_sub, ti_mul, ti_neg, ti_0, ti_1, ti_2, ti_3, ti_4, ti_5, ti_6, ti_7, ti_8, ti_9, ti_10, ti_11, ti_12, ti_13, ti_14, ti_15, ti_16, ti_17, ti_18, ti_19, ti_20, ti_28, ti_30, ti_31, ti_32, ti_40, ti_45, ti_47, ti_48, ti_49, ti_57, ti_58, ti_59, ti_61, ti_76, ti_84, ti_96, ti_99, ti_100, ti_114, ti_115, ti_120, ti_126, ti_840, ti_1024] at *); omega))
  · exact absurd c3 (by ((try simp only [Int32.lt_iff_toInt_lt, Int32.le_iff_toInt_le, ne_eq, ← Int32.toInt_inj, isP, ti_nI, ti_add, ti_sub, ti_mul, ti_neg, ti_0, ti_1, ti_2, ti_3, ti_4, ti_5, ti_6, ti_7, ti_8, ti_9, ti_10, ti_11, ti_12, ti_13, ti_14, ti_15, ti_16, ti_17, ti_18, ti_19, ti_20, ti_28, ti_30, ti_31, ti_32, ti_40, ti_45, ti_47, ti_48, ti_49, ti_57, ti_58, ti_59, ti_61, ti_76, ti_84, ti_96, ti_99, ti_100, ti_114, ti_115, ti_120, ti_126, ti_840, ti_1024] at *); omega))
  · rw [a2]
    refine ⟨rfl, vin _ hi (by show _ < 40; omega) (by decide), kI k ?_⟩
    rw [hi, clN (by omega), a6 p w hp hw]
theorem raw_put {n p w : Nat} {v : Int32} {f : qMI → qML → qMP → Prop} (h1 : (shp sh e).1 = 2) (h2 : shp sh (P e 3) = (20, 40)) (hn : I e 0 = nI n) (hb : n ≤ 10) (hp : p < n) (hw : w < 4) (k : f (uI I (P e 3) (4 * p + w) v) L P) : Sq (d + 2) mX2_put sh [.ref e, .int (nI p), .int (nI w), .int v] I L P (KV f) := by
  have hi : nI p * 4 + nI w = nI (4 * p + w) := by rw [nl 4, pk_mul, nI_add, Nat.mul_comm]
  refine sp_X2_put ⟨h1, raw_has h1 hn hb ⟨fun c1 => ?_, fun c1 => ⟨fun c2 => ?_, fun c2 => ⟨fun c3 => ?_, fun c3 => ?_⟩⟩⟩⟩
  · exact absurd (isP_nI hp (by omega)) (b01_0.mp c1)
  · exact absurd c2 (by ((try simp only [Int32.lt_iff_toInt_lt, Int32.le_iff_toInt_le, ne_eq, ← Int32.toInt_inj, isP, ti_nI, ti_add, ti_sub, ti_mul, ti_neg, ti_0, ti_1, ti_2, ti_3, ti_4, ti_5, ti_6, ti_7, ti_8, ti_9, ti_10, ti_11, ti_12, ti_13, ti_14, ti_15, ti_16, ti_17, ti_18, ti_19, ti_20, ti_28, ti_30, ti_31, ti_32, ti_40, ti_45, ti_47, ti_48, ti_49, ti_57, ti_58, ti_59, ti_61, ti_76, ti_84, ti_96, ti_99, ti_100, ti_114, ti_115, ti_120, ti_126, ti_840, ti_1024] at *); omega))
  · exact absurd c3 (by ((try simp only [Int32.lt_iff_toInt_lt, Int32.le_iff_toInt_le, ne_eq, ← Int32.toInt_inj, isP, ti_nI, ti_add, ti_sub, ti_mul, ti_neg, ti_0, ti_1, ti_2, ti_3, ti_4, ti_5, ti_6, ti_7, ti_8, ti_9, ti_10, ti_11, ti_12, ti_13, ti_14, ti_15, ti_16, ti_17, ti_18, ti_19, ti_20, ti_28, ti_30, ti_31, ti_32, ti_40, ti_45, ti_47, ti_48, ti_49, ti_57, ti_58, ti_59, ti_61, ti_76, ti_84, ti_96, ti_99, ti_100, ti_114, ti_115, ti_120, ti_126, ti_840, ti_1024] at *); omega))
  · rw [h2]
    refine ⟨rfl, vin _ hi (by show _ < 40; omega) (by decide), fun I9 e9 => ?_⟩
    rw [hi, clN (by omega)] at e9
    subst e9
    exact k
theorem ok_largest {x : Int32} {f : Int32 → qMI → qML → qMP → Prop} (k : f (lgst x) I L P) : Sq (d + 1) mX2_largest sh [.int x] I L P (KI f) := by
  refine sp_X2_largest ⟨fun c => ?_, fun c => ?_, fun c => ?_, fun c => ?_, fun c0 c1 c2 c3 => ?_⟩
  · subst c; exact kI k rfl
  · subst c; exact kI k rfl
  · subst c; exact kI k rfl
  · subst c; exact kI k rfl
  · exact kI k (by simp [lgst, c0, c1, c2, c3])
theorem ok_mayTell {x y v : Int32} {f : Int32 → qMI → qML → qMP → Prop} (h : ES sh I P e s) (k : f (b01 (mayS s x y v)) I L P) : Sq (d + 3) mX2_mayTell sh [.ref e, .int x, .int y, .int v] I L P (KI f) := by
  obtain ⟨a1, a2, a3, a4, a5, a6, w1, w2⟩ := id h
  refine sp_X2_mayTell (fun z I' L' P' => I' = I ∧ L' = L ∧ P' = P ∧ (0 ≤ v ∧ v ≤ lgst y) ∧ ∃ o, o ≤ s 0 0 ∧ z = nI o ∧ ∀ q, q < o → (y = 2 ∧ 0 < v ∧ nI q ≠ x → nI (s 3 q) ≠ v)) (fun z _ _ _ => 20 - z.toNatClampNeg) ⟨fun c1 => ?_, fun c1 => ok_largest ⟨fun c2 => ?_, fun c2 => ?_⟩⟩ ?_
  · exact kI k (b01_f fun q => by have q := q.1.1; ((try simp only [Int32.lt_iff_toInt_lt, Int32.le_iff_toInt_le, ne_eq, ← Int32.toInt_inj, isP, ti_nI, ti_add, ti_sub, ti_mul, ti_neg, ti_0, ti_1, ti_2, ti_3, ti_4, ti_5, ti_6, ti_7, ti_8, ti_9, ti_10, ti_11, ti_12, ti_13, ti_14, ti_15, ti_16, ti_17, ti_18, ti_19, ti_20, ti_28, ti_30, ti_31, ti_32, ti_40, ti_45, ti_47, ti_48, ti_49, ti_57, ti_58, ti_59, ti_61, ti_76, ti_84, ti_96, ti_99, ti_100, ti_114, ti_115, ti_120, ti_126, ti_840, ti_1024] at *); omega))
  · exact ⟨rfl, rfl, rfl, ⟨by ((try simp only [Int32.lt_iff_toInt_lt, Int32.le_iff_toInt_le, ne_eq, ← Int32.toInt_inj, isP, ti_nI, ti_add, ti_sub, ti_mul, ti_neg, ti_0, ti_1, ti_2, ti_3, ti_4, ti_5, ti_6, ti_7, ti_8, ti_9, ti_10, ti_11, ti_12, ti_13, ti_14, ti_15, ti_16, ti_17, ti_18, ti_19, ti_20, ti_28, ti_30, ti_31, ti_32, ti_40, ti_45, ti_47, ti_48, ti_49, ti_57, ti_58, ti_59, ti_61, ti_76, ti_84, ti_96, ti_99, ti_100, ti_114, ti_115, ti_120, ti_126, ti_840, ti_1024] at *); omega), c2⟩, 0, Nat.zero_le _, rfl, fun q hq => absurd hq (Nat.not_lt_zero q)⟩
  · exact kI k (b01_f fun q => c2 q.1.2)
  · rintro z I' L' P' ⟨rfl, rfl, rfl, hv, o, ho, rfl, hq⟩
    refine ⟨fun c1 => ?_, fun c1 => ⟨fun c2 => ?_, fun c2 => ⟨a1, fun c3 => ?_, fun c3 => ?_⟩⟩⟩
    · exact kI k (b01_t ⟨hv, fun o _ q => absurd q.1 c1⟩)
    · exact kI k (b01_t ⟨hv, fun o _ q => absurd q.2.1 (by ((try simp only [Int32.lt_iff_toInt_lt, Int32.le_iff_toInt_le, ne_eq, ← Int32.toInt_inj, isP, ti_nI, ti_add, ti_sub, ti_mul, ti_neg, ti_0, ti_1, ti_2, ti_3, ti_4, ti_5, ti_6, ti_7, ti_8, ti_9, ti_10, ti_11, ti_12, ti_13, ti_14, ti_15, ti_16, ti_17, ti_18, ti_19, ti_20, ti_28, ti_30, ti_31, ti_32, ti_40, ti_45, ti_47, ti_48, ti_49, ti_57, ti_58, ti_59, ti_61, ti_76, ti_84, ti_96, ti_99, ti_100, ti_114, ti_115, ti_120, ti_126, ti_840, ti_1024] at *); omega))⟩)
    · rw [a3] at c3
      refine kI k (b01_t ⟨hv, fun o2 h2 => hq o2 ?_⟩)
      ((try simp only [Int32.lt_iff_toInt_lt, Int32.le_iff_toInt_le, ne_eq, ← Int32.toInt_inj, isP, ti_nI, ti_add, ti_sub, ti_mul, ti_neg, ti_0, ti_1, ti_2, ti_3, ti_4, ti_5, ti_6, ti_7, ti_8, ti_9, ti_10, ti_11, ti_12, ti_13, ti_14, ti_15, ti_16, ti_17, ti_18, ti_19, ti_20, ti_28, ti_30, ti_31, ti_32, ti_40, ti_45, ti_47, ti_48, ti_49, ti_57, ti_58, ti_59, ti_61, ti_76, ti_84, ti_96, ti_99, ti_100, ti_114, ti_115, ti_120, ti_126, ti_840, ti_1024] at *); omega)
    · rw [a3] at c3
      have hlt : o < s 0 0 := by ((try simp only [Int32.lt_iff_toInt_lt, Int32.le_iff_toInt_le, ne_eq, ← Int32.toInt_inj, isP, ti_nI, ti_add, ti_sub, ti_mul, ti_neg, ti_0, ti_1, ti_2, ti_3, ti_4, ti_5, ti_6, ti_7, ti_8, ti_9, ti_10, ti_11, ti_12, ti_13, ti_14, ti_15, ti_16, ti_17, ti_18, ti_19, ti_20, ti_28, ti_30, ti_31, ti_32, ti_40, ti_45, ti_47, ti_48, ti_49, ti_57, ti_58, ti_59, ti_61, ti_76, ti_84, ti_96, ti_99, ti_100, ti_114, ti_115, ti_120, ti_126, ti_840, ti_1024] at *); omega)
      have hm : 20 - (nI o + 1).toNatClampNeg < 20 - (nI o).toNatClampNeg := by
        rw [nI_1, clN (by omega), clN (by omega)]
        omega
      refine ⟨fun c4 => ?_, fun c4 => ok_told (w := 2) h hlt (by decide) ⟨fun c5 => ?_, fun c5 => ?_⟩⟩
      · refine ⟨⟨rfl, rfl, rfl, hv, o + 1, hlt, nI_1 o, fun q h2 => ?_⟩, hm⟩
        rcases Nat.lt_succ_iff_lt_or_eq.mp h2 with h3 | rfl
        · exact hq q h3
        · exact fun z => absurd c4 z.2.2
      · refine ⟨⟨rfl, rfl, rfl, hv, o + 1, hlt, nI_1 o, fun q h2 => ?_⟩, hm⟩
        rcases Nat.lt_succ_iff_lt_or_eq.mp h2 with h3 | rfl
        · exact hq q h3
        · exact fun _ => c5
      · exact kI k (b01_f fun q => q.2 o hlt ⟨Decidable.not_not.mp (fun z => z c1), by ((try simp only [Int32.lt_iff_toInt_lt, Int32.le_iff_toInt_le, ne_eq, ← Int32.toInt_inj, isP, ti_nI, ti_add, ti_sub, ti_mul, ti_neg, ti_0, ti_1, ti_2, ti_3, ti_4, ti_5, ti_6, ti_7, ti_8, ti_9, ti_10, ti_11, ti_12, ti_13, ti_14, ti_15, ti_16, ti_17, ti_18, ti_19, ti_20, ti_28, ti_30, ti_31, ti_32, ti_40, ti_45, ti_47, ti_48, ti_49, ti_57, ti_58, ti_59, ti_61, ti_76, ti_84, ti_96, ti_99, ti_100, ti_114, ti_115, ti_120, ti_126, ti_840, ti_1024] at *); omega), c4⟩ c5)
theorem ok_slots {f : Int32 → qMI → qML → qMP → Prop} {n : Nat} (h1 : (shp sh e).1 = 2) (hn : I e 0 = nI n) (hb : n ≤ 10) (k : f (nI (slotsS n)) I L P) : Sq (d + 1) mX2_slots sh [.ref e] I L P (KI f) := by
  refine sp_X2_slots (fun x y I' L' P' => I' = I ∧ L' = L ∧ P' = P ∧ ∃ a, (a = 2 ∨ a = 4 ∨ a = 8 ∨ a = 16) ∧ x = nI a ∧ y = nI a ∧ (a = 2 ∨ a < 2 * n)) (fun x _ _ _ _ => 20 - x.toNatClampNeg) ⟨rfl, rfl, rfl, 2, Or.inl rfl, rfl, rfl, Or.inl rfl⟩ ?_
  rintro x y I' L' P' ⟨rfl, rfl, rfl, a, ha, rfl, rfl, hc⟩
  refine ⟨h1, fun c1 => ?_, fun c1 => ⟨fun c2 => ?_, fun c2 => ?_⟩⟩
  · rw [hn] at c1
    refine kI k (congrArg nI ?_)
    have c1 : n ≤ a := by ((try simp only [Int32.lt_iff_toInt_lt, Int32.le_iff_toInt_le, ne_eq, ← Int32.toInt_inj, isP, ti_nI, ti_add, ti_sub, ti_mul, ti_neg, ti_0, ti_1, ti_2, ti_3, ti_4, ti_5, ti_6, ti_7, ti_8, ti_9, ti_10, ti_11, ti_12, ti_13, ti_14, ti_15, ti_16, ti_17, ti_18, ti_19, ti_20, ti_28, ti_30, ti_31, ti_32, ti_40, ti_45, ti_47, ti_48, ti_49, ti_57, ti_58, ti_59, ti_61, ti_76, ti_84, ti_96, ti_99, ti_100, ti_114, ti_115, ti_120, ti_126, ti_840, ti_1024] at *); omega)
    unfold slotsS
    split <;> (try split) <;> (try split) <;> omega
  · rw [hn] at c1
    refine kI k (congrArg nI ?_)
    have c1 : a < n := by ((try simp only [Int32.lt_iff_toInt_lt, Int32.le_iff_toInt_le, ne_eq, ← Int32.toInt_inj, isP, ti_nI, ti_add, ti_sub, ti_mul, ti_neg, ti_0, ti_1, ti_2, ti_3, ti_4, ti_5, ti_6, ti_7, ti_8, ti_9, ti_10, ti_11, ti_12, ti_13, ti_14, ti_15, ti_16, ti_17, ti_18, ti_19, ti_20, ti_28, ti_30, ti_31, ti_32, ti_40, ti_45, ti_47, ti_48, ti_49, ti_57, ti_58, ti_59, ti_61, ti_76, ti_84, ti_96, ti_99, ti_100, ti_114, ti_115, ti_120, ti_126, ti_840, ti_1024] at *); omega)
    have c2 : 16 ≤ a := by ((try simp only [Int32.lt_iff_toInt_lt, Int32.le_iff_toInt_le, ne_eq, ← Int32.toInt_inj, isP, ti_nI, ti_add, ti_sub, ti_mul, ti_neg, ti_0, ti_1, ti_2, ti_3, ti_4, ti_5, ti_6, ti_7, ti_8, ti_9, ti_10, ti_11, ti_12, ti_13, ti_14, ti_15, ti_16, ti_17, ti_18, ti_19, ti_20, ti_28, ti_30, ti_31, ti_32, ti_40, ti_45, ti_47, ti_48, ti_49, ti_57, ti_58, ti_59, ti_61, ti_76, ti_84, ti_96, ti_99, ti_100, ti_114, ti_115, ti_120, ti_126, ti_840, ti_1024] at *); omega)
    unfold slotsS
    split <;> (try split) <;> (try split) <;> omega
  · rw [hn] at c1
    have c1 : a < n := by ((try simp only [Int32.lt_iff_toInt_lt, Int32.le_iff_toInt_le, ne_eq, ← Int32.toInt_inj, isP, ti_nI, ti_add, ti_sub, ti_mul, ti_neg, ti_0, ti_1, ti_2, ti_3, ti_4, ti_5, ti_6, ti_7, ti_8, ti_9, ti_10, ti_11, ti_12, ti_13, ti_14, ti_15, ti_16, ti_17, ti_18, ti_19, ti_20, ti_28, ti_30, ti_31, ti_32, ti_40, ti_45, ti_47, ti_48, ti_49, ti_57, ti_58, ti_59, ti_61, ti_76, ti_84, ti_96, ti_99, ti_100, ti_114, ti_115, ti_120, ti_126, ti_840, ti_1024] at *); omega)
    have c2 : a < 16 := by ((try simp only [Int32.lt_iff_toInt_lt, Int32.le_iff_toInt_le, ne_eq, ← Int32.toInt_inj, isP, ti_nI, ti_add, ti_sub, ti_mul, ti_neg, ti_0, ti_1, ti_2, ti_3, ti_4, ti_5, ti_6, ti_7, ti_8, ti_9, ti_10, ti_11, ti_12, ti_13, ti_14, ti_15, ti_16, ti_17, ti_18, ti_19, ti_20, ti_28, ti_30, ti_31, ti_32, ti_40, ti_45, ti_47, ti_48, ti_49, ti_57, ti_58, ti_59, ti_61, ti_76, ti_84, ti_96, ti_99, ti_100, ti_114, ti_115, ti_120, ti_126, ti_840, ti_1024] at *); omega)
    refine ⟨⟨rfl, rfl, rfl, a * 2, by omega, pk_mul a 2, pk_mul a 2, by omega⟩, ?_⟩
    rw [show nI a * 2 = nI (a * 2) from pk_mul a 2, clN (by omega), clN (by omega)]
    omega
theorem ok_rounds {f : Int32 → qMI → qML → qMP → Prop} {n : Nat} (h1 : (shp sh e).1 = 2) (hn : I e 0 = nI n) (hb : n ≤ 10) (k : f (nI (lastS n)) I L P) : Sq (d + 2) mX2_rounds sh [.ref e] I L P (KI f) := by
  have hs := slotsS_in n
  have hl : ∀ m, m ≤ 10 → slotsS m = 2 ^ lastS m := by decide
  have hl := hl n hb
  refine sp_X2_rounds (fun x y z I' L' P' => I' = I ∧ L' = L ∧ P' = P ∧ x = nI (slotsS n) ∧ ∃ r, r ≤ lastS n ∧ 1 ≤ r ∧ y = nI r ∧ z = nI (2 ^ r)) (fun _ y _ _ _ _ => 20 - y.toNatClampNeg) ⟨h1, ok_slots h1 hn hb ⟨rfl, rfl, rfl, rfl, 1, ?_, Nat.le_refl 1, rfl, rfl⟩⟩ ?_
  · unfold lastS
    split <;> (try split) <;> (try split) <;> omega
  · rintro x y z I' L' P' ⟨rfl, rfl, rfl, rfl, r, hr, hr1, rfl, rfl⟩
    have hr4 : lastS n ≤ 4 := by
      unfold lastS
      split <;> (try split) <;> (try split) <;> omega
    have hp : r = 1 ∨ r = 2 ∨ r = 3 ∨ r = 4 := by omega
    have hq : lastS n = 1 ∨ lastS n = 2 ∨ lastS n = 3 ∨ lastS n = 4 := by omega
    rw [hl]
    refine ⟨fun c1 => ?_, fun c1 => ?_⟩
    · refine kI k (congrArg nI ?_)
      rcases hp with rfl | rfl | rfl | rfl <;> rcases hq with q | q | q | q <;> rw [q] at c1 hr ⊢ <;> first | rfl | omega | (exfalso; revert c1; decide)
    · refine ⟨⟨rfl, rfl, rfl, rfl, r + 1, ?_, by omega, nI_1 r, ?_⟩, ?_⟩
      · rcases hp with rfl | rfl | rfl | rfl <;> rcases hq with q | q | q | q <;> rw [q] at c1 hr ⊢ <;> first | omega | (exfalso; revert c1; decide)
      · rw [Nat.pow_succ]; exact pk_mul _ 2
      · rw [nI_1, clN (by omega), clN (by omega)]
        omega
theorem ok_byes {f : Int32 → qMI → qML → qMP → Prop} (h : ES sh I P e s) (k : f (nI (slotsS (s 0 0) - s 0 0)) I L P) : Sq (d + 2) mX2_byes sh [.ref e] I L P (KI f) := by
  refine sp_X2_byes ⟨h.1, ok_slots h.1 h.2.2.1 h.2.2.2.2.2.2.1 (kI k ?_)⟩
  rw [h.2.2.1, pk_sub]
  have := h.2.2.2.2.2.2.1
  unfold slotsS
  split <;> (try split) <;> (try split) <;> omega
theorem ok_hasSlot {x : Int32} {f : Int32 → qMI → qML → qMP → Prop} (h : ES sh I P e s) (k : f (b01 (isP (slotsS (s 0 0)) x)) I L P) : Sq (d + 2) mX2_hasSlot sh [.ref e, .int x] I L P (KI f) := by
  have hs := slotsS_in (s 0 0)
  refine sp_X2_hasSlot ⟨fun c1 => ?_, fun c1 => ⟨h.1, ok_slots h.1 h.2.2.1 h.2.2.2.2.2.2.1 ⟨fun c2 => ?_, fun c2 => ?_⟩⟩⟩
  · exact kI k (by (first | (refine if_neg ?_; (try simp only [Int32.lt_iff_toInt_lt, Int32.le_iff_toInt_le, ne_eq, ← Int32.toInt_inj, isP, ti_nI, ti_add, ti_sub, ti_mul, ti_neg, ti_0, ti_1, ti_2, ti_3, ti_4, ti_5, ti_6, ti_7, ti_8, ti_9, ti_10, ti_11, ti_12, ti_13, ti_14, ti_15, ti_16, ti_17, ti_18, ti_19, ti_20, ti_28, ti_30, ti_31, ti_32, ti_40, ti_45, ti_47, ti_48, ti_49, ti_57, ti_58, ti_59, ti_61, ti_76, ti_84, ti_96, ti_99, ti_100, ti_114, ti_115, ti_120, ti_126, ti_840, ti_1024] at *); omega) | (refine if_pos ?_; (try simp only [Int32.lt_iff_toInt_lt, Int32.le_iff_toInt_le, ne_eq, ← Int32.toInt_inj, isP, ti_nI, ti_add, ti_sub, ti_mul, ti_neg, ti_0, ti_1, ti_2, ti_3, ti_4, ti_5, ti_6, ti_7, ti_8, ti_9, ti_10, ti_11, ti_12, ti_13, ti_14, ti_15, ti_16, ti_17, ti_18, ti_19, ti_20, ti_28, ti_30, ti_31, ti_32, ti_40, ti_45, ti_47, ti_48, ti_49, ti_57, ti_58, ti_59, ti_61, ti_76, ti_84, ti_96, ti_99, ti_100, ti_114, ti_115, ti_120, ti_126, ti_840, ti_1024] at *); omega)))
  · exact kI k (by (first | (refine if_neg ?_; (try simp only [Int32.lt_iff_toInt_lt, Int32.le_iff_toInt_le, ne_eq, ← Int32.toInt_inj, isP, ti_nI, ti_add, ti_sub, ti_mul, ti_neg, ti_0, ti_1, ti_2, ti_3, ti_4, ti_5, ti_6, ti_7, ti_8, ti_9, ti_10, ti_11, ti_12, ti_13, ti_14, ti_15, ti_16, ti_17, ti_18, ti_19, ti_20, ti_28, ti_30, ti_31, ti_32, ti_40, ti_45, ti_47, ti_48, ti_49, ti_57, ti_58, ti_59, ti_61, ti_76, ti_84, ti_96, ti_99, ti_100, ti_114, ti_115, ti_120, ti_126, ti_840, ti_1024] at *); omega) | (refine if_pos ?_; (try simp only [Int32.lt_iff_toInt_lt, Int32.le_iff_toInt_le, ne_eq, ← Int32.toInt_inj, isP, ti_nI, ti_add, ti_sub, ti_mul, ti_neg, ti_0, ti_1, ti_2, ti_3, ti_4, ti_5, ti_6, ti_7, ti_8, ti_9, ti_10, ti_11, ti_12, ti_13, ti_14, ti_15, ti_16, ti_17, ti_18, ti_19, ti_20, ti_28, ti_30, ti_31, ti_32, ti_40, ti_45, ti_47, ti_48, ti_49, ti_57, ti_58, ti_59, ti_61, ti_76, ti_84, ti_96, ti_99, ti_100, ti_114, ti_115, ti_120, ti_126, ti_840, ti_1024] at *); omega)))
  · exact kI k (by (first | (refine if_neg ?_; (try simp only [Int32.lt_iff_toInt_lt, Int32.le_iff_toInt_le, ne_eq, ← Int32.toInt_inj, isP, ti_nI, ti_add, ti_sub, ti_mul, ti_neg, ti_0, ti_1, ti_2, ti_3, ti_4, ti_5, ti_6, ti_7, ti_8, ti_9, ti_10, ti_11, ti_12, ti_13, ti_14, ti_15, ti_16, ti_17, ti_18, ti_19, ti_20, ti_28, ti_30, ti_31, ti_32, ti_40, ti_45, ti_47, ti_48, ti_49, ti_57, ti_58, ti_59, ti_61, ti_76, ti_84, ti_96, ti_99, ti_100, ti_114, ti_115, ti_120, ti_126, ti_840, ti_1024] at *); omega) | (refine if_pos ?_; (try simp only [Int32.lt_iff_toInt_lt, Int32.le_iff_toInt_le, ne_eq, ← Int32.toInt_inj, isP, ti_nI, ti_add, ti_sub, ti_mul, ti_neg, ti_0, ti_1, ti_2, ti_3, ti_4, ti_5, ti_6, ti_7, ti_8, ti_9, ti_10, ti_11, ti_12, ti_13, ti_14, ti_15, ti_16, ti_17, ti_18, ti_19, ti_20, ti_28, ti_30, ti_31, ti_32, ti_40, ti_45, ti_47, ti_48, ti_49, ti_57, ti_58, ti_59, ti_61, ti_76, ti_84, ti_96, ti_99, ti_100, ti_114, ti_115, ti_120, ti_126, ti_840, ti_1024] at *); omega)))
theorem lastS_le (n : Nat) : 1 ≤ lastS n ∧ lastS n ≤ 4 := by
  unfold lastS
  split <;> (try split) <;> (try split) <;> omega
theorem ok_hasRound {x : Int32} {f : Int32 → qMI → qML → qMP → Prop} (h : ES sh I P e s) (k : f (b01 (1 ≤ x.toInt ∧ x.toInt ≤ lastS (s 0 0))) I L P) : Sq (d + 3) mX2_hasRound sh [.ref e, .int x] I L P (KI f) := by
  have hs := lastS_le (s 0 0)
  refine sp_X2_hasRound ⟨fun c1 => ?_, fun c1 => ⟨h.1, ok_rounds h.1 h.2.2.1 h.2.2.2.2.2.2.1 ⟨fun c2 => ?_, fun c2 => ?_⟩⟩⟩
  · exact kI k (by (first | (refine if_neg ?_; (try simp only [Int32.lt_iff_toInt_lt, Int32.le_iff_toInt_le, ne_eq, ← Int32.toInt_inj, isP, ti_nI, ti_add, ti_sub, ti_mul, ti_neg, ti_0, ti_1, ti_2, ti_3, ti_4, ti_5, ti_6, ti_7, ti_8, ti_9, ti_10, ti_11, ti_12, ti_13, ti_14, ti_15, ti_16, ti_17, ti_18, ti_19, ti_20, ti_28, ti_30, ti_31, ti_32, ti_40, ti_45, ti_47, ti_48, ti_49, ti_57, ti_58, ti_59, ti_61, ti_76, ti_84, ti_96, ti_99, ti_100, ti_114, ti_115, ti_120, ti_126, ti_840, ti_1024] at *); omega) | (refine if_pos ?_; (try simp only [Int32.lt_iff_toInt_lt, Int32.le_iff_toInt_le, ne_eq, ← Int32.toInt_inj, isP, ti_nI, ti_add, ti_sub, ti_mul, ti_neg, ti_0, ti_1, ti_2, ti_3, ti_4, ti_5, ti_6, ti_7, ti_8, ti_9, ti_10, ti_11, ti_12, ti_13, ti_14, ti_15, ti_16, ti_17, ti_18, ti_19, ti_20, ti_28, ti_30, ti_31, ti_32, ti_40, ti_45, ti_47, ti_48, ti_49, ti_57, ti_58, ti_59, ti_61, ti_76, ti_84, ti_96, ti_99, ti_100, ti_114, ti_115, ti_120, ti_126, ti_840, ti_1024] at *); omega)))
  · exact kI k (by (first | (refine if_neg ?_; (try simp only [Int32.lt_iff_toInt_lt, Int32.le_iff_toInt_le, ne_eq, ← Int32.toInt_inj, isP, ti_nI, ti_add, ti_sub, ti_mul, ti_neg, ti_0, ti_1, ti_2, ti_3, ti_4, ti_5, ti_6, ti_7, ti_8, ti_9, ti_10, ti_11, ti_12, ti_13, ti_14, ti_15, ti_16, ti_17, ti_18, ti_19, ti_20, ti_28, ti_30, ti_31, ti_32, ti_40, ti_45, ti_47, ti_48, ti_49, ti_57, ti_58, ti_59, ti_61, ti_76, ti_84, ti_96, ti_99, ti_100, ti_114, ti_115, ti_120, ti_126, ti_840, ti_1024] at *); omega) | (refine if_pos ?_; (try simp only [Int32.lt_iff_toInt_lt, Int32.le_iff_toInt_le, ne_eq, ← Int32.toInt_inj, isP, ti_nI, ti_add, ti_sub, ti_mul, ti_neg, ti_0, ti_1, ti_2, ti_3, ti_4, ti_5, ti_6, ti_7, ti_8, ti_9, ti_10, ti_11, ti_12, ti_13, ti_14, ti_15, ti_16, ti_17, ti_18, ti_19, ti_20, ti_28, ti_30, ti_31, ti_32, ti_40, ti_45, ti_47, ti_48, ti_49, ti_57, ti_58, ti_59, ti_61, ti_76, ti_84, ti_96, ti_99, ti_100, ti_114, ti_115, ti_120, ti_126, ti_840, ti_1024] at *); omega)))
  · exact kI k (by (first | (refine if_neg ?_; (try simp only [Int32.lt_iff_toInt_lt, Int32.le_iff_toInt_le, ne_eq, ← Int32.toInt_inj, isP, ti_nI, ti_add, ti_sub, ti_mul, ti_neg, ti_0, ti_1, ti_2, ti_3, ti_4, ti_5, ti_6, ti_7, ti_8, ti_9, ti_10, ti_11, ti_12, ti_13, ti_14, ti_15, ti_16, ti_17, ti_18, ti_19, ti_20, ti_28, ti_30, ti_31, ti_32, ti_40, ti_45, ti_47, ti_48, ti_49, ti_57, ti_58, ti_59, ti_61, ti_76, ti_84, ti_96, ti_99, ti_100, ti_114, ti_115, ti_120, ti_126, ti_840, ti_1024] at *); omega) | (refine if_pos ?_; (try simp only [Int32.lt_iff_toInt_lt, Int32.le_iff_toInt_le, ne_eq, ← Int32.toInt_inj, isP, ti_nI, ti_add, ti_sub, ti_mul, ti_neg, ti_0, ti_1, ti_2, ti_3, ti_4, ti_5, ti_6, ti_7, ti_8, ti_9, ti_10, ti_11, ti_12, ti_13, ti_14, ti_15, ti_16, ti_17, ti_18, ti_19, ti_20, ti_28, ti_30, ti_31, ti_32, ti_40, ti_45, ti_47, ti_48, ti_49, ti_57, ti_58, ti_59, ti_61, ti_76, ti_84, ti_96, ti_99, ti_100, ti_114, ti_115, ti_120, ti_126, ti_840, ti_1024] at *); omega)))
theorem ok_beats {p q : Nat} {f : Int32 → qMI → qML → qMP → Prop} (h : ES sh I P e s) (hp : p < s 0 0) (hq : q < s 0 0) (k : f (b01 (beatsS s p q)) I L P) : Sq (d + 3) mX2_beats sh [.ref e, .int (nI p), .int (nI q)] I L P (KI f) := by
  have w := h.2.2.2.2.2.2
  have w1 := w.1
  have b1 := (w.2.2.2.1 p hp).2.2.2
  have b2 := (w.2.2.2.1 q hq).2.2.2
  refine sp_X2_beats ⟨h.1, ok_told (w := 3) h hp (by decide) (ok_told (w := 3) h hq (by decide) ⟨fun c1 => ?_, fun c1 => ⟨fun c2 => ?_, fun c2 => ⟨fun c3 => ?_, fun c3 => ?_⟩⟩⟩)⟩
  · exact kI k (b01_t (by change 0 < nI (s 4 p) - nI (s 4 q) at c1; exact Or.inl (by ((try simp only [Int32.lt_iff_toInt_lt, Int32.le_iff_toInt_le, ne_eq, ← Int32.toInt_inj, isP, ti_nI, ti_add, ti_sub, ti_mul, ti_neg, ti_0, ti_1, ti_2, ti_3, ti_4, ti_5, ti_6, ti_7, ti_8, ti_9, ti_10, ti_11, ti_12, ti_13, ti_14, ti_15, ti_16, ti_17, ti_18, ti_19, ti_20, ti_28, ti_30, ti_31, ti_32, ti_40, ti_45, ti_47, ti_48, ti_49, ti_57, ti_58, ti_59, ti_61, ti_76, ti_84, ti_96, ti_99, ti_100, ti_114, ti_115, ti_120, ti_126, ti_840, ti_1024] at *); omega))))
  · exact kI k (b01_f (by change ¬ 0 < nI (s 4 p) - nI (s 4 q) at c1; change ¬ nI (s 4 p) - nI (s 4 q) = 0 at c2; ((try simp only [Int32.lt_iff_toInt_lt, Int32.le_iff_toInt_le, ne_eq, ← Int32.toInt_inj, isP, ti_nI, ti_add, ti_sub, ti_mul, ti_neg, ti_0, ti_1, ti_2, ti_3, ti_4, ti_5, ti_6, ti_7, ti_8, ti_9, ti_10, ti_11, ti_12, ti_13, ti_14, ti_15, ti_16, ti_17, ti_18, ti_19, ti_20, ti_28, ti_30, ti_31, ti_32, ti_40, ti_45, ti_47, ti_48, ti_49, ti_57, ti_58, ti_59, ti_61, ti_76, ti_84, ti_96, ti_99, ti_100, ti_114, ti_115, ti_120, ti_126, ti_840, ti_1024] at *); omega)))
  · exact kI k (b01_f (by change ¬ 0 < nI (s 4 p) - nI (s 4 q) at c1; change nI (s 4 p) - nI (s 4 q) = 0 at c2; ((try simp only [Int32.lt_iff_toInt_lt, Int32.le_iff_toInt_le, ne_eq, ← Int32.toInt_inj, isP, ti_nI, ti_add, ti_sub, ti_mul, ti_neg, ti_0, ti_1, ti_2, ti_3, ti_4, ti_5, ti_6, ti_7, ti_8, ti_9, ti_10, ti_11, ti_12, ti_13, ti_14, ti_15, ti_16, ti_17, ti_18, ti_19, ti_20, ti_28, ti_30, ti_31, ti_32, ti_40, ti_45, ti_47, ti_48, ti_49, ti_57, ti_58, ti_59, ti_61, ti_76, ti_84, ti_96, ti_99, ti_100, ti_114, ti_115, ti_120, ti_126, ti_840, ti_1024] at *); omega)))
  · exact kI k (b01_t (by change ¬ 0 < nI (s 4 p) - nI (s 4 q) at c1; change nI (s 4 p) - nI (s 4 q) = 0 at c2; exact Or.inr ⟨by ((try simp only [Int32.lt_iff_toInt_lt, Int32.le_iff_toInt_le, ne_eq, ← Int32.toInt_inj, isP, ti_nI, ti_add, ti_sub, ti_mul, ti_neg, ti_0, ti_1, ti_2, ti_3, ti_4, ti_5, ti_6, ti_7, ti_8, ti_9, ti_10, ti_11, ti_12, ti_13, ti_14, ti_15, ti_16, ti_17, ti_18, ti_19, ti_20, ti_28, ti_30, ti_31, ti_32, ti_40, ti_45, ti_47, ti_48, ti_49, ti_57, ti_58, ti_59, ti_61, ti_76, ti_84, ti_96, ti_99, ti_100, ti_114, ti_115, ti_120, ti_126, ti_840, ti_1024] at *); omega), by ((try simp only [Int32.lt_iff_toInt_lt, Int32.le_iff_toInt_le, ne_eq, ← Int32.toInt_inj, isP, ti_nI, ti_add, ti_sub, ti_mul, ti_neg, ti_0, ti_1, ti_2, ti_3, ti_4, ti_5, ti_6, ti_7, ti_8, ti_9, ti_10, ti_11, ti_12, ti_13, ti_14, ti_15, ti_16, ti_17, ti_18, ti_19, ti_20, ti_28, ti_30, ti_31, ti_32, ti_40, ti_45, ti_47, ti_48, ti_49, ti_57, ti_58, ti_59, ti_61, ti_76, ti_84, ti_96, ti_99, ti_100, ti_114, ti_115, ti_120, ti_126, ti_840, ti_1024] at *); omega)⟩))
theorem ok_all {f : Int32 → qMI → qML → qMP → Prop} (h : ES sh I P e s) (k : f (nI (2 ^ s 0 0 - 1)) I L P) : Sq (d + 1) mX2_all sh [.ref e] I L P (KI f) := by
  refine sp_X2_all ⟨h.1, kI k ?_⟩
  rw [h.2.2.1]
  have w1 := h.2.2.2.2.2.2.1
  have key : ∀ n, n ≤ 10 → nI (2 ^ n - 1) = (1 : Int32) <<< (nI n &&& 31) - 1 := by decide +kernel
  exact key _ w1
end EN
