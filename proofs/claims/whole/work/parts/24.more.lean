section MO
variable {d : Nat} {sh : List qSh} {I : qMI} {L : qML} {P : qMP} {e u : Nat} {s t : Sit}
theorem ti_clamp0 : Int32.toNatClampNeg 0 = 0 := by decide
theorem ok_E_copy {f : qMI → qML → qMP → Prop} (h1 : (shp sh e).1 = 2) (h2 : shp sh (P e 3) = (20, 40)) (hE : ES sh I P u t) (k : ∀ I', (∀ r, r ≠ e → r ≠ P e 3 → I' r = I r) → ES sh I' P e t → f I' L P) : Sq (d + 1) mX2_copyFrom sh [.ref e, .ref u] I L P (KV f) := by
  obtain ⟨a1, a2, a3, a4, a5, a6, w⟩ := hE
  have n1 : P u 3 ≠ e := fun q => by rw [q] at a2; rw [a2] at h1; exact absurd h1 (by decide)
  have n2 : P e 3 ≠ e := fun q => by rw [q] at h2; rw [h2] at h1; exact absurd h1 (by decide)
  refine sp_X2_copyFrom ⟨a1, h1, fun I3 e3 I4 e4 I5 e5 => ?_⟩
  rw [a2, h2]
  refine ⟨rfl, rfl, by decide, by decide, by decide, fun I9 e9 => ?_⟩
  rw [show Int32.toNatClampNeg (nI 40) = 40 by decide, ti_clamp0] at e9
  have hI5 : ∀ r, r ≠ e → I5 r = I r := fun r q => by rw [e5, uI_ne r q, e4, uI_ne r q, e3, uI_ne r q]
  have hI9 : ∀ r, r ≠ P e 3 → I9 r = I5 r := fun r q => by rw [e9, cI_ne r q]
  refine k I9 (fun r q1 q2 => by rw [hI9 r q2, hI5 r q1]) ⟨h1, h2, ?_, ?_, ?_, fun p z hp hz => ?_, w⟩
  · rw [hI9 e (fun q => n2 q.symm), e5, ← a3]; simp [uI, e4, e3]
  · rw [hI9 e (fun q => n2 q.symm), e5, ← a4]
    by_cases c : u = e
    · subst c; simp [uI, e4, e3]
    · simp [uI, e4, e3, c]
  · rw [hI9 e (fun q => n2 q.symm), e5, ← a5]
    by_cases c : u = e
    · subst c; simp [uI, e4, e3]
    · simp [uI, e4, e3, c]
  · have hn := w.1
    rw [e9, cI_at, if_pos (by omega), hI5 _ n1]
    exact a6 p z hp hz
theorem raw_add {a b c g : Int32} {n : Nat} {f : qMI → qML → qMP → Prop} (h1 : (shp sh e).1 = 2) (h2 : shp sh (P e 3) = (20, 40)) (hn : I e 0 = nI n) (hb : n < 10) (k : f (uI (uI (uI (uI (uI I e 0 (nI (n + 1))) (P e 3) (4 * n + 0) a) (P e 3) (4 * n + 1) b) (P e 3) (4 * n + 2) c) (P e 3) (4 * n + 3) g) L P) : Sq (d + 3) mX2_add sh [.ref e, .int a, .int b, .int c, .int g] I L P (KV f) := by
  have n2 : P e 3 ≠ e := fun q => by rw [q] at h2; rw [h2] at h1; exact absurd h1 (by decide)
  refine sp_X2_add ⟨h1, ?_⟩
  rw [hn]
  refine ⟨fun c1 => absurd c1 (by ((try simp only [Int32.lt_iff_toInt_lt, Int32.le_iff_toInt_le, ne_eq, ← Int32.toInt_inj, isP, ti_nI, ti_add, ti_sub, ti_mul, ti_neg, ti_0, ti_1, ti_2, ti_3, ti_4, ti_5, ti_6, ti_7, ti_8, ti_9, ti_10, ti_11, ti_12, ti_13, ti_14, ti_15, ti_16, ti_17, ti_18, ti_19, ti_20, ti_28, ti_30, ti_31, ti_32, ti_40, ti_45, ti_47, ti_48, ti_49, ti_57, ti_58, ti_59, ti_61, ti_76, ti_84, ti_96, ti_99, ti_100, ti_114, ti_115, ti_120, ti_126, ti_840, ti_1024] at *); omega)), fun c1 I3 e3 => ?_⟩
  rw [nI_1] at e3
  have hz : I3 e 0 = nI (n + 1) := by rw [e3]; exact if_pos ⟨rfl, rfl⟩
  have hu : ∀ (J : qMI) (z : Nat) (v : Int32), J e 0 = nI (n + 1) → uI J (P e 3) z v e 0 = nI (n + 1) := fun J z v q => by rw [uI_ne e (fun q => n2 q.symm)]; exact q
  rw [hz, nI_pred]
  refine raw_put (w := 0) h1 h2 hz (by omega) (Nat.lt_succ_self n) (by decide) ?_
  rw [hu _ _ _ hz, nI_pred]
  refine raw_put (w := 1) h1 h2 (hu _ _ _ hz) (by omega) (Nat.lt_succ_self n) (by decide) ?_
  rw [hu _ _ _ (hu _ _ _ hz), nI_pred]
  refine raw_put (w := 2) h1 h2 (hu _ _ _ (hu _ _ _ hz)) (by omega) (Nat.lt_succ_self n) (by decide) ?_
  rw [hu _ _ _ (hu _ _ _ (hu _ _ _ hz)), nI_pred]
  refine raw_put (w := 3) h1 h2 (hu _ _ _ (hu _ _ _ (hu _ _ _ hz))) (by omega) (Nat.lt_succ_self n) (by decide) ?_
  subst e3
  exact k
theorem addS_e {s : Sit} {a b c g : Nat} : addS s a b c g 0 0 = s 0 0 + 1 ∧ addS s a b c g 5 0 = s 5 0 ∧ addS s a b c g 6 0 = s 6 0 ∧ (∀ p, p ≠ s 0 0 → addS s a b c g 1 p = s 1 p ∧ addS s a b c g 2 p = s 2 p ∧ addS s a b c g 3 p = s 3 p ∧ addS s a b c g 4 p = s 4 p) ∧ addS s a b c g 1 (s 0 0) = a ∧ addS s a b c g 2 (s 0 0) = b ∧ addS s a b c g 3 (s 0 0) = c ∧ addS s a b c g 4 (s 0 0) = g := by
  unfold addS up
  refine ⟨by simp, by simp, by simp, fun p hp => by simp [hp], by simp, by simp, by simp, by simp⟩
theorem ok_add {a b c g : Nat} {f : qMI → qML → qMP → Prop} (h : ES sh I P e s) (hb : s 0 0 < 10) (ha : a ≤ 5) (hb2 : b ≤ 3) (hc : c ≤ 8) (hg : g ≤ 99) (hz : c ≠ 0 → ∀ p, p < s 0 0 → s 3 p ≠ c) (k : ∀ I', (∀ r, r ≠ e → r ≠ P e 3 → I' r = I r) → ES sh I' P e (addS s a b c g) → f I' L P) : Sq (d + 3) mX2_add sh [.ref e, .int (nI a), .int (nI b), .int (nI c), .int (nI g)] I L P (KV f) := by
  obtain ⟨a1, a2, a3, a4, a5, a6, w1, w2, w3, w4, w5⟩ := h
  have n2 : P e 3 ≠ e := fun q => by rw [q] at a2; rw [a2] at a1; exact absurd a1 (by decide)
  have n3 : e ≠ P e 3 := fun q => n2 q.symm
  obtain ⟨z0, z5, z6, zo, z1, z2, z3, z4⟩ := addS_e (s := s) (a := a) (b := b) (c := c) (g := g)
  refine raw_add a1 a2 a3 hb (k _ (fun r q1 q2 => ?_) ⟨a1, a2, ?_, ?_, ?_, fun p z hp hz2 => ?_, ?_⟩)
  · rw [uI_ne r q2, uI_ne r q2, uI_ne r q2, uI_ne r q2, uI_ne r q1]
  · rw [uI_ne e n3, uI_ne e n3, uI_ne e n3, uI_ne e n3, z0]; exact if_pos ⟨rfl, rfl⟩
  · rw [uI_ne e n3, uI_ne e n3, uI_ne e n3, uI_ne e n3, z5, ← a4]; exact if_neg (fun q => absurd q.2 (by decide))
  · rw [uI_ne e n3, uI_ne e n3, uI_ne e n3, uI_ne e n3, z6, ← a5]; exact if_neg (fun q => absurd q.2 (by decide))
  · rw [z0] at hp
    by_cases c9 : p = s 0 0
    · subst c9
      have hz3 : z = 0 ∨ z = 1 ∨ z = 2 ∨ z = 3 := by omega
      rcases hz3 with rfl | rfl | rfl | rfl
      · simp [uI, z1]
      · simp [uI, z2]
      · simp [uI, z3]
      · simp [uI, z4]
    · have e1 : ∀ y, y < 4 → ¬ (4 * p + z = 4 * s 0 0 + y) := fun y hy q => by omega
      have hz3 : z = 0 ∨ z = 1 ∨ z = 2 ∨ z = 3 := by omega
      obtain ⟨y1, y2, y3, y4⟩ := zo p c9
      have hv : uI (uI (uI (uI (uI I e 0 (nI (s 0 0 + 1))) (P e 3) (4 * s 0 0 + 0) (nI a)) (P e 3) (4 * s 0 0 + 1) (nI b)) (P e 3) (4 * s 0 0 + 2) (nI c)) (P e 3) (4 * s 0 0 + 3) (nI g) (P e 3) (4 * p + z) = nI (s (1 + z) p) := by
        unfold uI
        rw [if_neg (fun q => e1 3 (by omega) q.2), if_neg (fun q => e1 2 (by omega) q.2), if_neg (fun q => e1 1 (by omega) q.2), if_neg (fun q => e1 0 (by omega) q.2), if_neg (fun q => n2 q.1)]
        exact a6 p z (by omega) hz2
      rw [hv]
      rcases hz3 with rfl | rfl | rfl | rfl
      · exact congrArg nI y1.symm
      · exact congrArg nI y2.symm
      · exact congrArg nI y3.symm
      · exact congrArg nI y4.symm
  · unfold WE
    rw [z0, z5, z6]
    refine ⟨by omega, w2, w3, fun p hp => ?_, fun p q hp hq hne he => ?_⟩
    · by_cases c9 : p = s 0 0
      · subst c9; rw [z1, z2, z3, z4]; exact ⟨ha, hb2, hc, hg⟩
      · obtain ⟨y1, y2, y3, y4⟩ := zo p c9
        rw [y1, y2, y3, y4]
        exact w4 p (by omega)
    · by_cases c9 : p = s 0 0
      · subst c9
        rw [z3] at he ⊢
        rw [(zo q (fun z => hne z.symm)).2.2.1] at he
        rcases Nat.eq_zero_or_pos c with z | z
        · exact z
        · exact absurd he.symm (hz (by omega) q (by omega))
      · rw [(zo p c9).2.2.1] at he ⊢
        by_cases c8 : q = s 0 0
        · subst c8
          rw [z3] at he
          rcases Nat.eq_zero_or_pos c with z | z
          · omega
          · exact absurd he (hz (by omega) p (by omega))
        · rw [(zo q c8).2.2.1] at he
          exact w5 p q (by omega) (by omega) hne he
theorem ok_strongest {f : Int32 → qMI → qML → qMP → Prop} (h : ES sh I P e s) (k : ∀ b, Best s b → f (nI b) I L P) : Sq (d + 4) mX2_strongest sh [.ref e] I L P (KI f) := by
  obtain ⟨a1, a2, a3, a4, a5, a6, w⟩ := id h
  have hn := w.1
  refine sp_X2_strongest (fun x y I' L' P' => I' = I ∧ L' = L ∧ P' = P ∧ ∃ b o, x = nI b ∧ y = nI o ∧ 1 ≤ o ∧ (o = 1 ∨ o ≤ s 0 0) ∧ b < o ∧ ∀ q, q < o → q < s 0 0 → q ≠ b → beatsS s b q) (fun _ y _ _ _ => 20 - y.toNatClampNeg) ⟨rfl, rfl, rfl, 0, 1, rfl, rfl, Nat.le_refl 1, Or.inl rfl, by decide, fun q h1 _ h2 => absurd h1 (by omega)⟩ ?_
  rintro x y I' L' P' ⟨rfl, rfl, rfl, b, o, rfl, rfl, ho1, ho2, hbo, hq⟩
  refine ⟨a1, ?_⟩
  rw [a3]
  refine ⟨fun c1 => ?_, fun c1 => ?_⟩
  · have c1 : s 0 0 ≤ o := by ((try simp only [Int32.lt_iff_toInt_lt, Int32.le_iff_toInt_le, ne_eq, ← Int32.toInt_inj, isP, ti_nI, ti_add, ti_sub, ti_mul, ti_neg, ti_0, ti_1, ti_2, ti_3, ti_4, ti_5, ti_6, ti_7, ti_8, ti_9, ti_10, ti_11, ti_12, ti_13, ti_14, ti_15, ti_16, ti_17, ti_18, ti_19, ti_20, ti_28, ti_30, ti_31, ti_32, ti_40, ti_45, ti_47, ti_48, ti_49, ti_57, ti_58, ti_59, ti_61, ti_76, ti_84, ti_96, ti_99, ti_100, ti_114, ti_115, ti_120, ti_126, ti_840, ti_1024] at *); omega)
    exact kI (k b ⟨fun z => by omega, fun z => ⟨by omega, fun q h1 h2 => hq q (by omega) h1 h2⟩⟩) rfl
  · have c1 : o < s 0 0 := by ((try simp only [Int32.lt_iff_toInt_lt, Int32.le_iff_toInt_le, ne_eq, ← Int32.toInt_inj, isP, ti_nI, ti_add, ti_sub, ti_mul, ti_neg, ti_0, ti_1, ti_2, ti_3, ti_4, ti_5, ti_6, ti_7, ti_8, ti_9, ti_10, ti_11, ti_12, ti_13, ti_14, ti_15, ti_16, ti_17, ti_18, ti_19, ti_20, ti_28, ti_30, ti_31, ti_32, ti_40, ti_45, ti_47, ti_48, ti_49, ti_57, ti_58, ti_59, ti_61, ti_76, ti_84, ti_96, ti_99, ti_100, ti_114, ti_115, ti_120, ti_126, ti_840, ti_1024] at *); omega)
    have hm : 20 - (nI o + 1).toNatClampNeg < 20 - (nI o).toNatClampNeg := by
      rw [nI_1, clN (by omega), clN (by omega)]; omega
    refine ok_beats h c1 (by omega) ⟨fun c2 => ?_, fun c2 => ?_⟩
    · have c2 := b01_0.mp c2
      refine ⟨⟨rfl, rfl, rfl, b, o + 1, rfl, nI_1 o, by omega, by omega, by omega, fun q h1 h2 h3 => ?_⟩, hm⟩
      by_cases z : q = o
      · subst z
        unfold beatsS at c2 ⊢
        omega
      · exact hq q (by omega) h2 h3
    · have c2 := b01_n0.mp c2
      refine ⟨⟨rfl, rfl, rfl, o, o + 1, rfl, nI_1 o, by omega, by omega, by omega, fun q h1 h2 h3 => ?_⟩, hm⟩
      by_cases z : q = b
      · subst z; exact c2
      · have := hq q (by omega) h2 z
        unfold beatsS at this c2 ⊢
        omega
theorem ok_sameDraws {f : Int32 → qMI → qML → qMP → Prop} (h : ES sh I P e s) (h2 : ES sh I P u t) (k : f (b01 (SameD s t)) I L P) : Sq (d + 3) mX2_sameDraws sh [.ref e, .ref u] I L P (KI f) := by
  obtain ⟨a1, a2, a3, a4, a5, a6, w⟩ := id h
  obtain ⟨b1, b2, b3, b4, b5, b6, v⟩ := id h2
  have hn := w.1
  have hn2 := v.1
  refine sp_X2_sameDraws (fun x y I' L' P' => I' = I ∧ L' = L ∧ P' = P ∧ ((x = 0 ∧ ¬ SameD s t) ∨ (x = 1 ∧ s 0 0 = t 0 0 ∧ s 5 0 = t 5 0 ∧ s 6 0 = t 6 0 ∧ ∃ o, o ≤ s 0 0 ∧ y = nI o ∧ ∀ p, p < o → s 1 p = t 1 p ∧ s 2 p = t 2 p ∧ s 3 p = t 3 p))) (fun x y _ _ _ => if x = 0 then 0 else 20 - y.toNatClampNeg) ⟨a1, b1, ?_⟩ ?_
  · rw [a3, b3, a4, b4, a5, b5]
    have l1 := w.2.1; have l2 := w.2.2.1; have l3 := v.2.1; have l4 := v.2.2.1
    refine ⟨fun c => ⟨rfl, rfl, rfl, Or.inl ⟨rfl, fun q => c (by rw [q.1])⟩⟩, fun c => ⟨fun c2 => ⟨rfl, rfl, rfl, Or.inl ⟨rfl, fun q => c2 (by rw [q.2.1])⟩⟩, fun c2 => ⟨fun c3 => ⟨rfl, rfl, rfl, Or.inl ⟨rfl, fun q => c3 (by rw [q.2.2.1])⟩⟩, fun c3 => ⟨rfl, rfl, rfl, Or.inr ⟨rfl, nI_inj (by omega) (by omega) c, nI_inj (by omega) (by omega) c2, nI_inj (by omega) (by omega) c3, 0, Nat.zero_le _, rfl, fun p hp => absurd hp (Nat.not_lt_zero p)⟩⟩⟩⟩⟩
  · rintro x y I' L' P' ⟨rfl, rfl, rfl, ⟨rfl, hno⟩ | ⟨rfl, e1, e2, e3, o, ho, rfl, hq⟩⟩
    · exact ⟨fun _ => ⟨Or.inl rfl, kI k (b01_f hno)⟩, fun c => absurd rfl c⟩
    · refine ⟨fun c => absurd c (by decide), fun _ => ⟨a1, ?_⟩⟩
      rw [a3]
      refine ⟨fun c1 => ⟨Or.inr rfl, kI k (b01_t ⟨e1, e2, e3, fun p hp => hq p ?_⟩)⟩, fun c1 => ?_⟩
      · have c1 : s 0 0 ≤ o := by ((try simp only [Int32.lt_iff_toInt_lt, Int32.le_iff_toInt_le, ne_eq, ← Int32.toInt_inj, isP, ti_nI, ti_add, ti_sub, ti_mul, ti_neg, ti_0, ti_1, ti_2, ti_3, ti_4, ti_5, ti_6, ti_7, ti_8, ti_9, ti_10, ti_11, ti_12, ti_13, ti_14, ti_15, ti_16, ti_17, ti_18, ti_19, ti_20, ti_28, ti_30, ti_31, ti_32, ti_40, ti_45, ti_47, ti_48, ti_49, ti_57, ti_58, ti_59, ti_61, ti_76, ti_84, ti_96, ti_99, ti_100, ti_114, ti_115, ti_120, ti_126, ti_840, ti_1024] at *); omega)
        omega
      · have c1 : o < s 0 0 := by ((try simp only [Int32.lt_iff_toInt_lt, Int32.le_iff_toInt_le, ne_eq, ← Int32.toInt_inj, isP, ti_nI, ti_add, ti_sub, ti_mul, ti_neg, ti_0, ti_1, ti_2, ti_3, ti_4, ti_5, ti_6, ti_7, ti_8, ti_9, ti_10, ti_11, ti_12, ti_13, ti_14, ti_15, ti_16, ti_17, ti_18, ti_19, ti_20, ti_28, ti_30, ti_31, ti_32, ti_40, ti_45, ti_47, ti_48, ti_49, ti_57, ti_58, ti_59, ti_61, ti_76, ti_84, ti_96, ti_99, ti_100, ti_114, ti_115, ti_120, ti_126, ti_840, ti_1024] at *); omega)
        have wb := w.2.2.2.1 o c1
        have vb := v.2.2.2.1 o (by omega)
        have hm : (if (1 : Int32) = 0 then 0 else 20 - (nI o + 1).toNatClampNeg) < (if (1 : Int32) = 0 then 0 else 20 - (nI o).toNatClampNeg) := by
          rw [if_neg (by decide), if_neg (by decide), nI_1, clN (by omega), clN (by omega)]; omega
        have hm0 : (if (0 : Int32) = 0 then 0 else 20 - (nI o + 1).toNatClampNeg) < (if (1 : Int32) = 0 then 0 else 20 - (nI o).toNatClampNeg) := by
          rw [if_pos rfl, if_neg (by decide), clN (by omega)]; omega
        refine ok_told (w := 0) h c1 (by decide) ⟨b1, ok_told (w := 0) h2 (by omega) (by decide) ⟨fun c2 => ⟨⟨rfl, rfl, rfl, Or.inl ⟨rfl, fun q => c2 (by rw [(q.2.2.2 o c1).1])⟩⟩, hm0⟩, fun c2 => ok_told (w := 1) h c1 (by decide) (ok_told (w := 1) h2 (by omega) (by decide) ⟨fun c3 => ⟨⟨rfl, rfl, rfl, Or.inl ⟨rfl, fun q => c3 (by rw [(q.2.2.2 o c1).2.1])⟩⟩, hm0⟩, fun c3 => ok_told (w := 2) h c1 (by decide) (ok_told (w := 2) h2 (by omega) (by decide) ⟨fun c4 => ⟨⟨rfl, rfl, rfl, Or.inl ⟨rfl, fun q => c4 (by rw [(q.2.2.2 o c1).2.2])⟩⟩, hm0⟩, fun c4 => ⟨⟨rfl, rfl, rfl, Or.inr ⟨rfl, e1, e2, e3, o + 1, c1, nI_1 o, fun p hp => ?_⟩⟩, hm⟩⟩)⟩)⟩⟩
        rcases Nat.lt_succ_iff_lt_or_eq.mp hp with z | rfl
        · exact hq p z
        · exact ⟨nI_inj (by omega) (by omega) c2, nI_inj (by omega) (by omega) c3, nI_inj (by omega) (by omega) c4⟩
theorem ok_seedSlot {p : Nat} {f : Int32 → qMI → qML → qMP → Prop} (h : ES sh I P e s) (hp : p < s 0 0) (k : f (if seated s p then nI (seatS (slotsS (s 0 0)) (s 3 p)) else -1) I L P) : Sq (d + 3) mX2_seedSlot sh [.ref e, .int (nI p)] I L P (KI f) := by
  obtain ⟨a1, a2, a3, a4, a5, a6, w⟩ := id h
  have hn := w.1
  have hs := slotsS_in (s 0 0)
  have hw := (w.2.2.2.1 p hp).2.2.1
  refine sp_X2_seedSlot (fun x2 x3 x4 x5 x6 I' L' P' => I' = I ∧ L' = L ∧ P' = P ∧ seated s p ∧ ∃ g left acc w size, x2 = nI left ∧ x4 = nI acc ∧ x5 = nI w ∧ x6 = nI size ∧ size < 2 ^ g ∧ left ≤ 16 ∧ 1 ≤ size ∧ (size = 1 ∨ size = 2 ∨ size = 4 ∨ size = 8 ∨ size = 16) ∧ left ≤ size ∧ 1 ≤ w ∧ w * size ≤ 16 ∧ acc < w ∧ seedRun g left acc w size = seatS (slotsS (s 0 0)) (s 3 p)) (fun _ _ _ _ x _ _ _ => x.toNatClampNeg) ⟨a1, ok_told (w := 2) h hp (by decide) (ok_slots a1 a3 hn ⟨fun c1 => ?_, fun c1 => ⟨fun c2 => ?_, fun c2 => ?_⟩⟩)⟩ ?_
  · change nI (s 3 p) < 1 at c1
    exact kI k (if_neg (fun q => by have := q.1; ((try simp only [Int32.lt_iff_toInt_lt, Int32.le_iff_toInt_le, ne_eq, ← Int32.toInt_inj, isP, ti_nI, ti_add, ti_sub, ti_mul, ti_neg, ti_0, ti_1, ti_2, ti_3, ti_4, ti_5, ti_6, ti_7, ti_8, ti_9, ti_10, ti_11, ti_12, ti_13, ti_14, ti_15, ti_16, ti_17, ti_18, ti_19, ti_20, ti_28, ti_30, ti_31, ti_32, ti_40, ti_45, ti_47, ti_48, ti_49, ti_57, ti_58, ti_59, ti_61, ti_76, ti_84, ti_96, ti_99, ti_100, ti_114, ti_115, ti_120, ti_126, ti_840, ti_1024] at *); omega)))
  · change ¬ nI (s 3 p) < 1 at c1
    change nI (s 3 p) ≤ _ at c2
    have q1 : 1 ≤ s 3 p := by ((try simp only [Int32.lt_iff_toInt_lt, Int32.le_iff_toInt_le, ne_eq, ← Int32.toInt_inj, isP, ti_nI, ti_add, ti_sub, ti_mul, ti_neg, ti_0, ti_1, ti_2, ti_3, ti_4, ti_5, ti_6, ti_7, ti_8, ti_9, ti_10, ti_11, ti_12, ti_13, ti_14, ti_15, ti_16, ti_17, ti_18, ti_19, ti_20, ti_28, ti_30, ti_31, ti_32, ti_40, ti_45, ti_47, ti_48, ti_49, ti_57, ti_58, ti_59, ti_61, ti_76, ti_84, ti_96, ti_99, ti_100, ti_114, ti_115, ti_120, ti_126, ti_840, ti_1024] at *); omega)
    have q2 : s 3 p ≤ slotsS (s 0 0) := by ((try simp only [Int32.lt_iff_toInt_lt, Int32.le_iff_toInt_le, ne_eq, ← Int32.toInt_inj, isP, ti_nI, ti_add, ti_sub, ti_mul, ti_neg, ti_0, ti_1, ti_2, ti_3, ti_4, ti_5, ti_6, ti_7, ti_8, ti_9, ti_10, ti_11, ti_12, ti_13, ti_14, ti_15, ti_16, ti_17, ti_18, ti_19, ti_20, ti_28, ti_30, ti_31, ti_32, ti_40, ti_45, ti_47, ti_48, ti_49, ti_57, ti_58, ti_59, ti_61, ti_76, ti_84, ti_96, ti_99, ti_100, ti_114, ti_115, ti_120, ti_126, ti_840, ti_1024] at *); omega)
    exact ⟨rfl, rfl, rfl, ⟨q1, q2⟩, 5, s 3 p, 0, 1, slotsS (s 0 0), rfl, rfl, rfl, rfl, by omega, by omega, by omega, by omega, q2, Nat.le_refl 1, by omega, by decide, seedRun_seat _ hn _ (by omega) q1 q2⟩
  · change ¬ nI (s 3 p) ≤ _ at c2
    exact kI k (if_neg (fun q => by have := q.2; ((try simp only [Int32.lt_iff_toInt_lt, Int32.le_iff_toInt_le, ne_eq, ← Int32.toInt_inj, isP, ti_nI, ti_add, ti_sub, ti_mul, ti_neg, ti_0, ti_1, ti_2, ti_3, ti_4, ti_5, ti_6, ti_7, ti_8, ti_9, ti_10, ti_11, ti_12, ti_13, ti_14, ti_15, ti_16, ti_17, ti_18, ti_19, ti_20, ti_28, ti_30, ti_31, ti_32, ti_40, ti_45, ti_47, ti_48, ti_49, ti_57, ti_58, ti_59, ti_61, ti_76, ti_84, ti_96, ti_99, ti_100, ti_114, ti_115, ti_120, ti_126, ti_840, ti_1024] at *); omega)))
  · rintro x2 x3 x4 x5 x6 I' L' P' ⟨rfl, rfl, rfl, hsd, g, left, acc, w, size, rfl, rfl, rfl, rfl, h1, h2, h3, h4, h5, h6, h7, h8, h9⟩
    have hwl : w ≤ 16 := Nat.le_trans (Nat.le_mul_of_pos_right w h3) h7
    rw [if_pos hsd] at k
    match g, h1, h9 with
    | 0, h1, h9 => omega
    | g + 1, h1, h9 =>
      unfold seedRun at h9
      unfold vc_X2_seedSlot_1
      rw [show nI size / 2 = nI (size / 2) from pk_div (by omega) (by decide) (by decide), show nI w * 2 = nI (w * 2) from pk_mul w 2]
      refine ⟨fun c1 => ?_, fun c1 => ?_⟩
      · have c1 : size ≤ 1 := by ((try simp only [Int32.lt_iff_toInt_lt, Int32.le_iff_toInt_le, ne_eq, ← Int32.toInt_inj, isP, ti_nI, ti_add, ti_sub, ti_mul, ti_neg, ti_0, ti_1, ti_2, ti_3, ti_4, ti_5, ti_6, ti_7, ti_8, ti_9, ti_10, ti_11, ti_12, ti_13, ti_14, ti_15, ti_16, ti_17, ti_18, ti_19, ti_20, ti_28, ti_30, ti_31, ti_32, ti_40, ti_45, ti_47, ti_48, ti_49, ti_57, ti_58, ti_59, ti_61, ti_76, ti_84, ti_96, ti_99, ti_100, ti_114, ti_115, ti_120, ti_126, ti_840, ti_1024] at *); omega)
        rw [if_pos c1] at h9
        exact kI k (congrArg nI h9.symm)
      · have c1 : ¬ size ≤ 1 := by ((try simp only [Int32.lt_iff_toInt_lt, Int32.le_iff_toInt_le, ne_eq, ← Int32.toInt_inj, isP, ti_nI, ti_add, ti_sub, ti_mul, ti_neg, ti_0, ti_1, ti_2, ti_3, ti_4, ti_5, ti_6, ti_7, ti_8, ti_9, ti_10, ti_11, ti_12, ti_13, ti_14, ti_15, ti_16, ti_17, ti_18, ti_19, ti_20, ti_28, ti_30, ti_31, ti_32, ti_40, ti_45, ti_47, ti_48, ti_49, ti_57, ti_58, ti_59, ti_61, ti_76, ti_84, ti_96, ti_99, ti_100, ti_114, ti_115, ti_120, ti_126, ti_840, ti_1024] at *); omega)
        rw [if_neg c1] at h9
        have hw2 : w * 2 * (size / 2) ≤ 16 := by
          have : w * 2 * (size / 2) = w * (2 * (size / 2)) := by rw [Nat.mul_assoc]
          rw [this]
          exact Nat.le_trans (Nat.mul_le_mul_left w (by omega)) h7
        have hpw : size / 2 < 2 ^ g := by rw [Nat.pow_succ] at h1; omega
        have hm : (nI (size / 2)).toNatClampNeg < (nI size).toNatClampNeg := by rw [clN (by omega), clN (by omega)]; omega
        refine ⟨fun c2 => ?_, fun c2 => ?_⟩
        · have c2 : left ≤ size / 2 := by ((try simp only [Int32.lt_iff_toInt_lt, Int32.le_iff_toInt_le, ne_eq, ← Int32.toInt_inj, isP, ti_nI, ti_add, ti_sub, ti_mul, ti_neg, ti_0, ti_1, ti_2, ti_3, ti_4, ti_5, ti_6, ti_7, ti_8, ti_9, ti_10, ti_11, ti_12, ti_13, ti_14, ti_15, ti_16, ti_17, ti_18, ti_19, ti_20, ti_28, ti_30, ti_31, ti_32, ti_40, ti_45, ti_47, ti_48, ti_49, ti_57, ti_58, ti_59, ti_61, ti_76, ti_84, ti_96, ti_99, ti_100, ti_114, ti_115, ti_120, ti_126, ti_840, ti_1024] at *); omega)
          rw [if_pos c2] at h9
          exact ⟨⟨rfl, rfl, rfl, hsd, g, left, acc, w * 2, size / 2, rfl, rfl, rfl, rfl, hpw, by omega, by omega, by omega, c2, by omega, hw2, by omega, h9⟩, hm⟩
        · have c2 : ¬ left ≤ size / 2 := by ((try simp only [Int32.lt_iff_toInt_lt, Int32.le_iff_toInt_le, ne_eq, ← Int32.toInt_inj, isP, ti_nI, ti_add, ti_sub, ti_mul, ti_neg, ti_0, ti_1, ti_2, ti_3, ti_4, ti_5, ti_6, ti_7, ti_8, ti_9, ti_10, ti_11, ti_12, ti_13, ti_14, ti_15, ti_16, ti_17, ti_18, ti_19, ti_20, ti_28, ti_30, ti_31, ti_32, ti_40, ti_45, ti_47, ti_48, ti_49, ti_57, ti_58, ti_59, ti_61, ti_76, ti_84, ti_96, ti_99, ti_100, ti_114, ti_115, ti_120, ti_126, ti_840, ti_1024] at *); omega)
          rw [if_neg c2] at h9
          have hle : size + 1 - left ≤ size / 2 := by omega
          exact ⟨⟨rfl, rfl, rfl, hsd, g, size + 1 - left, acc + w, w * 2, size / 2, by rw [nI_1, pk_sub (by omega)], nI_add acc w, rfl, rfl, hpw, by omega, by omega, by omega, hle, by omega, hw2, by omega, h9⟩, hm⟩
end MO
