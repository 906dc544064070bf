/-! ===== the reference: rounds ===== -/
section RG
variable {d : Nat} {I : qMI} {L : qML} {P : qMP} {W : Wd} {s : Sit}
theorem ok10_better {a b : Nat} {f : Int32 → qMI → qML → qMP → Prop} (hP : LAY P) (hG : GE (I 145) s) (w : WE s) (ha : a < s 0 0 ∨ a = 10) (hb : b < s 0 0 ∨ b = 10) (k : f (nI (winV s a b 0)) I L P) : Sq (d + 1) mX10_better SH0 [.ref 144, .int (nI a), .int (nI b)] I L P (KI f) := by
  obtain ⟨g0, -⟩ := ref_P hP
  have hn := hG.1
  have ea : nI a = 10 ↔ a = 10 := nI_eq (b := 10) (by omega) (by decide)
  have eb : nI b = 10 ↔ b = 10 := nI_eq (b := 10) (by omega) (by decide)
  unfold winV at k
  refine sp_X10_better ⟨fun c => ⟨fun c2 => absurd c c2, fun _ => kI k ?_⟩, fun c => ⟨fun c2 => ⟨by decide, ?_⟩, fun c2 => ⟨fun _ => kI k ?_, fun c3 => absurd c3 c⟩⟩⟩
  · have c := ea.mp c
    rw [if_pos (Or.inl c), if_pos c]
  · have c : a ≠ 10 := fun q => c (ea.mpr q)
    have c2 : b ≠ 10 := fun q => c2 (eb.mpr q)
    have ha : a < s 0 0 := by omega
    have hb : b < s 0 0 := by omega
    have sa := (w.2.2.2.1 a ha).2.2.2
    have sb := (w.2.2.2.1 b hb).2.2.2
    have va : I 145 (35 + a) = nI (s 4 a) := hG.2.2.2.2 a 3 ha (by decide)
    have vb : I 145 (35 + b) = nI (s 4 b) := hG.2.2.2.2 b 3 hb (by decide)
    have t1 : (nI (s 4 a) - nI (s 4 b)).toInt = (s 4 a : Int) - s 4 b := pk_sub_toInt (by omega) (by omega)
    rw [if_neg (by omega), if_neg (by omega)] at k
    rw [g0, show (35 : Int32) + nI a = nI (35 + a) from nI_add 35 a, show (35 : Int32) + nI b = nI (35 + b) from nI_add 35 b, clN (by omega), clN (by omega), va, vb]
    refine ⟨by decide, v145 _ (by omega), v145 _ (by omega), fun c3 => kI k ?_, fun c3 => ⟨fun c4 => kI k ?_, fun c4 => ⟨fun c5 => kI k ?_, fun c5 => kI k ?_⟩⟩⟩
    · rw [Int32.lt_iff_toInt_lt, t1, ti_0] at c3
      rw [if_pos (Or.inl (by omega))]
    · rw [Int32.lt_iff_toInt_lt, t1, ti_0] at c3
      rw [← Int32.toInt_inj, t1, ti_0] at c4
      rw [if_neg (by unfold beatsS; omega)]
    · rw [← Int32.toInt_inj, t1, ti_0] at c4
      have c5 := (nI_leI (by omega) (by omega)).mp c5
      rw [if_neg (by unfold beatsS; omega)]
    · rw [← Int32.toInt_inj, t1, ti_0] at c4
      have c5 : ¬ b ≤ a := fun q => c5 (nI_le q (by omega))
      rw [if_pos (by unfold beatsS; omega)]
  · have c2 := eb.mp c2
    have c : a ≠ 10 := fun q => c (ea.mpr q)
    rw [if_pos (Or.inr c2), if_neg c]
theorem ok10_plays {f : qMI → qML → qMP → Prop} (hP : LAY P) (hG : GS (I 145) s) (we : WE s) (w : WD s) (h7 : s 7 0 = 1) (hr : s 9 0 < lastS (s 0 0)) (k : ∀ I', (∀ r, r ≠ 145 → I' r = I r) → GS (I' 145) (playS s) → f I' L P) : Sq (d + 3) mX10_plays SH0 [.ref 144] I L P (KV f) := by
  obtain ⟨g0, -⟩ := ref_P hP
  have hn := hG.1.1
  have hl := lastS_le (s 0 0)
  have v := hG.2.2.2 h7
  have tp := TB_pow _ hn (s 9 0 + 1) (by omega)
  have tt := TB_all _ hn (s 9 0 + 1) (by omega)
  have t8 := tt.2.2.2.2 (by omega)
  have th := TB_half (n := s 0 0) (r := s 9 0) hn (by omega)
  refine sp_X10_plays
    (fun x1 x2 I' L' P' => L' = L ∧ P' = P ∧ x1 = nI (s 9 0 + 1) ∧ ∃ o, o ≤ TB (s 0 0) (s 9 0 + 1) ∧ x2 = nI o ∧ (∀ r, r ≠ 145 → I' r = I r) ∧ (∀ j, (∀ i, i < o → j ≠ thr (s 9 0 + 1) + i) → I' 145 j = I 145 j) ∧ ∀ i, i < o → I' 145 (thr (s 9 0 + 1) + i) = nI (winS s i))
    (fun _ x2 _ _ _ => 100 - x2.toNatClampNeg)
    (fun x1 x2 I' L' P' => L' = L ∧ P' = P ∧ x1 = nI (s 9 0 + 1) ∧ ∃ o, o ≤ 8 ∧ x2 = nI o ∧ (∀ r, r ≠ 145 → I' r = I r) ∧ (∀ j, j < 76 → (∀ i, i < TB (s 0 0) (s 9 0 + 1) → j ≠ thr (s 9 0 + 1) + i) → I' 145 j = I 145 j) ∧ (∀ i, i < TB (s 0 0) (s 9 0 + 1) → I' 145 (thr (s 9 0 + 1) + i) = nI (winS s i)) ∧ ∀ i, i < o → I' 145 (76 + i) = -2)
    (fun _ x2 _ _ _ => 50 - x2.toNatClampNeg) ⟨by decide, ?_⟩ ?_ ?_
  · rw [g0, cl_4, hG.2.2.1, nI_1]
    exact ⟨by decide, v145 4 (by decide), rfl, rfl, rfl, 0, Nat.zero_le _, rfl, fun _ _ => rfl, fun _ _ => rfl, fun i hi => absurd hi (Nat.not_lt_zero i)⟩
  · rintro x1 x2 I1 L1 P1 ⟨rfl, rfl, rfl, o, ho, rfl, hF, hV, hW⟩
    have e45 : ∀ j, j < 61 ∨ 76 ≤ j → I1 145 j = I 145 j := fun j hj => hV j fun i hi => by
      have := thr_lt (n := s 0 0) (r := s 9 0 + 1) (k := i) (by omega) (by omega)
      have t76 : thr (s 9 0 + 1) + i < 76 := by
        obtain ⟨b1, b2, b3, b4⟩ := TB_b (s 0 0)
        obtain ⟨a1, a2, a3, a4⟩ := thr_at
        have hq : s 9 0 = 0 ∨ s 9 0 = 1 ∨ s 9 0 = 2 ∨ s 9 0 = 3 := by omega
        rcases hq with q | q | q | q <;> rw [q] at ho ⊢ <;> simp only [Nat.zero_add, Nat.reduceAdd] at ho ⊢ <;> omega
      omega
    have hG1 : GE (I1 145) s := hG.1.congr fun j hj => e45 j (by omega)
    refine ⟨by decide, ok10_last hP hG1 ?_⟩
    rw [pk_sub (show s 9 0 + 1 ≤ lastS (s 0 0) by omega), bitN (by omega), ← tp]
    refine ⟨fun c => ?_, fun c => ?_⟩
    · have c := (nI_leI (by omega) (by omega)).mp c
      have : o = TB (s 0 0) (s 9 0 + 1) := by omega
      subst this
      refine ⟨⟨rfl, rfl, rfl, 0, by decide, rfl, hF, fun j _ h2 => hV j h2, hW, fun i hi => absurd hi (Nat.not_lt_zero i)⟩, ?_⟩
      rw [cl_0, clN (by omega)]; omega
    · have c : o < TB (s 0 0) (s 9 0 + 1) := Nat.lt_of_not_le fun q => c (nI_le q (by omega))
      rw [nI_pred, show (2 : Int32) * nI o = nI (2 * o) from pk_mul 2 o, nI_1, nI_1]
      have old : ∀ j, j < TB (s 0 0) (s 9 0) → I1 145 (if s 9 0 = 0 then 45 + j else thr (s 9 0) + j) = nI (s (20 + s 9 0) j) := fun j hj => by
        have hs := slotsS_in (s 0 0)
        by_cases z : s 9 0 = 0
        · have hj2 : j < slotsS (s 0 0) := by rw [z, TB_0] at hj; exact hj
          rw [if_pos z, e45 _ (by omega), v.1 j hj2, z]
        · rw [if_neg z, hV _ fun i hi q => ?_]
          · exact v.2.1 (s 9 0) j (by omega) (Nat.le_refl _) hj
          · have := thr_inj (n := s 0 0) (by omega) (by omega) (by omega) (by omega) hj (show i < TB (s 0 0) (s 9 0 + 1) by omega) q
            omega
      have in1 := w.2.2.2.1 (s 9 0) (2 * o) (Nat.le_refl _) (by omega)
      have in2 := w.2.2.2.1 (s 9 0) (2 * o + 1) (Nat.le_refl _) (by omega)
      have in1 : s (20 + s 9 0) (2 * o) < s 0 0 ∨ s (20 + s 9 0) (2 * o) = 10 := by omega
      have in2 : s (20 + s 9 0) (2 * o + 1) < s 0 0 ∨ s (20 + s 9 0) (2 * o + 1) = 10 := by omega
      refine raw10_cameTo (s := s) hP (by omega) (show 2 * o < _ by omega) (raw10_cameTo (s := s) hP (by omega) (show 2 * o + 1 < _ by omega) ?_)
      rw [old _ (by omega), old _ (by omega), g0, show (76 : Int32) + nI o = nI (76 + o) from nI_add 76 o, clN (p := 76 + o) (by omega), e45 (76 + o) (by omega), v.2.2 o hr c]
      have ea : nI (s (20 + s 9 0) (2 * o)) = 10 ↔ s (20 + s 9 0) (2 * o) = 10 := nI_eq (b := 10) (by omega) (by decide)
      have eb : nI (s (20 + s 9 0) (2 * o + 1)) = 10 ↔ s (20 + s 9 0) (2 * o + 1) = 10 := nI_eq (b := 10) (by omega) (by decide)
      have tl := thr_lt (n := s 0 0) (r := s 9 0 + 1) (k := o) (by omega) c
      refine ⟨by decide, v145 _ (by omega), ok10_throughAt (by omega) (by omega) ?_⟩
      rw [clN (by omega)]
      have hin := v145 (thr (s 9 0 + 1) + o) (by omega)
      have fin : ∀ z : Int32, z = nI (winS s o) → ∀ I27 : qMI, I27 = uI I1 145 (thr (s 9 0 + 1) + o) z → (L1 = L1 ∧ P1 = P1 ∧ nI (s 9 0 + 1) = nI (s 9 0 + 1) ∧ ∃ o_1, o_1 ≤ TB (s 0 0) (s 9 0 + 1) ∧ nI (o + 1) = nI o_1 ∧ (∀ r, r ≠ 145 → I27 r = I r) ∧ (∀ j, (∀ i, i < o_1 → j ≠ thr (s 9 0 + 1) + i) → I27 145 j = I 145 j) ∧ ∀ i, i < o_1 → I27 145 (thr (s 9 0 + 1) + i) = nI (winS s i)) ∧ 100 - (nI (o + 1)).toNatClampNeg < 100 - (nI o).toNatClampNeg := by
        intro z hz I27 e27
        subst hz
        refine ⟨⟨rfl, rfl, rfl, o + 1, c, rfl, fun r q => by rw [e27, uI_ne r q]; exact hF r q, fun j hj => ?_, fun i hi => ?_⟩, ?_⟩
        · rw [e27]
          exact (if_neg (fun q => hj o (by omega) q.2)).trans (hV j fun i hi => hj i (by omega))
        · rw [e27]
          show (if 145 = 145 ∧ thr (s 9 0 + 1) + i = thr (s 9 0 + 1) + o then _ else I1 145 _) = _
          by_cases z : i = o
          · subst z; rw [if_pos ⟨rfl, rfl⟩]
          · rw [if_neg (by omega)]; exact hW i (by omega)
        · rw [clN (by omega), clN (by omega)]; omega
      have ew := winS_V s o
      have ez : winV s (s (20 + s 9 0) (2 * o)) (s (20 + s 9 0) (2 * o + 1)) 0 = winS s o ∨ (s (20 + s 9 0) (2 * o) ≠ 10 ∧ s (20 + s 9 0) (2 * o + 1) ≠ 10 ∧ s 11 o ≠ 0) := by
        by_cases y1 : s (20 + s 9 0) (2 * o) = 10 ∨ s (20 + s 9 0) (2 * o + 1) = 10
        · left; rw [ew]; unfold winV; rw [if_pos y1, if_pos y1]
        · by_cases y2 : s 11 o = 0
          · left; rw [ew, y2]
          · right; exact ⟨fun q => y1 (Or.inl q), fun q => y1 (Or.inr q), y2⟩
      refine ⟨fun c2 => ok10_better hP hG1 we in1 in2 ⟨hin, fin _ ?_⟩, fun c2 => ⟨fun c3 => ok10_better hP hG1 we in1 in2 ⟨hin, fin _ ?_⟩, fun c3 => ⟨fun c4 => ok10_better hP hG1 we in1 in2 ⟨hin, fin _ ?_⟩, fun c4 => ⟨hin, fin _ ?_⟩⟩⟩⟩
      · rcases ez with q | ⟨q, -⟩
        · rw [q]
        · exact absurd (ea.mp c2) q
      · rcases ez with q | ⟨-, q, -⟩
        · rw [q]
        · exact absurd (eb.mp c3) q
      · rcases ez with q | ⟨-, -, q⟩
        · rw [q]
        · have in3 : s 11 o ≤ 11 := by
            have := w.2.2.2.2.2.2.2.2 o hr c q
            omega
          unfold hnd at c4
          rw [if_neg q] at c4
          exact absurd c4 (nI_pos (by omega))
      · have c2 : s (20 + s 9 0) (2 * o) ≠ 10 := fun q => c2 (ea.mpr q)
        have c3 : s (20 + s 9 0) (2 * o + 1) ≠ 10 := fun q => c3 (eb.mpr q)
        unfold hnd at c4 ⊢
        have q : s 11 o ≠ 0 := fun q => c4 (by rw [if_pos q]; decide)
        rw [if_neg q, ew]
        unfold winV
        rw [if_neg (by omega), if_pos q]
  · rintro x1 x2 I1 L1 P1 ⟨rfl, rfl, rfl, o, ho, rfl, hF, hV, hW, hH⟩
    refine ⟨fun c => ⟨by decide, ?_⟩, fun c => ⟨by decide, ?_⟩⟩
    · have c := (nI_leI (a := 8) (by decide) (by omega)).mp c
      have : o = 8 := by omega
      subst this
      rw [g0, cl_4]
      refine ⟨by decide, v145 4 (by decide), fun I5 e5 => k I5 (fun r q => by rw [e5, uI_ne r q]; exact hF r q) ⟨?_, ?_, ?_, fun _ => ⟨fun j hj => ?_, fun r j h1 h2 h3 => ?_, fun j h1 h2 => ?_⟩⟩⟩
      · refine GE_cg (hG.1.congr fun j hj => ?_) fun x y hx => playS_lo s x y (by omega)
        rw [e5]
        refine (if_neg (by omega)).trans (hV j (by omega) fun i hi => ?_)
        have := thr_lt (n := s 0 0) (r := s 9 0 + 1) (k := i) (by omega) hi
        omega
      · rw [playS_lo _ _ _ (by omega), e5]
        refine (if_neg (by omega)).trans ((hV 3 (by decide) fun i hi => ?_).trans hG.2.1)
        have := thr_lt (n := s 0 0) (r := s 9 0 + 1) (k := i) (by omega) hi
        omega
      · rw [playS_9, e5]; exact if_pos ⟨rfl, rfl⟩
      · rw [playS_lo _ _ _ (by omega)] at hj
        have hs := slotsS_in (s 0 0)
        rw [playS_lo _ 20 _ (by omega), e5]
        refine (if_neg (by omega)).trans ((hV (45 + j) (by omega) fun i hi => ?_).trans (v.1 j hj))
        have := thr_lt (n := s 0 0) (r := s 9 0 + 1) (k := i) (by omega) hi
        omega
      · rw [playS_9] at h2
        rw [playS_lo _ 0 _ (by omega)] at h3
        have tl := thr_lt h1 h3
        rw [e5]
        refine (if_neg (by omega)).trans ?_
        by_cases z : r = s 9 0 + 1
        · subst z
          rw [playS_new]; exact hW j h3
        · rw [playS_old s (by omega) (by omega) (by omega), hV _ ?_ fun i hi q => ?_]
          · exact v.2.1 r j h1 (by omega) h3
          · obtain ⟨b1, b2, b3, b4⟩ := TB_b (s 0 0)
            obtain ⟨a1, a2, a3, a4⟩ := thr_at
            have hq : r = 1 ∨ r = 2 ∨ r = 3 ∨ r = 4 := by omega
            rcases hq with q | q | q | q <;> subst q <;> omega
          · have := thr_inj (n := s 0 0) h1 (by omega) (by omega) (by omega) h3 hi q
            omega
      · rw [playS_9, playS_lo _ 0 _ (by omega)] at h2
        have := (TB_le8 (s 0 0) (s 9 0 + 1 + 1) (by omega)).1
        rw [show playS s 11 j = 0 from by unfold playS; rw [if_neg (by omega), if_neg (by omega), if_pos rfl], e5]
        refine (if_neg (by omega)).trans (hH j (by omega))
    · have c : o < 8 := Nat.lt_of_not_le fun q => c (nI_le q (by omega))
      rw [g0, show (76 : Int32) + nI o = nI (76 + o) from nI_add 76 o, nI_1, clN (by omega)]
      refine ⟨by decide, v145 _ (by omega), fun I9 e9 => ⟨⟨rfl, rfl, rfl, o + 1, c, rfl, fun r q => by rw [e9, uI_ne r q]; exact hF r q, fun j h1 h2 => ?_, fun i hi => ?_, fun i hi => ?_⟩, ?_⟩⟩
      · rw [e9]; exact (if_neg (by omega)).trans (hV j h1 h2)
      · have t76 : thr (s 9 0 + 1) + i < 76 := by
          obtain ⟨b1, b2, b3, b4⟩ := TB_b (s 0 0)
          obtain ⟨a1, a2, a3, a4⟩ := thr_at
          have hq : s 9 0 = 0 ∨ s 9 0 = 1 ∨ s 9 0 = 2 ∨ s 9 0 = 3 := by omega
          rcases hq with q | q | q | q <;> rw [q] at hi ⊢ <;> simp only [Nat.zero_add, Nat.reduceAdd] at hi ⊢ <;> omega
        rw [e9]; exact (if_neg (by omega)).trans (hW i hi)
      · rw [e9]
        show (if 145 = 145 ∧ 76 + i = 76 + o then _ else I1 145 _) = _
        by_cases z : i = o
        · subst z; rw [if_pos ⟨rfl, rfl⟩]
        · rw [if_neg (by omega)]; exact hH i (by omega)
      · rw [clN (by omega), clN (by omega)]; omega
theorem ok10_play {f : Int32 → qMI → qML → qMP → Prop} (hP : LAY P) (hM : MR I L W) (hO : OKW W) (k : ∀ I' L', FR I I' L L' → MR I' L' (playR W).2 → f (playR W).1 I' L' P) : Sq (d + 4) mX10_play SH0 [.ref 144] I L P (KI f) := by
  obtain ⟨g0, -⟩ := ref_P hP
  obtain ⟨hG, hH, hI, hT, hC⟩ := id hM
  have o1 := hO.1
  unfold playR at k
  refine sp_X10_play ⟨by decide, ok10_isOver hP hG o1 ⟨fun c => ?_, fun c => ?_⟩⟩
  · have c := Classical.byContradiction fun z => b01_0.mp c z
    rw [if_pos c] at k
    refine ok10_changes hP hM hO fun I7 f7 j7 h7 => ?_
    have v7 : I7 145 = I 145 := f7 145 (by decide) (by decide)
    refine ok10_plays hP (by rw [v7]; exact hG) o1.1 (o1.2.2.2 c.1).1 c.1 c.2 fun I10 f10 G10 => ?_
    rw [g0, cl_4, G10.2.2.1, playS_9]
    refine ⟨by decide, v145 4 (by decide), k I10 L (fun r hr => ⟨by rw [f10 r (by omega), f7 r (by omega) (by omega)], rfl⟩) ⟨G10, (h7 _).congr (by rw [f10 144 (by decide)]) (by rw [f10 144 (by decide)]) (f10 147 (by decide)) (f10 148 (by decide)), hI.congr (by rw [f10 144 (by decide), j7 6 (by decide) (by decide)]) (by rw [f10 146 (by decide), f7 146 (by decide) (by decide)]), hT.congr (by rw [f10 144 (by decide), j7 10 (by decide) (by decide)]) (by rw [f10 149 (by decide), f7 149 (by decide) (by decide)]), (hC.congr (by rw [f10 144 (by decide), j7 17 (by decide) (by decide)]) rfl).same fun x y hx => playS_lo _ x y (by omega)⟩⟩
  · have c := b01_n0.mp c
    rw [if_neg c] at k
    exact k I L (fun _ _ => ⟨rfl, rfl⟩) hM
theorem ok10_byHand {x : Int32} {f : Int32 → qMI → qML → qMP → Prop} (hP : LAY P) (hM : MR I L W) (hO : OKW W) (k : ∀ I' L', FR I I' L L' → MR I' L' (byHandR W x).2 → f (byHandR W x).1 I' L' P) : Sq (d + 4) mX10_byHand SH0 [.ref 144, .int x] I L P (KI f) := by
  obtain ⟨g0, -⟩ := ref_P hP
  obtain ⟨hG, hH, hI, hT, hC⟩ := id hM
  have o1 := hO.1
  have hn := hG.1.1
  have hl := lastS_le (W.1 0 0)
  have hs := slotsS_in (W.1 0 0)
  unfold byHandR at k
  refine sp_X10_byHand ⟨by decide, ok10_isPlayer hP hG.1 ⟨fun c => ok10_isOver hP hG o1 ⟨fun c2 => ?_, fun c2 => ?_⟩, fun c => ?_⟩⟩
  · have c2 := b01_n0.mp c2
    rw [if_pos (b01_n0.mp c), if_neg (fun q => c2 q.1)] at k
    exact k I L (fun _ _ => ⟨rfl, rfl⟩) hM
  · have c := b01_n0.mp c
    have c2 := Classical.byContradiction fun z => b01_0.mp c2 z
    obtain ⟨p, hp, rfl, hcp⟩ := cl_isP c (by omega)
    rw [if_pos c, hcp] at k
    have w := (o1.2.2.2 c2.1).1
    have v := hG.2.2.2 c2.1
    have w1 := w.1
    have hsl := sl_lt w hp
    rw [g0, cl_4, hG.2.2.1]
    refine ⟨by decide, v145 4 (by decide), ok10_isThrough hP v w hp (Nat.le_refl _) ⟨fun c3 => ?_, fun c3 => ?_⟩⟩
    · have c3 := b01_n0.mp c3
      rw [if_pos ⟨c2, c3⟩] at k
      refine ok10_changes hP hM hO fun I19 f19 j19 h19 => ?_
      have v19 : I19 145 = I 145 := f19 145 (by decide) (by decide)
      refine ok10_slotOf hP (by rw [v19]; exact v) w hp ?_
      have hb := (TB_blk _ hn (W.1 9 0) (by omega) _ hsl).2
      have th := TB_half (n := W.1 0 0) (r := W.1 9 0) hn (by omega)
      have t8 := (TB_le8 (W.1 0 0) (W.1 9 0 + 1) (by omega)).1
      have t16 := (TB_all _ hn (W.1 9 0) (by omega)).2.1
      rw [g0, v19, hG.2.2.1, shrN (by omega) (by omega), show nI (slotI W.1 p / 2 ^ W.1 9 0) / 2 = nI (slotI W.1 p / 2 ^ W.1 9 0 / 2) from pk_div (by omega) (by decide) (by decide), show (76 : Int32) + nI (slotI W.1 p / 2 ^ W.1 9 0 / 2) = nI (76 + slotI W.1 p / 2 ^ W.1 9 0 / 2) from nI_add 76 _, clN (by omega)]
      refine ⟨by decide, v145 4 (by decide), v145 _ (by omega), fun I29 e29 => ?_⟩
      have hd2 : slotI W.1 p / 2 ^ (W.1 9 0 + 1) = slotI W.1 p / 2 ^ W.1 9 0 / 2 := by rw [Nat.pow_succ, Nat.div_div_eq_div_mul]
      generalize slotI W.1 p / 2 ^ W.1 9 0 = sq at *
      have f29 : ∀ r, r ≠ 145 → I29 r = I19 r := fun r q => by rw [e29, uI_ne r q]
      have v29 : ∀ j, j ≠ 76 + sq / 2 → I29 145 j = I 145 j := fun j hj => by rw [e29]; exact (if_neg (fun q => hj q.2)).trans (by rw [v19])
      have hne : ∀ x y, x ≠ 11 → handS W.1 p x y = W.1 x y := fun x y h => handS_ne _ _ _ _ h
      have G29 : GS (I29 145) (handS W.1 p) := by
        refine ⟨GE_cg (hG.1.congr fun j hj => v29 j (by omega)) fun x y hx => hne x y (by omega), by rw [hne _ _ (by decide), v29 3 (by omega)]; exact hG.2.1, by rw [hne _ _ (by decide), v29 4 (by omega)]; exact hG.2.2.1, fun _ => ⟨fun j hj => ?_, fun r j h1 h2 h3 => ?_, fun j h1 h2 => ?_⟩⟩
        · rw [hne _ _ (by decide)] at hj
          rw [hne _ _ (by decide), v29 _ (by omega)]; exact v.1 j hj
        · rw [hne _ _ (by decide)] at h2 h3
          have t76 : thr r + j < 76 := by
            obtain ⟨b1, b2, b3, b4⟩ := TB_b (W.1 0 0)
            obtain ⟨a1, a2, a3, a4⟩ := thr_at
            have hq : r = 1 ∨ r = 2 ∨ r = 3 ∨ r = 4 := by omega
            rcases hq with q | q | q | q <;> subst q <;> omega
          rw [hne _ _ (by omega), v29 _ (by omega)]; exact v.2.1 r j h1 h2 h3
        · rw [hne _ _ (by decide), hne _ _ (by decide)] at h1 h2
          unfold handS
          rw [hd2]
          by_cases z : j = sq / 2
          · subst z
            rw [up_at, e29]
            refine (if_pos ⟨rfl, rfl⟩).trans ?_
            unfold hnd
            rw [if_neg (by omega), show 1 + p - 1 = p by omega]
          · rw [up_ne (fun q => z q.2), v29 _ (by omega)]
            exact v.2.2 j h1 h2
      rw [v29 4 (by omega), hG.2.2.1, show (1 : Int32) = nI 1 from rfl, xorN]
      have e9 : handS W.1 p 9 0 = W.1 9 0 := hne _ _ (by decide)
      have e0 : handS W.1 p 0 0 = W.1 0 0 := hne _ _ (by decide)
      refine ok10_cameTo (s := handS W.1 p) hP (G29.2.2.2 (by rw [hne _ _ (by decide)]; exact c2.1)) (by rw [e9]; exact Nat.le_refl _) (by omega) (by rw [e0]; exact x1_lt hn c2.2 hb) (kI (k I29 L (fun r hr => ⟨by rw [f29 r (by omega), f19 r (by omega) (by omega)], rfl⟩) ⟨G29, (h19 _).congr (by rw [f29 144 (by decide)]) (by rw [f29 144 (by decide)]) (f29 147 (by decide)) (f29 148 (by decide)), hI.congr (by rw [f29 144 (by decide), j19 6 (by decide) (by decide)]) (by rw [f29 146 (by decide), f19 146 (by decide) (by decide)]), hT.congr (by rw [f29 144 (by decide), j19 10 (by decide) (by decide)]) (by rw [f29 149 (by decide), f19 149 (by decide) (by decide)]), (hC.congr (by rw [f29 144 (by decide), j19 17 (by decide) (by decide)]) rfl).same fun x y hx => hne x y (by omega)⟩) ?_)
      rw [hne _ _ (by omega)]
    · have c3 := b01_0.mp c3
      rw [if_neg (fun q => c3 q.2)] at k
      exact k I L (fun _ _ => ⟨rfl, rfl⟩) hM
  · rw [if_neg (b01_0.mp c)] at k
    exact k I L (fun _ _ => ⟨rfl, rfl⟩) hM
theorem ok10_winner {f : Int32 → qMI → qML → qMP → Prop} (hP : LAY P) (hM : MR I L W) (hO : OKW W) (k : ∀ I' L', FR I I' L L' → MR I' L' W → f (winnerV W.1) I' L' P) : Sq (d + 4) mX10_winner SH0 [.ref 144] I L P (KI f) := by
  obtain ⟨g0, g1, g2, g3, g4, g5, g6, g7, g8, g9, g10, g11, g12, g13, g14, g15, g16⟩ := ref_P hP
  obtain ⟨hG, hH, hI, hT, hC⟩ := id hM
  have o1 := hO.1
  have hn := hG.1.1
  have hl := lastS_le (W.1 0 0)
  unfold winnerV at k
  refine sp_X10_winner (fun I' L' P' => L' = L ∧ P' = P ∧ (∀ r, r ≠ 145 → r ≠ 161 → I' r = I r) ∧ (∀ j, j < 84 → I' 161 j = I 145 j) ∧ W.1 7 0 = 1 ∧ ∃ t g, GS (I' 145) t ∧ t 7 0 = 1 ∧ WD t ∧ (∀ a b, a ≤ 6 → t a b = W.1 a b) ∧ finS g t = finS 4 W.1 ∧ lastS (W.1 0 0) ≤ t 9 0 + g) (fun I' _ _ => 20 - (I' 145 4).toNatClampNeg) ⟨by decide, ok10_hasDraw hP hG o1.2.1 ⟨fun c => ?_, fun c => ?_⟩⟩ ?_
  · have c := b01_n0.mp c
    rw [g0, g16]
    refine ok10_copies (a := 0) (b := 0) (by decide) (by decide) (by decide) (by decide) (by decide) (by decide) (by decide) fun I7 f7 v7 => ⟨rfl, rfl, fun r _ q => f7 r q, fun j hj => ?_, c, W.1, 4, by rw [f7 145 (by decide)]; exact hG, c, (o1.2.2.2 c).1, fun _ _ _ => rfl, rfl, by omega⟩
    rw [v7, if_pos (by omega)]
    congr 1; omega
  · rw [if_neg (b01_0.mp c)] at k
    exact k I L (fun _ _ => ⟨rfl, rfl⟩) hM
  · rintro I1 L1 P1 ⟨rfl, rfl, hF, hA, c7, t, g, hGt, t7, w, tl, hf, hg⟩
    have e0 : t 0 0 = W.1 0 0 := tl 0 0 (by decide)
    have w1 := w.1
    rw [e0] at w1
    refine ⟨by decide, ?_⟩
    rw [g0, cl_4, hGt.2.2.1]
    refine ⟨by decide, v145 4 (by decide), ok10_last hP hGt.1 ?_⟩
    rw [e0]
    refine ⟨fun c => ok10_last hP hGt.1 ?_, fun c => ?_⟩
    · have c := (nI_leI (by omega) (by omega)).mp c
      rw [e0]
      refine ok10_cameTo (j := 0) hP (hGt.2.2.2 t7) (by omega) (by omega) (by rw [e0, TB_last _ hn]; decide) ?_
      rw [g0, g16]
      refine ok10_copies (a := 0) (b := 0) (by decide) (by decide) (by decide) (by decide) (by decide) (by decide) (by decide) fun I17 f17 v17 => ?_
      rw [if_pos c7, ← hf, finS_end (by rw [e0]; omega)] at k
      have f : ∀ r, r ≠ 145 → r ≠ 161 → I17 r = I r := fun r q1 q2 => by rw [f17 r q1, hF r q1 q2]
      refine k I17 L1 (fun r hr => ⟨f r (by omega) (by omega), rfl⟩) ⟨hG.congr fun j hj => ?_, hH.congr (by rw [f 144 (by decide) (by decide)]) (by rw [f 144 (by decide) (by decide)]) (f 147 (by decide) (by decide)) (f 148 (by decide) (by decide)), hI.congr (by rw [f 144 (by decide) (by decide)]) (f 146 (by decide) (by decide)), hT.congr (by rw [f 144 (by decide) (by decide)]) (f 149 (by decide) (by decide)), hC.congr (by rw [f 144 (by decide) (by decide)]) rfl⟩
      rw [v17, if_pos (by omega), show 0 + (j - 0) = j by omega]
      exact hA j hj
    · have c : t 9 0 < lastS (W.1 0 0) := Nat.lt_of_not_le fun q => c (nI_le q (by omega))
      have we : WE t := WE_cg o1.1 tl
      refine ok10_plays hP hGt we w t7 (by rw [e0]; exact c) fun I20 f20 G20 => ⟨⟨rfl, rfl, fun r q1 q2 => by rw [f20 r q1]; exact hF r q1 q2, fun j hj => by rw [f20 161 (by decide)]; exact hA j hj, c7, playS t, g - 1, G20, by rw [playS_lo _ _ _ (by omega)]; exact t7, w.play (by rw [e0]; exact c), fun a b hab => by rw [playS_lo _ _ _ (by omega)]; exact tl a b hab, ?_, ?_⟩, ?_⟩
      · rw [← hf]
        obtain ⟨g', rfl⟩ : ∃ g', g = g' + 1 := ⟨g - 1, by omega⟩
        show finS (g' + 1 - 1) (playS t) = if t 9 0 < lastS (t 0 0) then finS g' (playS t) else t
        rw [if_pos (by rw [e0]; exact c), Nat.add_sub_cancel]
      · rw [playS_9]; omega
      · rw [G20.2.2.1, playS_9, clN (by omega), clN (by omega)]; omega
end RG
