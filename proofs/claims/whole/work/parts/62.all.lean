section AL
variable {d : Nat} {J : qMI} {M : qML} {I : qMI} {L : qML} {P : qMP} {W : Wd}
theorem XR.cnt {I' : qMI} {L' : qML} (h : XR J M I L P W) (f1 : ∀ r, r ≠ 1 → ¬ (88 ≤ r ∧ r < 112) → I' r = I r ∧ L' r = L r) (f2 : ∀ j, j ≠ 10 → I' 1 j = I 1 j) (hC : CNT I' L' P) : XR J M I' L' P W := by
  obtain ⟨⟨hP, ⟨k1, k2, k3, k4, ⟨w, hw⟩, kS⟩, h3, h4, h5, h6, h7, h8⟩, hN, hO, hA⟩ := h
  refine ⟨⟨hP, ⟨by rw [(f1 14 (by decide) (by omega)).1]; exact k1, by rw [(f1 14 (by decide) (by omega)).1]; exact k2, k3, k4, ⟨w, hw⟩, fun i hi => ?_⟩, by rw [f2 9 (by decide)]; exact h3, fun q => ?_, h5.congr (f1 86 (by decide) (by omega)).1 (f1 87 (by decide) (by omega)).1, hC, fun r hr => ?_, h8⟩, ?_, hO, hA⟩
  · have fr := hw.far (i := i) (by omega)
    exact (kS i hi).congr hP hP (hw.sit (by omega)) (fun r q1 q2 => (f1 r (by omega) (by omega)).1) (f1 _ (by omega) (by omega)).2
  · exact (h4 q).congr hP hP (Or.inr (Or.inl rfl)) (fun r q1 q2 => (f1 r (by omega) (by omega)).1) (f1 _ (by omega) (by omega)).2
  · obtain ⟨y1, y2⟩ := f1 r (by omega) (by omega)
    rw [y1, y2]; exact h7 r hr
  · exact hN.congr hP hP (Or.inl rfl) (fun r q1 q2 => (f1 r (by omega) (by omega)).1) (f1 _ (by omega) (by omega)).2
theorem ok9_all {f : Int64 → qMI → qML → qMP → Prop} (h : XR J M I L P W) (hn2 : 2 ≤ W.1 0 0) (k : ∀ I' L', XR J M I' L' P W → (∃ u, SameD u W.1 ∧ WE u ∧ CR I' L' P 88 u ∧ I' 88 2 = 1 ∧ (I' 1 10 = -4 ∨ I' 1 10 = easeV u) ∧ L' 88 3 = lN (allS u)) → f (lN (allS W.1)) I' L' P) : Sq (d + 7) mX9_allDraws SH0 [.ref 1] I L P (KL f) := by
  obtain ⟨hQ, hN, hO, hA⟩ := id h
  have hP := hQ.1
  obtain ⟨p1, p2, p3, p4, p5, p6, p7, -⟩ := now_P hP
  have e4 : P 3 3 = 4 := ly_3_3 hP
  have hE := hN.1
  have w := hO.1
  have hn := w.1
  have same := all_same hn hn2
  have begun : Sq (d + 6) mX0_begin SH0 [.ref 88, .ref 3] I L P (KV fun I12 L13 P14 => ((shp SH0 (P14 1 4)).1 = 0) ∧ (Sq (d + 6) mX0_total SH0 [.ref (P14 1 4)] I12 L13 P14 (KL fun r16 I17 L18 P19 => ∀ I20 : qMI, I20 = uI I17 1 10 ((-4)) → (((shp SH0 (P19 1 4)).1 = 0) ∧ (KL f (some (.long (L18 (P19 1 4) 3))) I20 L18 P19))))) := by
    refine ok_C_begin hP (Or.inl rfl) hE (Or.inl (by decide)) (Or.inl (by rw [e4]; decide)) fun I12 f12 g12 B12 => ⟨by rw [p7]; decide, ?_⟩
    rw [p7]
    refine ok_total hP (Or.inl rfl) B12 hn fun L18 f18 r18 s18 I20 e20 => ⟨by rw [p7]; decide, ?_⟩
    rw [p7]
    have fI : ∀ r, r ≠ 1 → r ≠ 88 → I20 r = I12 r := fun r q1 q2 => by rw [e20, uI_ne r q1, uI_ne r q2]
    have f20 : ∀ j, j ≠ 2 → I20 88 j = I12 88 j := fun j hj => by
      rw [e20, uI_ne 88 (by decide)]
      exact if_neg fun y => hj y.2
    have e2 : I20 88 2 = 1 := by
      rw [e20, uI_ne 88 (by decide)]
      exact if_pos ⟨rfl, rfl⟩
    have e10 : I20 1 10 = -4 := by rw [e20]; exact if_pos ⟨rfl, rfl⟩
    have hB20 : CB I20 P 88 W.1 (seated W.1) (seatF W.1) 0 (-1) (-1) := by
      obtain ⟨q0, q1, q2, q3, q4, q5, q6, q7⟩ := cnt_P hP (Or.inl rfl : isCnt 88)
      obtain ⟨b1, b2, b3, b4, b5, b6, b7, b8⟩ := B12
      exact ⟨b1.congr (fI _ (by decide) (by decide)) (by rw [q1]; exact fI _ (by decide) (by decide)) (by rw [q2]; exact fI _ (by decide) (by decide)), b2.congr (fI _ (by decide) (by decide)) (by rw [q4]; exact fI _ (by decide) (by decide)) rfl, by rw [f20 4 (by decide)]; exact b3, by rw [f20 5 (by decide)]; exact b4, by rw [f20 6 (by decide)]; exact b5, by rw [f20 7 (by decide)]; exact b6, by rw [fI _ (by decide) (by decide)]; exact b7, b8⟩
    have hCR : CR I20 L18 P 88 W.1 := ⟨hB20, r18⟩
    have s18 : L18 88 3 = lN (gc (xS W.1) (lastS (W.1 0 0)) 0 (2 ^ W.1 0 0 - 1)) := s18
    rw [same] at s18
    refine kL (k I20 L18 (h.cnt (fun r q1 q2 => ⟨by rw [fI r q1 (by omega), f12 r (by omega)], f18 r (by omega) (by omega)⟩) (fun j hj => ?_) (Or.inr ⟨e2, W.1, w, hn2, hCR, s18, Or.inl e10⟩)) ⟨W.1, ⟨rfl, rfl, rfl, fun _ _ => ⟨rfl, rfl, rfl⟩⟩, w, hCR, e2, Or.inl e10, s18⟩) s18.symm
    rw [e20]
    show (if _ then _ else _) = _
    rw [if_neg (fun y => hj y.2), uI_ne 1 (by decide), f12 1 (by omega)]
  refine sp_X9_allDraws ⟨by decide, by rw [p1]; decide, by rw [p7]; decide, ?_⟩
  rw [p7, p1, p2]
  rcases hQ.2.2.2.2.2.1 with q | ⟨q1, u, q2, q3, q4, q5, q6⟩
  · refine ok_isFor0 (Or.inl rfl) q ⟨fun y => absurd rfl y, fun _ => ⟨by rw [p1]; decide, by rw [p7]; decide, ?_⟩⟩
    rw [p7, p1, p2]
    exact begun
  · refine ok_isFor1 hP (Or.inl rfl) q1 q4.1.2.1 hE ⟨fun y => ⟨by rw [p7]; decide, ?_⟩, fun y => ⟨by rw [p1]; decide, by rw [p7]; decide, ?_⟩⟩
    · have y := b01_n0.mp y
      rw [p7]
      refine kL (k I L h ⟨u, y, q2, q4, q1, q6, q5⟩) ?_
      rw [q5, (all_sameD y).1]
    · rw [p7, p1, p2]
      exact begun
theorem ok9_howMany {f : Int64 → qMI → qML → qMP → Prop} (h : XR J M I L P W) (k : ∀ I' L', XR J M I' L' P W → f (if 2 ≤ W.1 0 0 then lN (allS W.1) else -5) I' L' P) : Sq (d + 8) mX9_howMany SH0 [.ref 1] I L P (KL f) := by
  have hP := h.1.1
  obtain ⟨p1, p2, -⟩ := now_P hP
  have hn := h.2.2.1.1.1
  have v0 : I 3 0 = nI (W.1 0 0) := h.2.1.1.2.2.1
  have e2 : 2 ≤ I 3 0 ↔ 2 ≤ W.1 0 0 := by rw [v0]; exact nI_leI (a := 2) (by decide) (by omega)
  refine sp_X9_howMany ⟨by decide, by rw [p1]; decide, ?_⟩
  rw [p1, p2]
  refine ⟨by decide, fun c => ?_, fun c => ?_⟩
  · have c := e2.mp c
    rw [if_pos c] at k
    exact ok9_all h c fun I' L' hR _ => k I' L' hR
  · have c : ¬ 2 ≤ W.1 0 0 := fun z => c (e2.mpr z)
    rw [if_neg c] at k
    exact k I L h
end AL
