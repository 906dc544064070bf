section WA
variable {d : Nat} {J : qMI} {M : qML} {I : qMI} {L : qML} {P : qMP} {W : Wd}
theorem XR.keep {I' : qMI} {L' : qML} (h : XR J M I L P W) (k : ∀ r, (r < 82 ∨ 86 ≤ r ∧ r < 112 ∨ 144 ≤ r) → I' r = I r ∧ L' r = L r) : XR J M I' L' P W := by
  obtain ⟨hQ, hN, hO, hA⟩ := h
  exact ⟨hQ.keep fun r hr => k r (by omega), hN.congr hQ.1 hQ.1 (Or.inl rfl) (fun r q1 q2 => (k r (by omega)).1) (k _ (by omega)).2, hO, hA⟩
theorem allS_le {s : Sit} (hn : s 0 0 ≤ 10) : allS s ≤ 1099511627776 := gcs (A := mS s) hn (Nat.le_refl _) (all_lt _)
theorem ok9_watched {w : Nat} {ap tg : Int32} {f : Int64 → qMI → qML → qMP → Prop} (h : XR J M I L P W) (hn2 : 2 ≤ W.1 0 0) (hw : w < 1024) (k : ∀ I' L', XR J M I' L' P W → f (if allS W.1 = 0 then 0 else lN (gc (xA W.1 (seated W.1) (seatF W.1) w ap.toInt tg.toInt) (lastS (W.1 0 0)) 0 (2 ^ W.1 0 0 - 1))) I' L' P) : Sq (d + 8) mX9_watched SH0 [.ref 1, .int (nI w), .int ap, .int tg] I L P (KL f) := by
  have hP := h.1.1
  obtain ⟨p1, p2, p3, p4, p5, p6, p7, p8, -⟩ := now_P hP
  obtain ⟨c0, c1, c2, c3, c4, c5, c6, c7⟩ := cnt_P hP (Or.inr rfl : isCnt 112)
  have e4 : P 3 3 = 4 := ly_3_3 hP
  have hn := h.2.2.1.1.1
  have ha := allS_le hn
  have e0 : lN (allS W.1) = 0 ↔ allS W.1 = 0 := pk_lEQ (b := 0) (by omega) (by decide)
  refine sp_X9_watched ⟨by decide, ok9_all h hn2 fun I3 L3 hR _ => ⟨fun c => ?_, fun c => ?_⟩⟩
  · have c : ¬ allS W.1 = 0 := fun z => c (e0.mpr z)
    rw [if_neg c] at k
    rw [p1, p2, p8]
    refine ⟨by decide, by decide, ok_C_begin hP (Or.inr rfl) hR.2.1.1 (Or.inl (by decide)) (Or.inl (by rw [e4]; decide)) fun I9 f9 g9 B9 => ⟨by rw [p8]; decide, ?_⟩⟩
    rw [p8, c0]
    refine ⟨by decide, ok_watch (by decide) ⟨by rw [p8]; decide, ?_⟩⟩
    rw [p8]
    have fr : ∀ r, r ≠ 113 → uI (uI (uI I9 113 6 (nI w)) 113 7 ap) 113 8 tg r = I9 r := fun r q => by rw [uI_ne r q, uI_ne r q, uI_ne r q]
    have hB : CB (uI (uI (uI I9 113 6 (nI w)) 113 7 ap) 113 8 tg) P 112 W.1 (seated W.1) (seatF W.1) w ap tg := by
      obtain ⟨⟨r1, r2, r3, ⟨wb, r4, r5, r6⟩, r7, r8, r9, r10, r11⟩, b2, b3, b4, b5, b6, b7, b8⟩ := B9
      refine ⟨⟨r1, ?_, ?_, ⟨wb, r4, ?_, r6⟩, r7.congr ?_ (by rw [c1]; exact fr _ (by decide)) (by rw [c2]; exact fr _ (by decide)), ?_, hw, ?_, ?_⟩, b2.congr (fr _ (by decide)) (by rw [c4]; exact fr _ (by decide)) rfl, by rw [fr 112 (by decide)]; exact b3, by rw [fr 112 (by decide)]; exact b4, by rw [fr 112 (by decide)]; exact b5, by rw [fr 112 (by decide)]; exact b6, by rw [fr _ (by decide)]; exact b7, b8⟩
      · rw [← r2]; simp [uI]
      · rw [← r3]; simp [uI]
      · rw [← r5]; simp [uI]
      · simp [uI]
      · simp [uI]
      · simp [uI]
      · simp [uI]
    refine ok_total hP (Or.inr rfl) hB hn fun L18 f18 r18 s18 => k _ L18 (hR.keep fun r hr => ⟨?_, f18 r (by omega) (by omega)⟩)
    rw [uI_ne r (by omega), fr r (by omega), f9 r (by omega)]
  · have c := e0.mp c
    rw [if_pos c] at k
    exact k I3 L3 hR
end WA
