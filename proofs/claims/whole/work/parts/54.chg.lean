/-! ===== changes, the image ===== -/
def stpW (W : Wd) (b : Nat) : Wd := (W.2.2.1.1 b, W.2.1, (W.2.2.1.1, b, W.2.2.1.2.2), W.2.2.2)
def undoR (W : Wd) : Int32 × Wd := if 1 ≤ W.2.2.1.2.1 then (nI (W.2.2.1.2.1 - 1), stpW W (W.2.2.1.2.1 - 1)) else (-5, W)
def redoR (W : Wd) : Int32 × Wd := if W.2.2.1.2.1 < W.2.2.1.2.2 then (nI (W.2.2.1.2.2 - (W.2.2.1.2.1 + 1)), stpW W (W.2.2.1.2.1 + 1)) else (-5, W)
def imageR (W : Wd) : Int32 × Wd := (nI (W.1 0 0), (W.1, (true, W.1), W.2.2))
def backR (W : Wd) : Int32 × Wd := if W.2.1.1 = true then (nI (W.2.1.2 0 0), forW W W.2.1.2) else (-5, W)
def countV (W : Wd) (x : Int32) : Int32 :=
  if x = 0 then nI (W.1 0 0) else if x = 1 then (if 2 ≤ W.1 0 0 then nI (slotsS (W.1 0 0)) else 0) else if x = 2 then (if 2 ≤ W.1 0 0 then nI (slotsS (W.1 0 0) - W.1 0 0) else 0)
  else if x = 3 then (if 2 ≤ W.1 0 0 then nI (lastS (W.1 0 0)) else 0) else if x = 4 then nI (W.1 9 0) else if x = 5 then nI (W.1 5 0) else if x = 6 then nI (W.1 6 0)
  else if x = 7 then nI W.2.2.2.2 else if x = 8 then nI W.2.2.1.2.1 else if x = 9 then nI (W.2.2.1.2.2 - W.2.2.1.2.1) else -1
def fedT (bt : Nat → Nat) (len c : Nat) : Nat → Nat := fun i => if i = len then c else bt i
def feedR (W : Wd) (x : Int32) : Int32 × Wd := if 32 ≤ x.toInt ∧ x.toInt ≤ 126 then (if W.2.2.2.2 < 120 then (nI (W.2.2.2.2 + 1), (W.1, W.2.1, W.2.2.1, (fedT W.2.2.2.1 W.2.2.2.2 x.toNatClampNeg, W.2.2.2.2 + 1))) else (-3, W)) else (-1, W)
theorem CNT.congr' {I I' : qMI} {L : qML} {P : qMP} (hP : LAY P) (h : CNT I L P) (q : ∀ r, (r = 1 ∨ 88 ≤ r ∧ r < 112) → I' r = I r) : CNT I' L P := by
  rcases h with h | ⟨h1, s, h2, h3, h4, h5, h6⟩
  · exact Or.inl (by rw [q 88 (by omega)]; exact h)
  · exact Or.inr ⟨by rw [q 88 (by omega)]; exact h1, s, h2, h3, h4.congr hP (Or.inl rfl) h2.1 (fun r y1 y2 => q r (by omega)) (fun _ _ _ => rfl), h5, by rw [q 1 (by omega)]; exact h6⟩
section CH
variable {d : Nat} {J : qMI} {M : qML} {I : qMI} {L : qML} {P : qMP} {W : Wd}
theorem ok_stp {b : Nat} {x : Int32} {f : qMI → qML → qMP → Prop} (h : XR J M I L P W) (hx : nI W.2.2.1.2.1 + x = nI b) (hb : b ≤ W.2.2.1.2.2) (k : ∀ I' L', XR J M I' L' P (stpW W b) → I' 14 1 = nI b → I' 14 2 = nI W.2.2.1.2.2 → f I' L' P) : Sq (d + 3) mX3_step SH0 [.ref 14, .ref 2, .int x] I L P (KV f) := by
  obtain ⟨⟨hP, hK, h3, h4, h5, h6, h7, h8⟩, hN, hO, hA⟩ := h
  refine ok_step hP hK hx hb fun I' L' hF hX hK' => k I' L' ⟨⟨hP, hK', ?_, fun q => ?_, ?_, ?_, fun r hr => ?_, h8⟩, hX, h8.2 b hb, rfl⟩ hK'.1 hK'.2.1
  · show I' 1 9 = (if W.2.1.1 = true then 1 else 0)
    rw [(hF 1 (by omega)).1]; exact h3
  · exact (h4 q).congr hP hP (Or.inr (Or.inl rfl)) (fun r q1 q2 => (hF r (by omega)).1) (hF _ (by omega)).2
  · exact h5.congr (hF 86 (by omega)).1 (hF 87 (by omega)).1
  · exact h6.congr hP hP fun r hr => hF r (by omega)
  · obtain ⟨y1, y2⟩ := hF r (by omega)
    rw [y1, y2]; exact h7 r hr
theorem ok9_undo {f : Int32 → qMI → qML → qMP → Prop} (h : XR J M I L P W) (k : ∀ I' L' P', XR J M I' L' P' (undoR W).2 → f (undoR W).1 I' L' P') : Sq (d + 4) mX9_undo SH0 [.ref 1] I L P (KI f) := by
  have hP := h.1.1
  have hK := h.1.2.1
  obtain ⟨p1, p2, p3, p4, -⟩ := now_P hP
  have a1 := hK.2.2.1
  have a2 := hK.2.2.2.1
  unfold undoR at k
  refine sp_X9_undo ⟨by decide, by rw [p4]; decide, ?_⟩
  rw [p4, p1, hK.1]
  refine ⟨fun c => ?_, fun c => ?_⟩
  · have c : nI 1 ≤ nI W.2.2.1.2.1 := c
    rw [nI_leI (by decide) (by omega)] at c
    rw [if_pos c] at k
    refine ok_stp (b := W.2.2.1.2.1 - 1) h ?_ (by omega) fun I' L' hX e1 e2 => ⟨by rw [p4]; decide, kI (k I' L' P hX) ?_⟩
    · obtain ⟨a, ea⟩ : ∃ a, W.2.2.1.2.1 = a + 1 := ⟨W.2.2.1.2.1 - 1, by omega⟩
      rw [ea, pk_m1]; rfl
    · rw [p4, e1]
  · have c : ¬ nI 1 ≤ nI W.2.2.1.2.1 := c
    rw [nI_leI (by decide) (by omega)] at c
    rw [if_neg c] at k
    exact k I L P h
theorem ok9_redo {f : Int32 → qMI → qML → qMP → Prop} (h : XR J M I L P W) (k : ∀ I' L' P', XR J M I' L' P' (redoR W).2 → f (redoR W).1 I' L' P') : Sq (d + 4) mX9_redo SH0 [.ref 1] I L P (KI f) := by
  have hP := h.1.1
  have hK := h.1.2.1
  obtain ⟨p1, p2, p3, p4, -⟩ := now_P hP
  have a1 := hK.2.2.1
  have a2 := hK.2.2.2.1
  unfold redoR at k
  refine sp_X9_redo ⟨by decide, by rw [p4]; decide, ?_⟩
  rw [p4, p1, hK.1, hK.2.1]
  refine ⟨fun c => ?_, fun c => ?_⟩
  · rw [nI_ltI (by omega) (by omega)] at c
    rw [if_pos c] at k
    refine ok_stp (b := W.2.2.1.2.1 + 1) h (nI_1 _) (by omega) fun I' L' hX e1 e2 => ⟨by rw [p4]; decide, kI (k I' L' P hX) ?_⟩
    rw [p4, e1, e2, pk_sub (by omega)]
  · rw [nI_ltI (by omega) (by omega)] at c
    rw [if_neg c] at k
    exact k I L P h
theorem ok9_image {f : Int32 → qMI → qML → qMP → Prop} (h : XR J M I L P W) (k : ∀ I' L' P', XR J M I' L' P' (imageR W).2 → f (imageR W).1 I' L' P') : Sq (d + 3) mX9_image SH0 [.ref 1] I L P (KI f) := by
  obtain ⟨⟨hP, hK, h3, h4, h5, h6, h7, h8⟩, hN, hO, hA⟩ := h
  obtain ⟨p1, p2, p3, p4, p5, p6, p7, p8, p9, p10, p11, p12⟩ := now_P hP
  refine sp_X9_image ⟨by decide, by rw [p12]; decide, ?_⟩
  rw [p12, p1]
  refine ok_X_copy hP (Or.inr (Or.inl rfl)) (Or.inl rfl) (by omega) hN fun I3 L3 hF hX I6 e6 => ?_
  rw [p1, p2]
  have f6 : ∀ r, r ≠ 1 → ¬ (8 < r ∧ r < 14) → I6 r = I r ∧ L3 r = L r := fun r q1 q2 => by
    obtain ⟨y1, y2⟩ := hF r (by omega)
    exact ⟨by rw [e6, uI_ne r q1, y1], y2⟩
  have g6 : ∀ j, j ≠ 9 → I6 1 j = I 1 j := fun j hj => by
    rw [e6]
    show (if _ then _ else _) = _
    rw [if_neg (fun y => hj y.2), (hF 1 (by omega)).1]
  have hN' : XS I6 L3 P 2 W.1 := hN.congr hP hP (Or.inl rfl) (fun r q1 q2 => (f6 r (by omega) (by omega)).1) (f6 5 (by decide) (by omega)).2
  refine ⟨by decide, by decide, kI (k I6 L3 P ⟨⟨hP, ?_, ?_, fun _ => ?_, ?_, ?_, fun r hr => ?_, fun _ => hO, h8.2⟩, hN', hO, hA⟩) hN'.1.2.2.1.symm⟩
  · obtain ⟨k1, k2, k3, k4, ⟨w, hw⟩, kS⟩ := hK
    refine ⟨by rw [(f6 14 (by decide) (by omega)).1]; exact k1, by rw [(f6 14 (by decide) (by omega)).1]; exact k2, k3, k4, ⟨w, hw⟩, fun i hi => ?_⟩
    have hi : i ≤ W.2.2.1.2.2 := hi
    have k4 : W.2.2.1.2.2 ≤ 10 := k4
    have fr := hw.far (i := i) (by omega)
    exact (kS i hi).congr hP hP (hw.sit (by omega)) (fun r q1 q2 => (f6 r (by omega) (by omega)).1) (f6 _ (by omega) (by omega)).2
  · show I6 1 9 = (if true = true then 1 else 0)
    rw [e6]
    exact if_pos ⟨rfl, rfl⟩
  · exact hX.congr hP hP (Or.inr (Or.inl rfl)) (fun r q1 q2 => by rw [e6, uI_ne r (by omega)]) rfl
  · exact h5.congr (f6 86 (by decide) (by omega)).1 (f6 87 (by decide) (by omega)).1
  · rcases h6 with q | ⟨q1, s9, q2, q3, q4, q5, q6⟩
    · exact Or.inl (by rw [(f6 88 (by decide) (by omega)).1]; exact q)
    · exact Or.inr ⟨by rw [(f6 88 (by decide) (by omega)).1]; exact q1, s9, q2, q3, q4.congr hP (Or.inl rfl) q2.1 (fun r y1 y2 => (f6 r (by omega) (by omega)).1) (fun r y1 y2 => (f6 r (by omega) (by omega)).2), by rw [(f6 88 (by decide) (by omega)).2]; exact q5, by rw [g6 10 (by decide)]; exact q6⟩
  · obtain ⟨y1, y2⟩ := f6 r (by omega) (by omega)
    rw [y1, y2]; exact h7 r hr
theorem ok9_back {f : Int32 → qMI → qML → qMP → Prop} (h : XR J M I L P W) (k : ∀ I' L' P', XR J M I' L' P' (backR W).2 → f (backR W).1 I' L' P') : Sq (d + 4) mX9_back SH0 [.ref 1] I L P (KI f) := by
  obtain ⟨hQ, hN, hO, hA⟩ := id h
  obtain ⟨hP, hK, h3, h4, h5, h6, h7, h8⟩ := id hQ
  obtain ⟨p1, p2, p3, p4, p5, p6, p7, p8, p9, p10, p11, p12⟩ := now_P hP
  unfold backR at k
  refine sp_X9_back ⟨by decide, ?_⟩
  rw [h3]
  by_cases c : W.2.1.1 = true
  · rw [if_pos c] at k ⊢
    refine ⟨fun _ => ⟨by rw [p1]; decide, ?_⟩, fun q => absurd q (by decide)⟩
    rw [p1, p12]
    refine ok_X_copy hP (Or.inl rfl) (Or.inr (Or.inl rfl)) (by omega) (h4 c) fun I4 L4 hF hX => ⟨by rw [p4]; decide, ?_⟩
    rw [p4, p1]
    have hQ4 : XQ J M I4 L4 P W := hQ.keep fun r hr => hF r (by omega)
    refine ok_forg hQ4 hX (h8.1 c) fun I8 L8 hR => ⟨by rw [p1]; decide, ?_⟩
    rw [p1, p2]
    exact ⟨by decide, kI (k I8 L8 P hR) hR.2.1.1.2.2.1.symm⟩
  · rw [if_neg c] at k ⊢
    exact ⟨fun q => absurd rfl q, fun _ => k I L P h⟩
theorem ok9_feed {x : Int32} {f : Int32 → qMI → qML → qMP → Prop} (h : XR J M I L P W) (k : ∀ I' L' P', XR J M I' L' P' (feedR W x).2 → f (feedR W x).1 I' L' P') : Sq (d + 2) mX9_feed SH0 [.ref 1, .int x] I L P (KI f) := by
  obtain ⟨⟨hP, hK, h3, h4, h5, h6, h7, h8⟩, hN, hO, hA⟩ := id h
  obtain ⟨p1, p2, p3, p4, p5, p6, p7, p8, p9, p10, p11, p12⟩ := now_P hP
  have e86 : P 86 0 = 87 := ly_86_0 hP
  unfold feedR at k
  have tl := h5.2.1
  refine sp_X9_feed ⟨fun c => ?_, fun c => ⟨fun c2 => ⟨by decide, by rw [p5]; decide, ?_⟩, fun c2 => ?_⟩⟩
  · rw [if_neg (fun q => by have := q.1; ((try simp only [Int32.lt_iff_toInt_lt, Int32.le_iff_toInt_le, ne_eq, ← Int32.toInt_inj, isP, ti_nI, ti_add, ti_sub, ti_mul, ti_neg, ti_0, ti_1, ti_2, ti_3, ti_4, ti_5, ti_6, ti_7, ti_8, ti_9, ti_10, ti_11, ti_12, ti_13, ti_14, ti_15, ti_16, ti_17, ti_18, ti_19, ti_20, ti_28, ti_30, ti_31, ti_32, ti_40, ti_45, ti_47, ti_48, ti_49, ti_57, ti_58, ti_59, ti_61, ti_76, ti_84, ti_96, ti_99, ti_100, ti_114, ti_115, ti_120, ti_126, ti_840, ti_1024] at c this ⊢); omega))] at k
    exact k I L P h
  · have hc : 32 ≤ x.toInt ∧ x.toInt ≤ 126 := by ((try simp only [Int32.lt_iff_toInt_lt, Int32.le_iff_toInt_le, ne_eq, ← Int32.toInt_inj, isP, ti_nI, ti_add, ti_sub, ti_mul, ti_neg, ti_0, ti_1, ti_2, ti_3, ti_4, ti_5, ti_6, ti_7, ti_8, ti_9, ti_10, ti_11, ti_12, ti_13, ti_14, ti_15, ti_16, ti_17, ti_18, ti_19, ti_20, ti_28, ti_30, ti_31, ti_32, ti_40, ti_45, ti_47, ti_48, ti_49, ti_57, ti_58, ti_59, ti_61, ti_76, ti_84, ti_96, ti_99, ti_100, ti_114, ti_115, ti_120, ti_126, ti_840, ti_1024] at c c2 ⊢); omega)
    rw [if_pos hc] at k
    obtain ⟨v, hv, ev, hcl⟩ := cl_isP (n := 127) (x := x) ⟨by omega, by omega⟩ (by decide)
    rw [p5, p6]
    refine ⟨by decide, ok_T_add (by decide) (by rw [e86]; decide) h5.1 tl (fun c3 => ⟨fun _ => ?_, fun q => absurd rfl q⟩) (fun c3 => ⟨fun q => absurd q (by decide), fun _ => ⟨by rw [p5]; decide, ?_⟩⟩)⟩
    · rw [if_neg (by omega)] at k
      exact k I L P h
    · rw [if_pos c3] at k
      rw [p5, p6, e86]
      have fr : ∀ r, r ≠ 86 → r ≠ 87 → uI (uI I 87 W.2.2.2.2 x) 86 1 (nI (W.2.2.2.2 + 1)) r = I r := fun r q1 q2 => by rw [uI_ne r q1, uI_ne r q2]
      refine ⟨by decide, kI (k _ L P ⟨⟨hP, ?_, ?_, fun q => ?_, ⟨if_pos ⟨rfl, rfl⟩, by show W.2.2.2.2 + 1 ≤ 120; omega, fun i hi => ?_⟩, h6.congr' hP fun r q => ?_, fun r hr => by rw [fr r (by omega) (by omega)]; exact h7 r hr, h8⟩, ?_, hO, hA⟩) (if_pos ⟨rfl, rfl⟩).symm⟩
      · obtain ⟨k1, k2, k3, k4, ⟨w, hw⟩, kS⟩ := hK
        refine ⟨by rw [fr 14 (by decide) (by decide)]; exact k1, by rw [fr 14 (by decide) (by decide)]; exact k2, k3, k4, ⟨w, hw⟩, fun i hi => ?_⟩
        have hi : i ≤ W.2.2.1.2.2 := hi
        have k4 : W.2.2.1.2.2 ≤ 10 := k4
        have fr2 := hw.far (i := i) (by omega)
        exact (kS i hi).congr hP hP (hw.sit (by omega)) (fun r q1 q2 => fr r (by omega) (by omega)) rfl
      · rw [fr 1 (by decide) (by decide)]; exact h3
      · exact (h4 q).congr hP hP (Or.inr (Or.inl rfl)) (fun r q1 q2 => fr r (by omega) (by omega)) rfl
      · have hi : i < W.2.2.2.2 + 1 := hi
        show uI (uI I 87 W.2.2.2.2 x) 86 1 (nI (W.2.2.2.2 + 1)) 87 i = nI (fedT W.2.2.2.1 W.2.2.2.2 x.toNatClampNeg i) ∧ 32 ≤ fedT W.2.2.2.1 W.2.2.2.2 x.toNatClampNeg i ∧ fedT W.2.2.2.1 W.2.2.2.2 x.toNatClampNeg i ≤ 126
        rw [uI_ne 87 (by decide)]
        unfold fedT
        by_cases y : i = W.2.2.2.2
        · rw [if_pos y, hcl]
          refine ⟨?_, ?_, by omega⟩
          · show (if _ then _ else _) = _
            rw [if_pos ⟨rfl, y⟩]; exact ev
          · have := hc.1
            rw [ev, nI_toInt (by omega)] at this
            omega
        · rw [if_neg y]
          have := h5.2.2 i (by omega)
          refine ⟨?_, this.2⟩
          show (if _ then _ else _) = _
          rw [if_neg (fun z => y z.2)]; exact this.1
      · exact fr r (by omega) (by omega)
      · exact hN.congr hP hP (Or.inl rfl) (fun r q1 q2 => fr r (by omega) (by omega)) rfl
  · rw [if_neg (fun q => by have := q.2; ((try simp only [Int32.lt_iff_toInt_lt, Int32.le_iff_toInt_le, ne_eq, ← Int32.toInt_inj, isP, ti_nI, ti_add, ti_sub, ti_mul, ti_neg, ti_0, ti_1, ti_2, ti_3, ti_4, ti_5, ti_6, ti_7, ti_8, ti_9, ti_10, ti_11, ti_12, ti_13, ti_14, ti_15, ti_16, ti_17, ti_18, ti_19, ti_20, ti_28, ti_30, ti_31, ti_32, ti_40, ti_45, ti_47, ti_48, ti_49, ti_57, ti_58, ti_59, ti_61, ti_76, ti_84, ti_96, ti_99, ti_100, ti_114, ti_115, ti_120, ti_126, ti_840, ti_1024] at c2 this ⊢); omega))] at k
    exact k I L P h
end CH
