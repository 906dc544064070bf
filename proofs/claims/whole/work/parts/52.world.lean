/-! ===== the class's object ===== -/
def OKS (s : Sit) : Prop := WE s ∧ (s 7 0 = 0 ∨ s 7 0 = 1) ∧ (s 7 0 = 0 → s 9 0 = 0) ∧ (s 7 0 = 1 → WD s ∧ s 8 0 < allS s ∧ ∀ t, t < slotsS (s 0 0) → s 20 t = whoS s (s 8 0) t)
/-- what an object holds: as it is; the image; the history, where in it, how far; the tape -/
abbrev Wd : Type := Sit × (Bool × Sit) × ((Nat → Sit) × Nat × Nat) × ((Nat → Nat) × Nat)
noncomputable def easeR : Nat → Sit → Option Sit
  | 0, s => if allS s ≠ 0 then some s else none
  | f + 1, s => if allS s ≠ 0 then some s else if 0 < s 6 0 then easeR f (up s 6 0 (s 6 0 - 1)) else if 0 < s 5 0 then easeR f (up s 5 0 (s 5 0 - 1)) else none
noncomputable def easeV (s : Sit) : Int32 := match easeR 8 s with
  | none => -2
  | some t => nI (10 * t 5 0 + t 6 0)
def CNT (I : qMI) (L : qML) (P : qMP) : Prop := I 88 2 = 0 ∨ (I 88 2 = 1 ∧ ∃ s, WE s ∧ 2 ≤ s 0 0 ∧ CR I L P 88 s ∧ L 88 3 = lN (allS s) ∧ (I 1 10 = -4 ∨ I 1 10 = easeV s))
def OKQ (W : Wd) : Prop := (W.2.1.1 = true → OKS W.2.1.2) ∧ (∀ i, i ≤ W.2.2.1.2.2 → OKS (W.2.2.1.1 i))
def XQ (J : qMI) (M : qML) (I : qMI) (L : qML) (P : qMP) (W : Wd) : Prop := LAY P ∧ XK I L P W.2.2.1.1 W.2.2.1.2.1 W.2.2.1.2.2 ∧ I 1 9 = (if W.2.1.1 = true then 1 else 0) ∧ (W.2.1.1 = true → XS I L P 8 W.2.1.2) ∧ TP I W.2.2.2.1 W.2.2.2.2 ∧ CNT I L P ∧ (∀ r, 144 ≤ r → I r = J r ∧ L r = M r) ∧ OKQ W
def XR (J : qMI) (M : qML) (I : qMI) (L : qML) (P : qMP) (W : Wd) : Prop := XQ J M I L P W ∧ XS I L P 2 W.1 ∧ OKS W.1 ∧ W.2.2.1.1 W.2.2.1.2.1 = W.1
/-- what the rest speaks of is as it was -/
def Keep (I I' : qMI) (L L' : qML) : Prop := ∀ r, (r = 1 ∨ 8 ≤ r ∧ r < 82 ∨ 86 ≤ r ∧ r < 112 ∨ 144 ≤ r) → I' r = I r ∧ L' r = L r
theorem TP.cong2 {I I' : qMI} {bt : Nat → Nat} {len : Nat} (h : TP I bt len) (h1 : I' 86 = I 86) (h2 : I' 87 = I 87) : TP I' bt len := h.congr h1 h2
theorem CNT.congr {I I' : qMI} {L L' : qML} {P P' : qMP} (hP : LAY P) (hP' : LAY P') (h : CNT I L P) (q : ∀ r, (r = 1 ∨ 86 ≤ r ∧ r < 112) → I' r = I r ∧ L' r = L r) : CNT I' L' P' := by
  have e88 := (q 88 (by omega)).1
  have l88 := (q 88 (by omega)).2
  have e1 := (q 1 (by omega)).1
  rcases h with h | ⟨h1, s, h2, h3, h4, h5, h6⟩
  · exact Or.inl (by rw [e88]; exact h)
  · refine Or.inr ⟨by rw [e88]; exact h1, s, h2, h3, ?_, by rw [l88]; exact h5, by rw [e1]; exact h6⟩
    have h4 := h4.congr (I' := I') (L' := L') hP (Or.inl rfl) h2.1 (fun r y1 y2 => (q r (by omega)).1) (fun r y1 y2 => (q r (by omega)).2)
    obtain ⟨⟨⟨⟨r1, r2, r3, r4⟩, r5⟩, ⟨m1, m2, m3⟩, b3, b4, b5, b6, b7, b8⟩, b9⟩ := h4
    obtain ⟨p0, p1, p2, p3, p4, p5, p6, p7⟩ := cnt_P hP (Or.inl rfl : isCnt 88)
    obtain ⟨o0, o1, o2, o3, o4, o5, o6, o7⟩ := cnt_P hP' (Or.inl rfl : isCnt 88)
    have x3 : P' 89 3 = P 89 3 := by rw [show P' 89 3 = 90 from o1, show P 89 3 = 90 from p1]
    have x4 : P' 89 4 = P 89 4 := by rw [show P' 89 4 = 91 from o2, show P 89 4 = 91 from p2]
    have x5 : P' 92 3 = P 92 3 := by rw [show P' 92 3 = 93 from o4, show P 92 3 = 93 from p4]
    refine ⟨⟨⟨cnt_RSh hP' (Or.inl rfl), ?_⟩, ⟨m1, by rw [show P' (88 + 4) 3 = P (88 + 4) 3 from x5]; exact m2, ?_⟩, b3, b4, b5, b6, b7, b8⟩, b9⟩
    · obtain ⟨u1, u2, u3, ⟨c, G, V, g1, g2, g3, g4⟩, u5⟩ := r5
      exact ⟨u1, u2, u3, ⟨c, G, V, g1, g2, by rw [show P' (88 + 1) 3 = P (88 + 1) 3 from x3, show P' (88 + 1) 4 = P (88 + 1) 4 from x4]; exact g3, g4⟩, u5⟩
    · rw [show P' (88 + 4) 3 = P (88 + 4) 3 from x5]; exact m3
section WR
variable {d : Nat} {J : qMI} {M : qML} {I I' : qMI} {L L' : qML} {P : qMP} {W : Wd} {s : Sit}
theorem XQ.keep (h : XQ J M I L P W) (k : Keep I I' L L') : XQ J M I' L' P W := by
  obtain ⟨hP, ⟨k1, k2, k3, k4, ⟨w, hw⟩, kS⟩, h3, h4, h5, h6, h7, h8⟩ := h
  have e14 := (k 14 (by omega)).1
  refine ⟨hP, ⟨by rw [e14]; exact k1, by rw [e14]; exact k2, k3, k4, ⟨w, hw⟩, fun i hi => ?_⟩, by rw [(k 1 (by omega)).1]; exact h3, fun q => ?_, h5.congr (k 86 (by omega)).1 (k 87 (by omega)).1, h6.congr hP hP fun r hr => k r (by omega), fun r hr => ?_, h8⟩
  · have fr := hw.far (i := i) (by omega)
    exact (kS i hi).congr hP hP (hw.sit (by omega)) (fun r q1 q2 => (k r (by omega)).1) (k _ (by omega)).2
  · exact (h4 q).congr hP hP (Or.inr (Or.inl rfl)) (fun r q1 q2 => (k r (by omega)).1) (k _ (by omega)).2
  · obtain ⟨y1, y2⟩ := k r (by omega)
    rw [y1, y2]; exact h7 r hr
/-- the world behind a change -/
def remW (W : Wd) (s : Sit) : Wd := (s, W.2.1, (remH W.2.2.1.1 W.2.2.1.2.1 s, remA W.2.2.1.2.1, remA W.2.2.1.2.1), W.2.2.2)
def forW (W : Wd) (s : Sit) : Wd := (s, W.2.1, (fun _ => s, 0, 0), W.2.2.2)
theorem ok_rem {f : qMI → qML → qMP → Prop} (h : XQ J M I L P W) (hN : XS I L P 2 s) (hO : OKS s) (k : ∀ I' L' P', XR J M I' L' P' (remW W s) → f I' L' P') : Sq (d + 3) mX3_remember SH0 [.ref 14, .ref 2] I L P (KV f) := by
  obtain ⟨hP, hK, h3, h4, h5, h6, h7, h8⟩ := h
  refine ok_remember hP hN hK fun I' L' P' hP' hF hK' => k I' L' P' ⟨⟨hP', hK', ?_, fun q => ?_, ?_, ?_, fun r hr => ?_, h8.1, fun i hi => ?_⟩, hN.frame hP hF (Or.inl rfl), hO, remH_now _ _ _⟩
  · show I' 1 9 = (if W.2.1.1 = true then 1 else 0)
    rw [(hF.1 1 (by omega)).1]; exact h3
  · exact (h4 q).frame hP hF (Or.inr rfl)
  · exact h5.congr (hF.1 86 (by omega)).1 (hF.1 87 (by omega)).1
  · exact h6.congr hP hP' fun r hr => hF.1 r (by omega)
  · obtain ⟨y1, y2⟩ := hF.1 r (by omega)
    rw [y1, y2]; exact h7 r hr
  · have hi : i ≤ remA W.2.2.1.2.1 := hi
    show OKS (remH W.2.2.1.1 W.2.2.1.2.1 s i)
    have a1 := hK.2.2.1
    have a2 := hK.2.2.2.1
    unfold remH
    unfold remA at hi
    by_cases c : W.2.2.1.2.1 < 10
    · rw [if_pos c] at hi ⊢
      by_cases c2 : i = W.2.2.1.2.1 + 1
      · simp only [if_pos c2]; exact hO
      · simp only [if_neg c2]; exact h8.2 i (by omega)
    · rw [if_neg c] at hi ⊢
      by_cases c2 : i = 10
      · simp only [if_pos c2]; exact hO
      · simp only [if_neg c2]; exact h8.2 (i + 1) (by omega)
theorem ok_forg {f : qMI → qML → qMP → Prop} (h : XQ J M I L P W) (hN : XS I L P 2 s) (hO : OKS s) (k : ∀ I' L', XR J M I' L' P (forW W s) → f I' L' P) : Sq (d + 3) mX3_forget SH0 [.ref 14, .ref 2] I L P (KV f) := by
  obtain ⟨hP, hK, h3, h4, h5, h6, h7, h8⟩ := h
  refine ok_forget hP hN hK.2.2.2.2.1 fun I' L' hF hK' => k I' L' ⟨⟨hP, hK', ?_, fun q => ?_, ?_, ?_, fun r hr => ?_, h8.1, fun i hi => hO⟩, hN.frame hP hF (Or.inl rfl), hO, rfl⟩
  · show I' 1 9 = (if W.2.1.1 = true then 1 else 0)
    rw [(hF.1 1 (by omega)).1]; exact h3
  · exact (h4 q).frame hP hF (Or.inr rfl)
  · exact h5.congr (hF.1 86 (by omega)).1 (hF.1 87 (by omega)).1
  · exact h6.congr hP hP fun r hr => hF.1 r (by omega)
  · obtain ⟨y1, y2⟩ := hF.1 r (by omega)
    rw [y1, y2]; exact h7 r hr
end WR
