def XK (I : qMI) (L : qML) (P : qMP) (hi : Nat → Sit) (a t : Nat) : Prop := I 14 1 = nI a ∧ I 14 2 = nI t ∧ a ≤ t ∧ t ≤ 10 ∧ (∃ w, HP P w) ∧ ∀ i, i ≤ t → XS I L P (P 15 i) (hi i)
/-- only the history's cells changed -/
def FH (I I' : qMI) (L L' : qML) (P P' : qMP) : Prop := (∀ r, ¬ (r = 14 ∨ 16 ≤ r ∧ r < 82) → I' r = I r ∧ L' r = L r) ∧ ∀ r, r ≠ 15 → P' r = P r
def remH (hi : Nat → Sit) (a : Nat) (s : Sit) : Nat → Sit := if a < 10 then (fun i => if i = a + 1 then s else hi i) else (fun i => if i = 10 then s else hi (i + 1))
def remA (a : Nat) : Nat := if a < 10 then a + 1 else 10
theorem remH_now (hi : Nat → Sit) (a : Nat) (s : Sit) : remH hi a s (remA a) = s := by
  unfold remH remA
  by_cases h : a < 10
  · rw [if_pos h, if_pos h, if_pos rfl]
  · rw [if_neg h, if_neg h, if_pos rfl]
theorem XS.frame {I I' : qMI} {L L' : qML} {P P' : qMP} {q : Nat} {s : Sit} (hP : LAY P) (hF : FH I I' L L' P P') (hq : q = 2 ∨ q = 8) (h : XS I L P q s) : XS I' L' P' q s := by
  have hs : isSit q := by rcases hq with rfl | rfl <;> first | exact Or.inl rfl | exact Or.inr (Or.inl rfl)
  refine h.congr hP (hP.congr hF.2) hs (fun r h1 h2 => (hF.1 r (by omega)).1) (hF.1 _ (by omega)).2
section HI
variable {d : Nat} {I : qMI} {L : qML} {P : qMP} {s : Sit} {hi : Nat → Sit} {a t : Nat}
theorem ok_forget {f : qMI → qML → qMP → Prop} (hP : LAY P) (hN : XS I L P 2 s) (hH : ∃ w, HP P w) (k : ∀ I' L', FH I I' L L' P P → XK I' L' P (fun _ => s) 0 0 → f I' L' P) : Sq (d + 3) mX3_forget SH0 [.ref 14, .ref 2] I L P (KV f) := by
  obtain ⟨w, hw⟩ := hH
  have far := hw.far (i := 0) (by decide)
  refine sp_X3_forget ⟨by decide, fun I2 e2 I3 e3 => ?_⟩
  rw [ly_14_0 hP, ti_clamp0, (sit_K (hw.sit (i := 0) (by decide))).1]
  have h3 : ∀ r, r ≠ 14 → I3 r = I r := fun r q => by rw [e3, uI_ne r q, e2, uI_ne r q]
  refine ⟨by decide, by exact vin 0 rfl (by decide) (by decide), rfl, ok_X_copy hP (hw.sit (by decide)) (Or.inl rfl) (by omega) (hN.congr hP hP (Or.inl rfl) (fun r _ _ => h3 r (by omega)) rfl) fun I' L' f1 hX => k I' L' ⟨fun r hr => ?_, fun _ _ => rfl⟩ ⟨?_, ?_, Nat.le_refl 0, by decide, ⟨w, hw⟩, fun i hi0 => ?_⟩⟩
  · obtain ⟨g1, g2⟩ := f1 r (by omega)
    exact ⟨by rw [g1]; exact h3 r (by omega), g2⟩
  · rw [(f1 14 (by omega)).1, e3, e2]; simp [uI]; rfl
  · rw [(f1 14 (by omega)).1, e3]; simp [uI]; rfl
  · have : i = 0 := by omega
    subst this
    exact hX
theorem ok_remember {f : qMI → qML → qMP → Prop} (hP : LAY P) (hN : XS I L P 2 s) (hK : XK I L P hi a t) (k : ∀ I' L' P', LAY P' → FH I I' L L' P P' → XK I' L' P' (remH hi a s) (remA a) (remA a) → f I' L' P') : Sq (d + 3) mX3_remember SH0 [.ref 14, .ref 2] I L P (KV f) := by
  obtain ⟨k1, k2, k3, k4, ⟨w, hw⟩, kS⟩ := hK
  refine sp_X3_remember ⟨by decide, ?_⟩
  rw [k1]
  refine ⟨fun c1 => ?_, fun c1 I13 e13 I14 e14 => ?_⟩
  · have c1 : a = 10 := by have := (nI_leI (a := 10) (by decide) (by omega)).mp c1; omega
    subst c1
    have ht : t = 10 := by omega
    subst ht
    refine ok_loseOldest hP hw fun P' g1 g2 g3 I6 e6 => ?_
    have hP' : LAY P' := hP.congr g1
    rw [k1] at e6
    have h6 : ∀ r, r ≠ 14 → I6 r = I r := fun r q => by rw [e6, uI_ne r q]
    have h61 : I6 14 1 = nI 10 := by rw [e6]; show (if _ then _ else _) = _; rw [if_neg (by decide)]; exact k1
    have hw' : HP P' (fun i => if i = 10 then w 0 else w (i + 1)) := by
      refine ⟨fun i hi9 => ?_, fun i j hi9 hj9 q => ?_⟩
      · by_cases c : i = 10
        · simp only [c, if_pos]; rw [g3]; exact hw.1 0 (by decide)
        · simp only [c, if_false]; rw [g2 i (by omega)]; exact hw.1 (i + 1) (by omega)
      · by_cases c : i = 10 <;> by_cases c2 : j = 10
        · omega
        · simp only [c, c2, if_pos, if_false] at q
          have := hw.2 0 (j + 1) (by omega) (by omega) q
          omega
        · simp only [c, c2, if_pos, if_false] at q
          have := hw.2 (i + 1) 0 (by omega) (by omega) q
          omega
        · simp only [c, c2, if_false] at q
          have := hw.2 (i + 1) (j + 1) (by omega) (by omega) q
          omega
    have far := hw.far (i := 0) (by decide)
    rw [h61, ly_14_0 hP', clN (by decide), g3, (sit_K (hw.sit (i := 0) (by decide))).1]
    refine ⟨by decide, by exact vin 10 rfl (by decide) (by decide), rfl, ok_X_copy hP' (hw.sit (by decide)) (Or.inl rfl) (by omega) (hN.congr hP hP' (Or.inl rfl) (fun r _ _ => h6 r (by omega)) rfl) fun I' L' f1 hX => k I' L' P' hP' ⟨fun r hr => ?_, g1⟩ ⟨?_, ?_, Nat.le_refl _, by decide, ⟨_, hw'⟩, fun i hi9 => ?_⟩⟩
    · obtain ⟨y1, y2⟩ := f1 r (by omega)
      exact ⟨by rw [y1]; exact h6 r (by omega), y2⟩
    · rw [(f1 14 (by omega)).1]; exact h61
    · rw [(f1 14 (by omega)).1, e6]; exact if_pos ⟨rfl, rfl⟩
    · have hi9 : i ≤ 10 := hi9
      unfold remH
      rw [if_neg (by decide)]
      by_cases c : i = 10
      · subst c
        rw [g3]
        simp only [if_pos]
        exact hX
      · rw [g2 i (by omega)]
        simp only [c, if_false]
        have ap := hw.apart (i := 0) (j := i + 1) (by decide) (by omega) (by omega)
        have fr := hw.far (i := i + 1) (by omega)
        refine (kS (i + 1) (by omega)).congr hP hP' (hw.sit (by omega)) (fun r q1 q2 => ?_) ?_
        · rw [(f1 r (by omega)).1]; exact h6 r (by omega)
        · exact (f1 _ (by omega)).2
  · have c1 : a < 10 := Nat.lt_of_not_le fun z => c1 (nI_le (a := 10) z (by omega))
    rw [nI_1] at e13
    have h14 : ∀ r, r ≠ 14 → I14 r = I r := fun r q => by rw [e14, uI_ne r q, e13, uI_ne r q]
    have h141 : I14 14 1 = nI (a + 1) := by rw [e14, e13]; simp [uI]
    have h142 : I14 14 2 = nI (a + 1) := by rw [e14, e13]; simp [uI]
    have far := hw.far (i := a + 1) (by omega)
    rw [h141, ly_14_0 hP, clN (by omega), (sit_K (hw.sit (i := a + 1) (by omega))).1]
    have eA : remA a = a + 1 := if_pos c1
    refine ⟨by decide, by exact vin (a + 1) rfl (show a + 1 < 11 by omega) (by decide), rfl, ok_X_copy hP (hw.sit (by omega)) (Or.inl rfl) (by omega) (hN.congr hP hP (Or.inl rfl) (fun r _ _ => h14 r (by omega)) rfl) fun I' L' f1 hX => k I' L' P hP ⟨fun r hr => ?_, fun _ _ => rfl⟩ ?_⟩
    · obtain ⟨y1, y2⟩ := f1 r (by omega)
      exact ⟨by rw [y1]; exact h14 r (by omega), y2⟩
    · rw [eA]
      refine ⟨by rw [(f1 14 (by omega)).1]; exact h141, by rw [(f1 14 (by omega)).1]; exact h142, Nat.le_refl _, by omega, ⟨w, hw⟩, fun i hi9 => ?_⟩
      unfold remH
      rw [if_pos c1]
      by_cases c : i = a + 1
      · subst c
        simp only [if_pos]
        exact hX
      · simp only [c, if_false]
        have ap := hw.apart (i := a + 1) (j := i) (by omega) (by omega) (by omega)
        have fr := hw.far (i := i) (by omega)
        refine (kS i (by omega)).congr hP hP (hw.sit (by omega)) (fun r q1 q2 => ?_) ?_
        · rw [(f1 r (by omega)).1]; exact h14 r (by omega)
        · exact (f1 _ (by omega)).2
theorem ok_step {b : Nat} {x : Int32} {f : qMI → qML → qMP → Prop} (hP : LAY P) (hK : XK I L P hi a t) (hx : nI a + x = nI b) (hb : b ≤ t) (k : ∀ I' L', (∀ r, ¬ (r = 14 ∨ 2 < r ∧ r < 8) → I' r = I r ∧ L' r = L r) → XS I' L' P 2 (hi b) → XK I' L' P hi b t → f I' L' P) : Sq (d + 3) mX3_step SH0 [.ref 14, .ref 2, .int x] I L P (KV f) := by
  obtain ⟨k1, k2, k3, k4, ⟨w, hw⟩, kS⟩ := hK
  refine sp_X3_step ⟨by decide, ?_⟩
  rw [k1, k2, hx, ly_14_0 hP]
  have far := hw.far (i := b) (by omega)
  refine ⟨fun c => absurd c (nI_pos (by omega)), fun _ => ⟨fun c => absurd ((nI_ltI (by omega) (by omega)).mp c) (by omega), fun _ => ⟨by decide, fun c => ?_, fun _ I6 e6 => ?_⟩⟩⟩
  · have c : nI 11 ≤ nI b := c
    exact absurd ((nI_leI (by decide) (by omega)).mp c) (by omega)
  · rw [clN (by omega)]
    have h6 : ∀ r, r ≠ 14 → I6 r = I r := fun r q => by rw [e6, uI_ne r q]
    refine ⟨by exact vin b rfl (show b < 11 by omega) (by decide), by decide, ok_X_copy hP (Or.inl rfl) (hw.sit (by omega)) (by omega) ((kS b hb).congr hP hP (hw.sit (by omega)) (fun r q1 q2 => h6 r (by omega)) rfl) fun I' L' f1 hX => k I' L' (fun r hr => ?_) hX ⟨?_, ?_, hb, k4, ⟨w, hw⟩, fun i hi9 => ?_⟩⟩
    · obtain ⟨y1, y2⟩ := f1 r (by omega)
      exact ⟨by rw [y1]; exact h6 r (by omega), y2⟩
    · rw [(f1 14 (by omega)).1, e6]; exact if_pos ⟨rfl, rfl⟩
    · rw [(f1 14 (by omega)).1, e6]; show (if _ then _ else _) = _; rw [if_neg (by decide)]; exact k2
    · have fr := hw.far (i := i) (by omega)
      refine (kS i hi9).congr hP hP (hw.sit (by omega)) (fun r q1 q2 => ?_) (f1 _ (by omega)).2
      rw [(f1 r (by omega)).1]; exact h6 r (by omega)
end HI
