/-! ===== the reference's world ===== -/
def bo4 (r : Nat) : Nat := if r = 0 then 0 else if r = 1 then 16 else if r = 2 then 24 else if r = 3 then 28 else 30
def RW (L : qML) (c : Nat) (A : Nat → Nat → Nat → Bool) (n : Nat) : Prop := ∀ r b set, r ≤ lastS n → b < TB n r → set < 2 ^ n → L c (1024 * (bo4 r + b) + set) = lN (gc A r b set)
def MC (I : qMI) (L : qML) (s : Sit) : Prop := I 144 17 = 0 ∨ (I 144 17 = 1 ∧ RW L 154 (mS s) (s 0 0))
def MH (I : qMI) (hi : Nat → Sit) (a t : Nat) : Prop := I 144 4 = nI a ∧ I 144 5 = nI (t - a) ∧ (∀ i, i < a → GS (fun k => I 147 (84 * i + k)) (hi i)) ∧ (∀ i, i < t - a → GS (fun k => I 148 (84 * i + k)) (hi (t - i)))
def MI (I : qMI) (m : Bool × Sit) : Prop := I 144 6 = (if m.1 = true then 1 else 0) ∧ (m.1 = true → GS (I 146) m.2)
def MT (I : qMI) (m : (Nat → Nat) × Nat) : Prop := I 144 10 = nI m.2 ∧ ∀ i, i < m.2 → I 149 i = nI (m.1 i)
def MR (I : qMI) (L : qML) (W : Wd) : Prop := GS (I 145) W.1 ∧ MH I W.2.2.1.1 W.2.2.1.2.1 W.2.2.1.2.2 ∧ MI I W.2.1 ∧ MT I W.2.2.2 ∧ MC I L W.1
def OKW (W : Wd) : Prop := OKS W.1 ∧ OKQ W ∧ W.2.2.1.1 W.2.2.1.2.1 = W.1 ∧ W.2.2.1.2.1 ≤ W.2.2.1.2.2 ∧ W.2.2.1.2.2 ≤ 10 ∧ W.2.2.2.2 ≤ 120 ∧ ∀ i, i < W.2.2.2.2 → 32 ≤ W.2.2.2.1 i ∧ W.2.2.2.1 i ≤ 126
theorem XR.okw {J : qMI} {M : qML} {I : qMI} {L : qML} {P : qMP} {W : Wd} (h : XR J M I L P W) : OKW W :=
  ⟨h.2.2.1, h.1.2.2.2.2.2.2.2, h.2.2.2, h.1.2.1.2.2.1, h.1.2.1.2.2.2.1, h.1.2.2.2.2.1.2.1, fun i hi => (h.1.2.2.2.2.1.2.2 i hi).2⟩
/-- the class's cells are left alone -/
def FR (I I' : qMI) (L L' : qML) : Prop := ∀ r, r < 144 → I' r = I r ∧ L' r = L r
/-- only what the world doesn't speak of has changed -/
def KR (I I' : qMI) (L L' : qML) : Prop := (∀ j, (j ≤ 10 ∨ j = 17) → I' 144 j = I 144 j) ∧ (∀ r, r ≠ 144 → r < 150 → I' r = I r) ∧ ∀ r, r ≠ 155 → L' r = L r
theorem KR.refl (I : qMI) (L : qML) : KR I I L L := ⟨fun _ _ => rfl, fun _ _ _ => rfl, fun _ _ => rfl⟩
theorem KR.trans {I I' I'' : qMI} {L L' L'' : qML} (h : KR I I' L L') (g : KR I' I'' L' L'') : KR I I'' L L'' :=
  ⟨fun j hj => by rw [g.1 j hj, h.1 j hj], fun r h1 h2 => by rw [g.2.1 r h1 h2, h.2.1 r h1 h2], fun r h1 => by rw [g.2.2 r h1, h.2.2 r h1]⟩
theorem KR.fr {I I' : qMI} {L L' : qML} (h : KR I I' L L') : FR I I' L L' := fun r hr => ⟨h.2.1 r (by omega) (by omega), h.2.2 r (by omega)⟩
theorem MH.congr {I I' : qMI} {hi : Nat → Sit} {a t : Nat} (h : MH I hi a t) (h4 : I' 144 4 = I 144 4) (h5 : I' 144 5 = I 144 5) (h7 : I' 147 = I 147) (h8 : I' 148 = I 148) : MH I' hi a t := by
  unfold MH
  rw [h4, h5, h7, h8]; exact h
theorem MI.congr {I I' : qMI} {m : Bool × Sit} (h : MI I m) (h6 : I' 144 6 = I 144 6) (h7 : I' 146 = I 146) : MI I' m := by
  unfold MI
  rw [h6, h7]; exact h
theorem MT.congr {I I' : qMI} {m : (Nat → Nat) × Nat} (h : MT I m) (h6 : I' 144 10 = I 144 10) (h7 : I' 149 = I 149) : MT I' m := by
  unfold MT
  rw [h6, h7]; exact h
theorem MC.congr {I I' : qMI} {L L' : qML} {s : Sit} (h : MC I L s) (h6 : I' 144 17 = I 144 17) (h7 : L' 154 = L 154) : MC I' L' s := by
  unfold MC RW
  rw [h6, h7]; exact h
theorem MC.same {I : qMI} {L : qML} {s t : Sit} (h : MC I L s) (q : ∀ x y, (x ≤ 3 ∨ x = 5 ∨ x = 6) → t x y = s x y) : MC I L t := by
  unfold MC
  rw [mS_cg q, q 0 0 (by omega)]; exact h
theorem MR.keep {I I' : qMI} {L L' : qML} {W : Wd} (h : MR I L W) (k : KR I I' L L') : MR I' L' W := by
  obtain ⟨a, b, c, e, f⟩ := h
  refine ⟨by rw [k.2.1 145 (by decide) (by decide)]; exact a, b.congr (k.1 4 (by omega)) (k.1 5 (by omega)) (k.2.1 147 (by decide) (by decide)) (k.2.1 148 (by decide) (by decide)), c.congr (k.1 6 (by omega)) (k.2.1 146 (by decide) (by decide)), e.congr (k.1 10 (by omega)) (k.2.1 149 (by decide) (by decide)), f.congr (k.1 17 (by omega)) (k.2.2 154 (by decide))⟩
theorem remH_lo {hi : Nat → Sit} {a i : Nat} (s' : Sit) (ha : a ≤ 10) (h : i < remA a) : remH hi a s' i = if a < 10 then hi i else hi (i + 1) := by
  unfold remA at h
  unfold remH
  by_cases c : a < 10
  · rw [if_pos c] at h ⊢
    rw [if_pos c]
    exact if_neg (by omega)
  · rw [if_neg c] at h ⊢
    rw [if_neg c]
    exact if_neg (by omega)
section RH
variable {d : Nat} {I : qMI} {L : qML} {P : qMP} {W : Wd} {s : Sit}
theorem ok10_changes {f : qMI → qML → qMP → Prop} (hP : LAY P) (hM : MR I L W) (hO : OKW W) (k : ∀ I', (∀ r, r ≠ 144 → r ≠ 147 → I' r = I r) → (∀ j, j ≠ 4 → j ≠ 5 → I' 144 j = I 144 j) → (∀ s', MH I' (remH W.2.2.1.1 W.2.2.1.2.1 s') (remA W.2.2.1.2.1) (remA W.2.2.1.2.1)) → f I' L P) : Sq (d + 2) mX10_changes SH0 [.ref 144] I L P (KV f) := by
  obtain ⟨g0, g1, g2, g3, -⟩ := ref_P hP
  obtain ⟨hG, ⟨h4, h5, hd, ha⟩, -⟩ := hM
  obtain ⟨-, -, hA, o4, o5, -⟩ := hO
  generalize W.2.2.1.1 = hi at *
  generalize W.2.2.1.2.1 = a at *
  generalize W.2.2.1.2.2 = t at *
  have tail : ∀ (I1 : qMI) (m : Nat), m ≤ 9 → I1 144 4 = nI m → (∀ r, r ≠ 144 → r ≠ 147 → I1 r = I r) → (∀ j, j ≠ 4 → I1 144 j = I 144 j) → remA a = m + 1 → (∀ s' i, i < m → GS (fun k => I1 147 (84 * i + k)) (remH hi a s' i)) → (∀ s', remH hi a s' m = W.1) → Sq (d + 1) mX10_copies SH0 [.ref 145, .int 0, .ref 147, .int (nI m * 84)] I1 L P (KV fun I3 L4 P5 => ∀ I6 : qMI, I6 = uI I3 144 4 ((I3 144 4) + 1) → (∀ I7 : qMI, I7 = uI I6 144 5 0 → (KV f none I7 L4 P5))) := by
    intro I1 m hm i4 hF hV hr hd' hw
    rw [show nI m * 84 = nI (84 * m) from (pk_mul m 84).trans (by rw [Nat.mul_comm])]
    refine ok10_copies (a := 0) (by decide) (by decide) (by decide) (by show 84 * m + 84 ≤ 840; omega) (by decide) (by decide) (by decide) fun I3 f3 v3 I6 e6 I7 e7 => ?_
    have i34 : I3 144 4 = nI m := by rw [f3 144 (by decide)]; exact i4
    rw [i34, nI_1] at e6
    have f7 : ∀ r, r ≠ 144 → I7 r = I3 r := fun r q => by rw [e7, uI_ne r q, e6, uI_ne r q]
    refine k I7 (fun r q1 q2 => by rw [f7 r q1, f3 r q2]; exact hF r q1 q2) (fun j q1 q2 => ?_) fun s' => ⟨?_, ?_, fun i hi9 => ?_, fun i hi9 => by rw [Nat.sub_self] at hi9; exact absurd hi9 (Nat.not_lt_zero i)⟩
    · rw [e7, e6]
      show (if 144 = 144 ∧ j = 5 then 0 else if 144 = 144 ∧ j = 4 then nI (m + 1) else I3 144 j) = _
      rw [if_neg (fun q => q2 q.2), if_neg (fun q => q1 q.2), f3 144 (by decide)]
      exact hV j q1
    · rw [e7, e6, hr]
      show (if 144 = 144 ∧ 4 = 5 then 0 else if 144 = 144 ∧ 4 = 4 then nI (m + 1) else I3 144 4) = _
      rw [if_neg (by decide), if_pos (by decide)]
    · rw [e7, Nat.sub_self]
      exact if_pos ⟨rfl, rfl⟩
    · rw [hr] at hi9
      rw [f7 147 (by decide)]
      by_cases c : i = m
      · subst c
        rw [hw s']
        refine hG.congr fun q hq => ?_
        show I3 147 (84 * i + q) = I 145 q
        rw [v3, if_pos (by omega), show 0 + (84 * i + q - 84 * i) = q by omega, hF 145 (by decide) (by decide)]
      · refine (hd' s' i (by omega)).congr fun q hq => ?_
        show I3 147 (84 * i + q) = I1 147 (84 * i + q)
        rw [v3, if_neg (by omega)]
  refine sp_X10_changes (fun x I' L' P' => L' = L ∧ P' = P ∧ a = 10 ∧ ∃ o, o ≤ 756 ∧ x = nI o ∧ I' 144 4 = nI 9 ∧ (∀ r, r ≠ 144 → r ≠ 147 → I' r = I r) ∧ (∀ j, j ≠ 4 → I' 144 j = I 144 j) ∧ ∀ j, I' 147 j = if j < o then I 147 (j + 84) else I 147 j) (fun x _ _ _ => 1000 - x.toNatClampNeg) ⟨by decide, fun c => ?_, fun c I8 e8 => ?_⟩ ?_
  · rw [h4] at c ⊢
    have c : a ≠ 10 := fun q => c (by rw [q]; rfl)
    rw [g0, g2]
    have ha9 : a < 10 := by omega
    have er : remA a = a + 1 := if_pos ha9
    refine tail I a (by omega) h4 (fun _ _ _ => rfl) (fun _ _ => rfl) er (fun s' i q => ?_) fun s' => ?_
    · rw [remH_lo s' (by omega) (by omega), if_pos ha9]; exact hd i q
    · rw [remH_lo s' (by omega) (by omega), if_pos ha9]; exact hA
  · rw [h4] at c e8
    have c : a = 10 := nI_inj (by omega) (by decide) c
    subst c
    refine ⟨rfl, rfl, rfl, 0, by decide, rfl, by rw [e8]; exact if_pos ⟨rfl, rfl⟩, fun r q _ => by rw [e8, uI_ne r q], fun j q => by rw [e8]; exact if_neg (fun z => q z.2), fun j => by rw [if_neg (by omega), e8, uI_ne 147 (by decide)]⟩
  · rintro x I1 L1 P1 ⟨rfl, rfl, rfl, o, ho, rfl, i4, hF, hV, hR⟩
    refine ⟨by decide, ?_⟩
    rw [i4, g0, g2]
    refine ⟨fun c1 => ?_, fun c1 => ⟨by decide, ?_⟩⟩
    · have c1 := (nI_leI (a := 756) (by decide) (by omega)).mp c1
      have : o = 756 := by omega
      subst this
      refine tail I1 9 (by decide) i4 hF hV rfl (fun s' i q => ?_) fun s' => ?_
      · rw [remH_lo s' (by decide) (show i < 10 by omega), if_neg (by decide)]
        refine (hd (i + 1) (by omega)).congr fun q9 hq => ?_
        show I1 147 (84 * i + q9) = I 147 (84 * (i + 1) + q9)
        rw [hR, if_pos (by omega), show 84 * i + q9 + 84 = 84 * (i + 1) + q9 by omega]
      · rw [remH_lo s' (by decide) (show 9 < 10 by omega), if_neg (by decide)]; exact hA
    · have c1 : ¬ 756 ≤ o := fun q => c1 (show nI 756 ≤ nI o from nI_le q (by omega))
      rw [show nI o + 84 = nI (o + 84) from nI_add o 84, nI_1, clN (by omega), clN (by omega)]
      refine ⟨vin _ rfl (show o + 84 < 840 by omega) (by decide), vin _ rfl (show o < 840 by omega) (by decide), fun I11 e11 => ⟨⟨rfl, rfl, rfl, o + 1, by omega, rfl, by rw [e11, uI_ne 144 (by decide)]; exact i4, fun r q1 q2 => by rw [e11, uI_ne r q2]; exact hF r q1 q2, fun j q => by rw [e11, uI_ne 144 (by decide)]; exact hV j q, fun j => ?_⟩, ?_⟩⟩
      · rw [e11]
        show (if 147 = 147 ∧ j = o then I1 147 (o + 84) else I1 147 j) = _
        by_cases z : j = o
        · rw [if_pos ⟨rfl, z⟩, if_pos (by omega), hR, if_neg (by omega), z]
        · rw [if_neg (fun q => z q.2), hR]
          by_cases z2 : j < o
          · rw [if_pos z2, if_pos (by omega)]
          · rw [if_neg z2, if_neg (by omega)]
      · rw [clN (by omega)]; omega
theorem ok10_undo {f : Int32 → qMI → qML → qMP → Prop} (hP : LAY P) (hM : MR I L W) (hO : OKW W) (k : ∀ I' L', FR I I' L L' → MR I' L' (undoR W).2 → f (undoR W).1 I' L' P) : Sq (d + 2) mX10_undo SH0 [.ref 144] I L P (KI f) := by
  obtain ⟨g0, g1, g2, g3, -⟩ := ref_P hP
  obtain ⟨hG, ⟨h4, h5, hd, ha⟩, hI, hT, hC⟩ := id hM
  obtain ⟨-, -, hA, o4, o5, -⟩ := hO
  unfold undoR at k
  refine sp_X10_undo ⟨by decide, fun c => ?_, fun c => ?_⟩
  · rw [h4] at c
    have c : W.2.2.1.2.1 ≠ 0 := fun q => c (by rw [q]; rfl)
    rw [if_pos (by omega)] at k
    rw [g0, g3, h5, show nI (W.2.2.1.2.2 - W.2.2.1.2.1) * 84 = nI (84 * (W.2.2.1.2.2 - W.2.2.1.2.1)) from (pk_mul _ 84).trans (by rw [Nat.mul_comm])]
    refine ok10_copies (a := 0) (by decide) (by decide) (by decide) (by show _ ≤ 840; omega) (by decide) (by decide) (by decide) fun I3 f3 v3 I6 e6 I7 e7 => ?_
    have i34 : I3 144 4 = nI W.2.2.1.2.1 := by rw [f3 144 (by decide)]; exact h4
    have i35 : I3 144 5 = nI (W.2.2.1.2.2 - W.2.2.1.2.1) := by rw [f3 144 (by decide)]; exact h5
    rw [i35, nI_1] at e6
    have i64 : I6 144 4 = nI W.2.2.1.2.1 := by rw [e6]; exact (if_neg (by decide)).trans i34
    rw [i64, show nI W.2.2.1.2.1 - 1 = nI (W.2.2.1.2.1 - 1) from pk_sub (b := 1) (by omega)] at e7
    have i74 : I7 144 4 = nI (W.2.2.1.2.1 - 1) := by rw [e7]; exact if_pos ⟨rfl, rfl⟩
    have i75 : I7 144 5 = nI (W.2.2.1.2.2 - W.2.2.1.2.1 + 1) := by rw [e7, e6]; exact (if_neg (by decide)).trans (if_pos ⟨rfl, rfl⟩)
    have f7 : ∀ r, r ≠ 144 → I7 r = I3 r := fun r q => by rw [e7, uI_ne r q, e6, uI_ne r q]
    rw [i74, g0, g2, show nI (W.2.2.1.2.1 - 1) * 84 = nI (84 * (W.2.2.1.2.1 - 1)) from (pk_mul _ 84).trans (by rw [Nat.mul_comm])]
    refine ok10_copies (b := 0) (by decide) (by decide) (by show _ ≤ 840; omega) (by decide) (by decide) (by decide) (by decide) fun I8 f8 v8 I11 e11 => ?_
    have f11 : ∀ r, r ≠ 144 → I11 r = I8 r := fun r q => by rw [e11, uI_ne r q]
    have j11 : ∀ j, j ≠ 17 → I11 144 j = I7 144 j := fun j q => by rw [e11]; exact (if_neg (fun z => q z.2)).trans (by rw [f8 144 (by decide)])
    have j7 : ∀ j, j ≠ 4 → j ≠ 5 → I7 144 j = I 144 j := fun j q1 q2 => by
      rw [e7, e6]
      show (if 144 = 144 ∧ j = 4 then _ else if 144 = 144 ∧ j = 5 then _ else I3 144 j) = _
      rw [if_neg (fun q => q1 q.2), if_neg (fun q => q2 q.2), f3 144 (by decide)]
    refine kI (k I11 L (fun r hr => ⟨by rw [f11 r (by omega), f8 r (by omega), f7 r (by omega), f3 r (by omega)], rfl⟩) ⟨?_, ⟨by rw [j11 4 (by decide)]; exact i74, by rw [j11 5 (by decide), i75]; congr 1; show _ = W.2.2.1.2.2 - (W.2.2.1.2.1 - 1); omega, fun i hi => ?_, fun i hi => ?_⟩, hI.congr (by rw [j11 6 (by decide), j7 6 (by decide) (by decide)]) (by rw [f11 146 (by decide), f8 146 (by decide), f7 146 (by decide), f3 146 (by decide)]), hT.congr (by rw [j11 10 (by decide), j7 10 (by decide) (by decide)]) (by rw [f11 149 (by decide), f8 149 (by decide), f7 149 (by decide), f3 149 (by decide)]), Or.inl (by rw [e11]; exact if_pos ⟨rfl, rfl⟩)⟩) (by rw [j11 4 (by decide), i74])
    · refine (hd (W.2.2.1.2.1 - 1) (by omega)).congr fun q hq => ?_
      show I11 145 q = I 147 (84 * (W.2.2.1.2.1 - 1) + q)
      rw [f11 145 (by decide), v8, if_pos (by omega), f7 147 (by decide), f3 147 (by decide)]
      rfl
    · have hi : i < W.2.2.1.2.1 - 1 := hi
      rw [f11 147 (by decide), f8 147 (by decide), f7 147 (by decide), f3 147 (by decide)]
      exact hd i (by omega)
    · have hi : i < W.2.2.1.2.2 - (W.2.2.1.2.1 - 1) := hi
      show GS _ (W.2.2.1.1 (W.2.2.1.2.2 - i))
      rw [f11 148 (by decide), f8 148 (by decide), f7 148 (by decide)]
      by_cases z : i = W.2.2.1.2.2 - W.2.2.1.2.1
      · rw [show W.2.2.1.2.2 - i = W.2.2.1.2.1 by omega, hA]
        refine hG.congr fun q hq => ?_
        show I3 148 (84 * i + q) = I 145 q
        rw [v3, if_pos (by omega)]
        congr 1; omega
      · refine (ha i (by omega)).congr fun q hq => ?_
        show I3 148 (84 * i + q) = I 148 (84 * i + q)
        rw [v3, if_neg (by omega)]
  · rw [h4] at c
    have c : W.2.2.1.2.1 = 0 := nI_inj (by omega) (by decide) c
    rw [if_neg (by omega)] at k
    exact k I L (fun _ _ => ⟨rfl, rfl⟩) hM
theorem ok10_redo {f : Int32 → qMI → qML → qMP → Prop} (hP : LAY P) (hM : MR I L W) (hO : OKW W) (k : ∀ I' L', FR I I' L L' → MR I' L' (redoR W).2 → f (redoR W).1 I' L' P) : Sq (d + 2) mX10_redo SH0 [.ref 144] I L P (KI f) := by
  obtain ⟨g0, g1, g2, g3, -⟩ := ref_P hP
  obtain ⟨hG, ⟨h4, h5, hd, ha⟩, hI, hT, hC⟩ := id hM
  obtain ⟨-, -, hA, o4, o5, -⟩ := hO
  unfold redoR at k
  refine sp_X10_redo ⟨by decide, fun c => ?_, fun c => ?_⟩
  · rw [h5] at c
    have c : W.2.2.1.2.2 - W.2.2.1.2.1 ≠ 0 := fun q => c (by rw [q]; rfl)
    rw [if_pos (by omega)] at k
    rw [g0, g2, h4, show nI W.2.2.1.2.1 * 84 = nI (84 * W.2.2.1.2.1) from (pk_mul _ 84).trans (by rw [Nat.mul_comm])]
    refine ok10_copies (a := 0) (by decide) (by decide) (by decide) (by show _ ≤ 840; omega) (by decide) (by decide) (by decide) fun I3 f3 v3 I6 e6 I7 e7 => ?_
    have i34 : I3 144 4 = nI W.2.2.1.2.1 := by rw [f3 144 (by decide)]; exact h4
    have i35 : I3 144 5 = nI (W.2.2.1.2.2 - W.2.2.1.2.1) := by rw [f3 144 (by decide)]; exact h5
    rw [i34, nI_1] at e6
    have i65 : I6 144 5 = nI (W.2.2.1.2.2 - W.2.2.1.2.1) := by rw [e6]; exact (if_neg (by decide)).trans i35
    rw [i65, show nI (W.2.2.1.2.2 - W.2.2.1.2.1) - 1 = nI (W.2.2.1.2.2 - W.2.2.1.2.1 - 1) from pk_sub (b := 1) (by omega)] at e7
    have i75 : I7 144 5 = nI (W.2.2.1.2.2 - W.2.2.1.2.1 - 1) := by rw [e7]; exact if_pos ⟨rfl, rfl⟩
    have i74 : I7 144 4 = nI (W.2.2.1.2.1 + 1) := by rw [e7, e6]; exact (if_neg (by decide)).trans (if_pos ⟨rfl, rfl⟩)
    have f7 : ∀ r, r ≠ 144 → I7 r = I3 r := fun r q => by rw [e7, uI_ne r q, e6, uI_ne r q]
    rw [i75, g0, g3, show nI (W.2.2.1.2.2 - W.2.2.1.2.1 - 1) * 84 = nI (84 * (W.2.2.1.2.2 - W.2.2.1.2.1 - 1)) from (pk_mul _ 84).trans (by rw [Nat.mul_comm])]
    refine ok10_copies (b := 0) (by decide) (by decide) (by show _ ≤ 840; omega) (by decide) (by decide) (by decide) (by decide) fun I8 f8 v8 I11 e11 => ?_
    have f11 : ∀ r, r ≠ 144 → I11 r = I8 r := fun r q => by rw [e11, uI_ne r q]
    have j11 : ∀ j, j ≠ 17 → I11 144 j = I7 144 j := fun j q => by rw [e11]; exact (if_neg (fun z => q z.2)).trans (by rw [f8 144 (by decide)])
    have j7 : ∀ j, j ≠ 4 → j ≠ 5 → I7 144 j = I 144 j := fun j q1 q2 => by
      rw [e7, e6]
      show (if 144 = 144 ∧ j = 5 then _ else if 144 = 144 ∧ j = 4 then _ else I3 144 j) = _
      rw [if_neg (fun q => q2 q.2), if_neg (fun q => q1 q.2), f3 144 (by decide)]
    refine kI (k I11 L (fun r hr => ⟨by rw [f11 r (by omega), f8 r (by omega), f7 r (by omega), f3 r (by omega)], rfl⟩) ⟨?_, ⟨by rw [j11 4 (by decide)]; exact i74, by rw [j11 5 (by decide), i75]; congr 1, fun i hi => ?_, fun i hi => ?_⟩, hI.congr (by rw [j11 6 (by decide), j7 6 (by decide) (by decide)]) (by rw [f11 146 (by decide), f8 146 (by decide), f7 146 (by decide), f3 146 (by decide)]), hT.congr (by rw [j11 10 (by decide), j7 10 (by decide) (by decide)]) (by rw [f11 149 (by decide), f8 149 (by decide), f7 149 (by decide), f3 149 (by decide)]), Or.inl (by rw [e11]; exact if_pos ⟨rfl, rfl⟩)⟩) (by rw [j11 5 (by decide), i75]; congr 1)
    · show GS _ (W.2.2.1.1 (W.2.2.1.2.1 + 1))
      have := ha (W.2.2.1.2.2 - W.2.2.1.2.1 - 1) (by omega)
      rw [show W.2.2.1.2.2 - (W.2.2.1.2.2 - W.2.2.1.2.1 - 1) = W.2.2.1.2.1 + 1 by omega] at this
      refine this.congr fun q hq => ?_
      show I11 145 q = I 148 (84 * (W.2.2.1.2.2 - W.2.2.1.2.1 - 1) + q)
      rw [f11 145 (by decide), v8, if_pos (by omega), f7 148 (by decide), f3 148 (by decide)]
      rfl
    · have hi : i < W.2.2.1.2.1 + 1 := hi
      show GS _ (W.2.2.1.1 i)
      rw [f11 147 (by decide), f8 147 (by decide), f7 147 (by decide)]
      by_cases z : i = W.2.2.1.2.1
      · rw [z, hA]
        refine hG.congr fun q hq => ?_
        show I3 147 (84 * W.2.2.1.2.1 + q) = I 145 q
        rw [v3, if_pos (by omega)]
        congr 1; omega
      · refine (hd i (by omega)).congr fun q hq => ?_
        show I3 147 (84 * i + q) = I 147 (84 * i + q)
        rw [v3, if_neg (by omega)]
    · have hi : i < W.2.2.1.2.2 - (W.2.2.1.2.1 + 1) := hi
      rw [f11 148 (by decide), f8 148 (by decide), f7 148 (by decide), f3 148 (by decide)]
      exact ha i (by omega)
  · rw [h5] at c
    have c : W.2.2.1.2.2 - W.2.2.1.2.1 = 0 := nI_inj (by omega) (by decide) c
    rw [if_neg (by omega)] at k
    exact k I L (fun _ _ => ⟨rfl, rfl⟩) hM
theorem ok10_image {f : Int32 → qMI → qML → qMP → Prop} (hP : LAY P) (hM : MR I L W) (k : ∀ I' L', FR I I' L L' → MR I' L' (imageR W).2 → f (imageR W).1 I' L' P) : Sq (d + 2) mX10_image SH0 [.ref 144] I L P (KI f) := by
  obtain ⟨g0, g1, -⟩ := ref_P hP
  obtain ⟨hG, hH, hI, hT, hC⟩ := id hM
  refine sp_X10_image ⟨by decide, ?_⟩
  rw [g0, g1]
  refine ok10_copies (a := 0) (b := 0) (by decide) (by decide) (by decide) (by decide) (by decide) (by decide) (by decide) fun I2 f2 v2 I5 e5 => ?_
  rw [g0, cl_0]
  have f5 : ∀ r, r ≠ 144 → I5 r = I2 r := fun r q => by rw [e5, uI_ne r q]
  have j5 : ∀ j, j ≠ 6 → I5 144 j = I 144 j := fun j q => by rw [e5]; exact (if_neg (fun z => q z.2)).trans (by rw [f2 144 (by decide)])
  have e45 : I5 145 = I 145 := by rw [f5 145 (by decide), f2 145 (by decide)]
  refine ⟨by decide, v145 0 (by decide), kI (k I5 L (fun r hr => ⟨by rw [f5 r (by omega), f2 r (by omega)], rfl⟩) ⟨by rw [e45]; exact hG, hH.congr (j5 4 (by decide)) (j5 5 (by decide)) (by rw [f5 147 (by decide), f2 147 (by decide)]) (by rw [f5 148 (by decide), f2 148 (by decide)]), ⟨by rw [e5]; exact if_pos ⟨rfl, rfl⟩, fun _ => hG.congr fun q hq => ?_⟩, hT.congr (j5 10 (by decide)) (by rw [f5 149 (by decide), f2 149 (by decide)]), hC.congr (j5 17 (by decide)) rfl⟩) (by rw [e45]; exact hG.1.2.1.symm)⟩
  rw [f5 146 (by decide), v2, if_pos (by omega)]
  congr 1; omega
theorem ok10_back {f : Int32 → qMI → qML → qMP → Prop} (hP : LAY P) (hM : MR I L W) (k : ∀ I' L', FR I I' L L' → MR I' L' (backR W).2 → f (backR W).1 I' L' P) : Sq (d + 2) mX10_back SH0 [.ref 144] I L P (KI f) := by
  obtain ⟨g0, g1, -⟩ := ref_P hP
  obtain ⟨hG, hH, hI, hT, hC⟩ := id hM
  unfold backR at k
  have i6 := hI.1
  refine sp_X10_back ⟨by decide, ?_⟩
  rw [i6]
  by_cases c : W.2.1.1 = true
  · rw [if_pos c] at k ⊢
    refine ⟨fun _ => ?_, fun q => absurd q (by decide)⟩
    rw [g0, g1]
    refine ok10_copies (a := 0) (b := 0) (by decide) (by decide) (by decide) (by decide) (by decide) (by decide) (by decide) fun I3 f3 v3 I6 e6 I7 e7 I8 e8 => ?_
    rw [g0, cl_0]
    have f8 : ∀ r, r ≠ 144 → I8 r = I3 r := fun r q => by rw [e8, uI_ne r q, e7, uI_ne r q, e6, uI_ne r q]
    have j8 : ∀ j, j ≠ 4 → j ≠ 5 → j ≠ 17 → I8 144 j = I 144 j := fun j q1 q2 q3 => by
      rw [e8, e7, e6]
      show (if 144 = 144 ∧ j = 17 then _ else if 144 = 144 ∧ j = 5 then _ else if 144 = 144 ∧ j = 4 then _ else I3 144 j) = _
      rw [if_neg (fun q => q3 q.2), if_neg (fun q => q2 q.2), if_neg (fun q => q1 q.2), f3 144 (by decide)]
    have hg : GS (I8 145) W.2.1.2 := (hI.2 c).congr fun q hq => by
      rw [f8 145 (by decide), v3, if_pos (by omega)]
      congr 1; omega
    refine ⟨by decide, v145 0 (by decide), kI (k I8 L (fun r hr => ⟨by rw [f8 r (by omega), f3 r (by omega)], rfl⟩) ⟨hg, ⟨?_, ?_, fun i hi => absurd hi (Nat.not_lt_zero i), fun i hi => absurd hi (Nat.not_lt_zero i)⟩, hI.congr (j8 6 (by decide) (by decide) (by decide)) (by rw [f8 146 (by decide), f3 146 (by decide)]), hT.congr (j8 10 (by decide) (by decide) (by decide)) (by rw [f8 149 (by decide), f3 149 (by decide)]), Or.inl (by rw [e8]; exact if_pos ⟨rfl, rfl⟩)⟩) hg.1.2.1.symm⟩
    · rw [e8, e7, e6]; exact (if_neg (by decide)).trans ((if_neg (by decide)).trans (if_pos ⟨rfl, rfl⟩))
    · rw [e8, e7]; exact (if_neg (by decide)).trans (if_pos ⟨rfl, rfl⟩)
  · rw [if_neg c] at k ⊢
    exact ⟨fun q => absurd rfl q, fun _ => k I L (fun _ _ => ⟨rfl, rfl⟩) hM⟩
theorem ok10_feed {x : Int32} {f : Int32 → qMI → qML → qMP → Prop} (hP : LAY P) (hM : MR I L W) (hO : OKW W) (k : ∀ I' L', FR I I' L L' → MR I' L' (feedR W x).2 → f (feedR W x).1 I' L' P) : Sq (d + 2) mX10_feed SH0 [.ref 144, .int x] I L P (KI f) := by
  obtain ⟨g0, g1, g2, g3, g4, -⟩ := ref_P hP
  obtain ⟨hG, hH, hI, ⟨t1, t2⟩, hC⟩ := id hM
  have o6 := hO.2.2.2.2.2.1
  unfold feedR at k
  refine sp_X10_feed (ok10_in (y := 32) (z := 126) rfl rfl ⟨fun c => ?_, fun c => ?_⟩)
  · have c := b01_n0.mp c
    rw [ti_32, ti_126] at c
    rw [if_pos c] at k
    refine ⟨by decide, ?_⟩
    rw [t1, g4]
    refine ⟨fun c2 => ⟨by decide, ?_⟩, fun c2 => ?_⟩
    · have c2 : W.2.2.2.2 ≠ 120 := fun q => c2 (by rw [q]; rfl)
      rw [if_pos (by omega)] at k
      obtain ⟨v, hv, ev, hcl⟩ := cl_isP (n := 127) (x := x) ⟨by omega, by omega⟩ (by decide)
      refine ⟨vin _ rfl (show W.2.2.2.2 < 120 by omega) (by decide), fun I10 e10 I11 e11 => ?_⟩
      rw [clN (by omega)] at e10
      have i10 : I10 144 10 = nI W.2.2.2.2 := by rw [e10, uI_ne 144 (by decide)]; exact t1
      rw [i10, nI_1] at e11
      have j11 : ∀ j, j ≠ 10 → I11 144 j = I 144 j := fun j q => by rw [e11]; exact (if_neg (fun z => q z.2)).trans (by rw [e10, uI_ne 144 (by decide)])
      have f11 : ∀ r, r ≠ 144 → r ≠ 149 → I11 r = I r := fun r q1 q2 => by rw [e11, uI_ne r q1, e10, uI_ne r q2]
      refine kI (k I11 L (fun r hr => ⟨f11 r (by omega) (by omega), rfl⟩) ⟨by rw [f11 145 (by decide) (by decide)]; exact hG, hH.congr (j11 4 (by decide)) (j11 5 (by decide)) (f11 147 (by decide) (by decide)) (f11 148 (by decide) (by decide)), hI.congr (j11 6 (by decide)) (f11 146 (by decide) (by decide)), ⟨by rw [e11]; exact if_pos ⟨rfl, rfl⟩, fun i hi => ?_⟩, hC.congr (j11 17 (by decide)) rfl⟩) (by rw [e11]; exact (if_pos ⟨rfl, rfl⟩).symm)
      have hi : i < W.2.2.2.2 + 1 := hi
      show I11 149 i = nI (fedT W.2.2.2.1 W.2.2.2.2 x.toNatClampNeg i)
      unfold fedT
      rw [e11, uI_ne 149 (by decide), e10]
      show (if 149 = 149 ∧ i = W.2.2.2.2 then x else I 149 i) = _
      by_cases y : i = W.2.2.2.2
      · rw [if_pos ⟨rfl, y⟩, if_pos y, hcl]; exact ev
      · rw [if_neg (fun z => y z.2), if_neg y]
        exact t2 i (by omega)
    · have c2 : W.2.2.2.2 = 120 := nI_inj (by omega) (by decide) c2
      rw [if_neg (by omega)] at k
      exact k I L (fun _ _ => ⟨rfl, rfl⟩) hM
  · have c := b01_0.mp c
    rw [ti_32, ti_126] at c
    rw [if_neg c] at k
    exact k I L (fun _ _ => ⟨rfl, rfl⟩) hM
theorem ok10_count {x : Int32} {f : Int32 → qMI → qML → qMP → Prop} (hP : LAY P) (hM : MR I L W) (k : f (countV W x) I L P) : Sq (d + 3) mX10_count SH0 [.ref 144, .int x] I L P (KI f) := by
  obtain ⟨g0, -⟩ := ref_P hP
  obtain ⟨hG, ⟨h4, h5, -⟩, -, ⟨t1, -⟩, -⟩ := id hM
  have hg := hG.1
  refine sp_X10_count ⟨fun c => ?_, fun c => ?_, fun c => ?_, fun c => ?_, fun c => ?_, fun c => ?_, fun c => ?_, fun c => ?_, fun c => ?_, fun c => ?_, fun c0 c1 c2 c3 c4 c5 c6 c7 c8 c9 => ?_⟩
  · subst c
    rw [countV_0] at k
    rw [g0, cl_0, hg.2.1]
    exact ⟨by decide, by decide, v145 0 (by decide), k⟩
  · subst c
    rw [countV_1] at k
    refine ⟨by decide, ok10_areFew hP hg ⟨fun c => ?_, fun c => ?_⟩⟩
    · have c := b01_0.mp c
      rw [if_pos (by omega)] at k
      exact ok10_slots hP hg k
    · have c := b01_n0.mp c
      rw [if_neg (by omega)] at k
      exact k
  · subst c
    rw [countV_2] at k
    refine ⟨by decide, ok10_areFew hP hg ⟨fun c => ?_, fun c => ?_⟩⟩
    · have c := b01_0.mp c
      rw [if_pos (by omega)] at k
      exact ok10_byes hP hg k
    · have c := b01_n0.mp c
      rw [if_neg (by omega)] at k
      exact k
  · subst c
    rw [countV_3] at k
    refine ⟨by decide, ok10_areFew hP hg ⟨fun c => ?_, fun c => ?_⟩⟩
    · have c := b01_0.mp c
      rw [if_pos (by omega)] at k
      exact ok10_last hP hg k
    · have c := b01_n0.mp c
      rw [if_neg (by omega)] at k
      exact k
  · subst c
    rw [countV_4] at k
    rw [g0, cl_4, hG.2.2.1]
    exact ⟨by decide, by decide, v145 4 (by decide), k⟩
  · subst c
    rw [countV_5] at k
    rw [g0, cl_1, hg.2.2.1]
    exact ⟨by decide, by decide, v145 1 (by decide), k⟩
  · subst c
    rw [countV_6] at k
    rw [g0, cl_2, hg.2.2.2.1]
    exact ⟨by decide, by decide, v145 2 (by decide), k⟩
  · subst c
    rw [countV_7] at k
    exact ⟨by decide, kI k t1.symm⟩
  · subst c
    rw [countV_8] at k
    exact ⟨by decide, kI k h4.symm⟩
  · subst c
    rw [countV_9] at k
    exact ⟨by decide, kI k h5.symm⟩
  · unfold countV at k
    rw [if_neg c0, if_neg c1, if_neg c2, if_neg c3, if_neg c4, if_neg c5, if_neg c6, if_neg c7, if_neg c8, if_neg c9] at k
    exact k
end RH
