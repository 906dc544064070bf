/-! ===== levels, players ===== -/
def dropS (s : Sit) : Sit := up (up s 7 0 0) 9 0 0
theorem dropS_lo (s : Sit) (x y : Nat) (h : x ≤ 6) : dropS s x y = s x y := by
  unfold dropS
  rw [up_ne (by omega), up_ne (by omega)]
theorem WE_cg {s t : Sit} (h : WE s) (q : ∀ x y, x ≤ 6 → t x y = s x y) : WE t := by
  obtain ⟨a, b, c, e, g⟩ := h
  refine ⟨by rw [q 0 0 (by decide)]; exact a, by rw [q 5 0 (by decide)]; exact b, by rw [q 6 0 (by decide)]; exact c, fun p hp => ?_, fun p r hp hr hne he => ?_⟩
  · rw [q 0 0 (by decide)] at hp
    rw [q 1 p (by decide), q 2 p (by decide), q 3 p (by decide), q 4 p (by decide)]
    exact e p hp
  · rw [q 0 0 (by decide)] at hp hr
    rw [q 3 p (by decide), q 3 r (by decide)] at he
    rw [q 3 p (by decide)]
    exact g p r hp hr hne he
theorem ES_cg {sh : List qSh} {I : qMI} {P : qMP} {e : Nat} {s t : Sit} (h : ES sh I P e s) (q : ∀ x y, x ≤ 6 → t x y = s x y) : ES sh I P e t := by
  obtain ⟨a1, a2, a3, a4, a5, a6, w⟩ := h
  refine ⟨a1, a2, by rw [q 0 0 (by decide)]; exact a3, by rw [q 5 0 (by decide)]; exact a4, by rw [q 6 0 (by decide)]; exact a5, fun p x hp hx => ?_, WE_cg w q⟩
  rw [q 0 0 (by decide)] at hp
  rw [q (1 + x) p (by omega)]
  exact a6 p x hp hx
theorem OKS_drop {s : Sit} (h : WE s) : OKS (dropS s) := by
  have e7 : dropS s 7 0 = 0 := by unfold dropS; rw [up_ne (by decide)]; exact up_at _ _ _ _
  have e9 : dropS s 9 0 = 0 := up_at _ _ _ _
  exact ⟨WE_cg h (dropS_lo s), Or.inl e7, fun _ => e9, fun q => by rw [e7] at q; exact absurd q (by decide)⟩
def levelS (s : Sit) (w v : Nat) : Sit := dropS (up s (5 + w) 0 v)
def levelR (W : Wd) (x v : Int32) : Int32 × Wd := if isP 2 x ∧ isP 5 v then (nI (W.1 (5 + x.toNatClampNeg) 0), remW W (levelS W.1 x.toNatClampNeg v.toNatClampNeg)) else (-1, W)
section LV
variable {d : Nat} {J : qMI} {M : qML} {I : qMI} {L : qML} {P : qMP} {W : Wd} {s : Sit}
theorem ok9_drop {f : qMI → qML → qMP → Prop} (h : XQ J M I L P W) (hE : ES SH0 I P 3 s) (k : ∀ I', XQ J M I' L P W → XS I' L P 2 (dropS s) → f I' L P) : Sq (d + 1) mX1_drop SH0 [.ref 5] I L P (KV f) := by
  have hP := h.1
  refine ok_drop (by decide) ?_
  have fr : ∀ r, r ≠ 5 → uI (uI I 5 0 0) 5 4 0 r = I r := fun r q => by rw [uI_ne r q, uI_ne r q]
  have e7 : dropS s 7 0 = 0 := by unfold dropS; rw [up_ne (by decide)]; exact up_at _ _ _ _
  have e9 : dropS s 9 0 = 0 := up_at _ _ _ _
  refine k _ (h.keep fun r hr => ⟨fr r (by omega), rfl⟩) ⟨ES_cg (hE.congr (fr 3 (by decide)) (by rw [ly_3_3 hP]; exact fr 4 (by decide)) rfl) (dropS_lo s), sit_DSh hP (Or.inl rfl), ?_, ?_, Or.inl e7, fun _ => e9, fun q => by rw [e7] at q; exact absurd q (by decide)⟩
  · rw [e7]
    show (if _ then _ else _) = _
    rw [if_neg (by decide)]
    exact if_pos ⟨rfl, rfl⟩
  · rw [e9]
    exact if_pos ⟨rfl, rfl⟩
theorem ES_level {w v : Nat} (hE : ES SH0 I P 3 s) (hP : LAY P) (hw : w < 2) (hv : v ≤ 4) : ES SH0 (uI I 3 (1 + w) (nI v)) P 3 (up s (5 + w) 0 v) := by
  obtain ⟨a1, a2, a3, a4, a5, a6, w1, w2, w3, w4, w5⟩ := hE
  have e4 : P 3 3 = 4 := ly_3_3 hP
  have lo : ∀ x y, x ≤ 4 → up s (5 + w) 0 v x y = s x y := fun x y h => up_ne (by omega)
  refine ⟨a1, a2, ?_, ?_, ?_, fun p x hp hx => ?_, by rw [lo 0 0 (by decide)]; exact w1, ?_, ?_, fun p hp => ?_, fun p q hp hq hne he => ?_⟩
  · rw [lo 0 0 (by decide)]
    show (if _ then _ else _) = _
    rw [if_neg (by omega)]; exact a3
  · show (if _ then _ else _) = nI (if _ then _ else _)
    by_cases c : w = 0
    · rw [if_pos ⟨rfl, by omega⟩, if_pos ⟨by omega, rfl⟩]
    · rw [if_neg (by omega), if_neg (by omega)]; exact a4
  · show (if _ then _ else _) = nI (if _ then _ else _)
    by_cases c : w = 1
    · rw [if_pos ⟨rfl, by omega⟩, if_pos ⟨by omega, rfl⟩]
    · rw [if_neg (by omega), if_neg (by omega)]; exact a5
  · rw [lo 0 0 (by decide)] at hp
    rw [lo (1 + x) p (by omega), e4, uI_ne 4 (by decide)]
    have := a6 p x hp hx
    rw [e4] at this; exact this
  · show (if _ then _ else _) ≤ 4
    split <;> omega
  · show (if _ then _ else _) ≤ 4
    split <;> omega
  · rw [lo 0 0 (by decide)] at hp
    rw [lo 1 p (by decide), lo 2 p (by decide), lo 3 p (by decide), lo 4 p (by decide)]
    exact w4 p hp
  · rw [lo 0 0 (by decide)] at hp hq
    rw [lo 3 p (by decide), lo 3 q (by decide)] at he
    rw [lo 3 p (by decide)]
    exact w5 p q hp hq hne he
theorem ok9_level {x y : Int32} {f : Int32 → qMI → qML → qMP → Prop} (h : XR J M I L P W) (k : ∀ I' L' P', XR J M I' L' P' (levelR W x y).2 → f (levelR W x y).1 I' L' P') : Sq (d + 4) mX9_level SH0 [.ref 1, .int x, .int y] I L P (KI f) := by
  obtain ⟨hQ, hN, hO, hA⟩ := id h
  have hP := hQ.1
  obtain ⟨p1, p2, p3, p4, -⟩ := now_P hP
  have hE := hN.1
  unfold levelR at k
  refine sp_X9_level ⟨fun c => ?_, fun c => ⟨fun c2 => ?_, fun c2 => ⟨fun c3 => ?_, fun c3 => ⟨fun c4 => ⟨by decide, by rw [p1]; decide, ?_⟩, fun c4 => ?_⟩⟩⟩⟩
  · rw [if_neg (fun q => by have := q.1.1; ((try simp only [Int32.lt_iff_toInt_lt, Int32.le_iff_toInt_le, ne_eq, ← Int32.toInt_inj, isP, ti_nI, ti_add, ti_sub, ti_mul, ti_neg, ti_0, ti_1, ti_2, ti_3, ti_4, ti_5, ti_6, ti_7, ti_8, ti_9, ti_10, ti_11, ti_12, ti_13, ti_14, ti_15, ti_16, ti_17, ti_18, ti_19, ti_20, ti_28, ti_30, ti_31, ti_32, ti_40, ti_45, ti_47, ti_48, ti_49, ti_57, ti_58, ti_59, ti_61, ti_76, ti_84, ti_96, ti_99, ti_100, ti_114, ti_115, ti_120, ti_126, ti_840, ti_1024] at c this ⊢); omega))] at k
    exact k I L P h
  · rw [if_neg (fun q => by have := q.1.2; ((try simp only [Int32.lt_iff_toInt_lt, Int32.le_iff_toInt_le, ne_eq, ← Int32.toInt_inj, isP, ti_nI, ti_add, ti_sub, ti_mul, ti_neg, ti_0, ti_1, ti_2, ti_3, ti_4, ti_5, ti_6, ti_7, ti_8, ti_9, ti_10, ti_11, ti_12, ti_13, ti_14, ti_15, ti_16, ti_17, ti_18, ti_19, ti_20, ti_28, ti_30, ti_31, ti_32, ti_40, ti_45, ti_47, ti_48, ti_49, ti_57, ti_58, ti_59, ti_61, ti_76, ti_84, ti_96, ti_99, ti_100, ti_114, ti_115, ti_120, ti_126, ti_840, ti_1024] at c2 this ⊢); omega))] at k
    exact k I L P h
  · rw [if_neg (fun q => by have := q.2.1; ((try simp only [Int32.lt_iff_toInt_lt, Int32.le_iff_toInt_le, ne_eq, ← Int32.toInt_inj, isP, ti_nI, ti_add, ti_sub, ti_mul, ti_neg, ti_0, ti_1, ti_2, ti_3, ti_4, ti_5, ti_6, ti_7, ti_8, ti_9, ti_10, ti_11, ti_12, ti_13, ti_14, ti_15, ti_16, ti_17, ti_18, ti_19, ti_20, ti_28, ti_30, ti_31, ti_32, ti_40, ti_45, ti_47, ti_48, ti_49, ti_57, ti_58, ti_59, ti_61, ti_76, ti_84, ti_96, ti_99, ti_100, ti_114, ti_115, ti_120, ti_126, ti_840, ti_1024] at c3 this ⊢); omega))] at k
    exact k I L P h
  · have hx : isP 2 x := by unfold isP; ((try simp only [Int32.lt_iff_toInt_lt, Int32.le_iff_toInt_le, ne_eq, ← Int32.toInt_inj, isP, ti_nI, ti_add, ti_sub, ti_mul, ti_neg, ti_0, ti_1, ti_2, ti_3, ti_4, ti_5, ti_6, ti_7, ti_8, ti_9, ti_10, ti_11, ti_12, ti_13, ti_14, ti_15, ti_16, ti_17, ti_18, ti_19, ti_20, ti_28, ti_30, ti_31, ti_32, ti_40, ti_45, ti_47, ti_48, ti_49, ti_57, ti_58, ti_59, ti_61, ti_76, ti_84, ti_96, ti_99, ti_100, ti_114, ti_115, ti_120, ti_126, ti_840, ti_1024] at c c2 ⊢); omega)
    have hy : isP 5 y := by unfold isP; ((try simp only [Int32.lt_iff_toInt_lt, Int32.le_iff_toInt_le, ne_eq, ← Int32.toInt_inj, isP, ti_nI, ti_add, ti_sub, ti_mul, ti_neg, ti_0, ti_1, ti_2, ti_3, ti_4, ti_5, ti_6, ti_7, ti_8, ti_9, ti_10, ti_11, ti_12, ti_13, ti_14, ti_15, ti_16, ti_17, ti_18, ti_19, ti_20, ti_28, ti_30, ti_31, ti_32, ti_40, ti_45, ti_47, ti_48, ti_49, ti_57, ti_58, ti_59, ti_61, ti_76, ti_84, ti_96, ti_99, ti_100, ti_114, ti_115, ti_120, ti_126, ti_840, ti_1024] at c3 c4 ⊢); omega)
    rw [if_pos ⟨hx, hy⟩] at k
    obtain ⟨w, hw, rfl, hcw⟩ := cl_isP hx (by decide)
    obtain ⟨v, hv, rfl, hcv⟩ := cl_isP hy (by decide)
    rw [hcw, hcv] at k
    have e0 : nI w = 0 ↔ w = 0 := nI_eq (by omega) (by decide)
    have tail : ∀ j, j = 1 + w → ∀ (z : Int32), z = nI (W.1 (5 + w) 0) → ∀ I10, I10 = uI I 3 j (nI v) → (shp SH0 5).1 = 1 ∧ Sq (d + 3) mX1_drop SH0 [.ref 5] I10 L P (KV fun I12 L13 P14 => ((shp SH0 (P14 1 2)).1 = 3) ∧ (Sq (d + 3) mX3_remember SH0 [.ref (P14 1 2), .ref (P14 1 0)] I12 L13 P14 (KV fun I16 L17 P18 => KI f (some (.int z)) I16 L17 P18))) := by
      intro j hj z hz I10 e10
      subst hj
      refine ⟨by decide, ?_⟩
      have hE10 : ES SH0 I10 P 3 (up W.1 (5 + w) 0 v) := by rw [e10]; exact ES_level hE hP hw (by omega)
      refine ok9_drop (hQ.keep fun r hr => ⟨by rw [e10, uI_ne r (by omega)], rfl⟩) hE10 fun I12 hQ12 hX12 => ?_
      rw [p4, p1]
      exact ⟨by decide, ok_rem hQ12 hX12 (OKS_drop hE10.2.2.2.2.2.2) fun I' L' P' hR => kI (k I' L' P' hR) hz.symm⟩
    have v1 : I 3 1 = nI (W.1 5 0) := hE.2.2.2.1
    have v2 : I 3 2 = nI (W.1 6 0) := hE.2.2.2.2.1
    rw [p1, p2, p3]
    refine ⟨fun c5 => ⟨by decide, fun _ => ?_, fun q => absurd q c5⟩, fun c5 => ⟨by decide, fun q => absurd c5 q, fun _ => ?_⟩⟩
    · have : w = 1 := by have : w ≠ 0 := fun q => c5 (e0.mpr q); omega
      subst this
      exact tail 2 rfl _ v2
    · have := e0.mp c5
      subst this
      exact tail 1 rfl _ v1
  · rw [if_neg (fun q => by have := q.2.2; ((try simp only [Int32.lt_iff_toInt_lt, Int32.le_iff_toInt_le, ne_eq, ← Int32.toInt_inj, isP, ti_nI, ti_add, ti_sub, ti_mul, ti_neg, ti_0, ti_1, ti_2, ti_3, ti_4, ti_5, ti_6, ti_7, ti_8, ti_9, ti_10, ti_11, ti_12, ti_13, ti_14, ti_15, ti_16, ti_17, ti_18, ti_19, ti_20, ti_28, ti_30, ti_31, ti_32, ti_40, ti_45, ti_47, ti_48, ti_49, ti_57, ti_58, ti_59, ti_61, ti_76, ti_84, ti_96, ti_99, ti_100, ti_114, ti_115, ti_120, ti_126, ti_840, ti_1024] at c4 this ⊢); omega))] at k
    exact k I L P h
end LV
