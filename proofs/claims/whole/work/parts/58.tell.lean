theorem WD_cg {s t : Sit} (h : WD s) (q : ∀ x y, x ≠ 4 → t x y = s x y) : WD t := by
  have e0 : t 0 0 = s 0 0 := q 0 0 (by decide)
  have e9 : t 9 0 = s 9 0 := q 9 0 (by decide)
  have e11 : t 11 = s 11 := funext fun y => q 11 y (by decide)
  have e20 : t 20 = s 20 := funext fun y => q 20 y (by decide)
  have er : ∀ r, t (20 + r) = s (20 + r) := fun r => funext fun y => q _ y (by omega)
  unfold WD
  rw [e0, e9, e11, e20]
  simp only [er]
  exact h
theorem DS_cg {sh : List qSh} {I : qMI} {L : qML} {P : qMP} {e : Nat} {s t : Sit} (h : DS sh I L P e s) (q : ∀ x y, x ≠ 4 → t x y = s x y) : DS sh I L P e t := by
  obtain ⟨hd, g1, g2, g3, g4, v⟩ := h
  have e0 : t 0 0 = s 0 0 := q 0 0 (by decide)
  have e7 : t 7 0 = s 7 0 := q 7 0 (by decide)
  have e8 : t 8 0 = s 8 0 := q 8 0 (by decide)
  have e9 : t 9 0 = s 9 0 := q 9 0 (by decide)
  have e11 : t 11 = s 11 := funext fun y => q 11 y (by decide)
  have er : ∀ r, t (20 + r) = s (20 + r) := fun r => funext fun y => q _ y (by omega)
  refine ⟨hd, by rw [e7]; exact g1, by rw [e9]; exact g2, by rw [e7]; exact g3, by rw [e7, e9]; exact g4, fun z => ?_⟩
  rw [e7] at z
  obtain ⟨v1, v2, v3, v4, v5, v6, w⟩ := v z
  refine ⟨by rw [e8]; exact v1, by rw [e0]; exact v2, by rw [e0]; exact v3, ?_, ?_, ?_, WD_cg w q⟩
  · rw [e0, e9]; simp only [er]; exact v4
  · rw [e0, e9, e11]; exact v5
  · rw [e0, e9]; exact v6
def tellS (s : Sit) (p w v : Nat) : Sit := if w = 3 then up s 4 p v else dropS (up s (1 + w) p v)
def tellR (W : Wd) (x y v : Int32) : Int32 × Wd := if isP (W.1 0 0) x ∧ mayS W.1 x y v then (nI (W.1 (1 + y.toNatClampNeg) x.toNatClampNeg), remW W (tellS W.1 x.toNatClampNeg y.toNatClampNeg v.toNatClampNeg)) else (-1, W)
section TE
variable {d : Nat} {J : qMI} {M : qML} {I : qMI} {L : qML} {P : qMP} {W : Wd} {s : Sit}
theorem ES_tell {p w a : Nat} (hE : ES SH0 I P 3 s) (hP : LAY P) (hp : p < s 0 0) (hw : w < 4) (ha : a ≤ bigW w) (hz : w = 2 → 0 < a → ∀ o, o < s 0 0 → o ≠ p → s 3 o ≠ a) : ES SH0 (uI I 4 (4 * p + w) (nI a)) P 3 (up s (1 + w) p a) := by
  obtain ⟨a1, a2, a3, a4, a5, a6, w1, w2, w3, w4, w5⟩ := hE
  have e4 : P 3 3 = 4 := ly_3_3 hP
  have lo : ∀ x y, (x = 0 ∨ 5 ≤ x) → up s (1 + w) p a x y = s x y := fun x y h => up_ne (by omega)
  have hi : ∀ x y, x < 4 → up s (1 + w) p a (1 + x) y = if x = w ∧ y = p then a else s (1 + x) y := fun x y _ => by
    unfold up
    by_cases c : x = w ∧ y = p
    · rw [if_pos c, if_pos (by omega)]
    · rw [if_neg c, if_neg (by omega)]
  refine ⟨a1, a2, by rw [lo 0 0 (by omega), uI_ne 3 (by decide)]; exact a3, by rw [lo 5 0 (by omega), uI_ne 3 (by decide)]; exact a4, by rw [lo 6 0 (by omega), uI_ne 3 (by decide)]; exact a5, fun q x hq hx => ?_, by rw [lo 0 0 (by omega)]; exact w1, by rw [lo 5 0 (by omega)]; exact w2, by rw [lo 6 0 (by omega)]; exact w3, fun q hq => ?_, fun q r hq hr hne he => ?_⟩
  · rw [lo 0 0 (by omega)] at hq
    rw [hi x q hx, e4]
    show (if _ then _ else _) = _
    by_cases c : x = w ∧ q = p
    · rw [if_pos (by omega), if_pos c]
    · rw [if_neg (by omega), if_neg c]
      have := a6 q x hq hx
      rw [e4] at this; exact this
  · rw [lo 0 0 (by omega)] at hq
    have b := w4 q hq
    have h0 : up s (1 + w) p a 1 q = if 0 = w ∧ q = p then a else s 1 q := hi 0 q (by decide)
    have h1 : up s (1 + w) p a 2 q = if 1 = w ∧ q = p then a else s 2 q := hi 1 q (by decide)
    have h2 : up s (1 + w) p a 3 q = if 2 = w ∧ q = p then a else s 3 q := hi 2 q (by decide)
    have h3 : up s (1 + w) p a 4 q = if 3 = w ∧ q = p then a else s 4 q := hi 3 q (by decide)
    have z0 : w = 0 → a ≤ 5 := fun e => by rw [e] at ha; exact ha
    have z1 : w = 1 → a ≤ 3 := fun e => by rw [e] at ha; exact ha
    have z2 : w = 2 → a ≤ 8 := fun e => by rw [e] at ha; exact ha
    have z3 : w = 3 → a ≤ 99 := fun e => by rw [e] at ha; exact ha
    refine ⟨?_, ?_, ?_, ?_⟩
    · rw [h0]; split <;> omega
    · rw [h1]; split <;> omega
    · rw [h2]; split <;> omega
    · rw [h3]; split <;> omega
  · rw [lo 0 0 (by omega)] at hq hr
    have h2 := hi 2 q (by decide)
    have h3 := hi 2 r (by decide)
    rw [show (3 : Nat) = 1 + 2 from rfl, h2, h3] at he
    rw [show (3 : Nat) = 1 + 2 from rfl, h2]
    have b := w5 q r hq hr hne
    by_cases c : 2 = w ∧ q = p
    · rw [if_pos c] at he ⊢
      rw [if_neg (by omega)] at he
      rcases Nat.eq_zero_or_pos a with y | y
      · exact y
      · exact absurd he.symm (hz c.1.symm y r hr (by omega))
    · rw [if_neg c] at he ⊢
      by_cases c2 : 2 = w ∧ r = p
      · rw [if_pos c2] at he
        rcases Nat.eq_zero_or_pos a with y | y
        · rw [he]; exact y
        · exact absurd he (hz c2.1.symm y q hq (by omega))
      · rw [if_neg c2] at he
        exact b he
theorem lgst_4 {y : Int32} (h : ¬ isP 4 y) : lgst y = -1 := by
  unfold lgst
  rw [if_neg (fun q => h (by subst q; decide)), if_neg (fun q => h (by subst q; decide)), if_neg (fun q => h (by subst q; decide)), if_neg (fun q => h (by subst q; decide))]
theorem ok9_tell {x y v : Int32} {f : Int32 → qMI → qML → qMP → Prop} (h : XR J M I L P W) (k : ∀ I' L' P', XR J M I' L' P' (tellR W x y v).2 → f (tellR W x y v).1 I' L' P') : Sq (d + 4) mX9_tell SH0 [.ref 1, .int x, .int y, .int v] I L P (KI f) := by
  obtain ⟨hQ, hN, hO, hA⟩ := id h
  have hP := hQ.1
  obtain ⟨p1, p2, p3, p4, -⟩ := now_P hP
  have e4 : P 3 3 = 4 := ly_3_3 hP
  have hE := hN.1
  have w := hO.1
  have hn := w.1
  unfold tellR at k
  refine sp_X9_tell ⟨by decide, by rw [p1]; decide, ?_⟩
  rw [p1, p2]
  refine ⟨by decide, ok_has hE ⟨fun c => ?_, fun c => ok_mayTell hE ⟨fun c2 => ?_, fun c2 => ?_⟩⟩⟩
  · rw [if_neg (fun q => b01_0.mp c q.1)] at k
    exact k I L P h
  · have c := b01_n0.mp c
    have c2 := b01_n0.mp c2
    rw [if_pos ⟨c, c2⟩] at k
    obtain ⟨p, hp, rfl, hc⟩ := cl_isP c (by omega)
    have hy : isP 4 y := Classical.byContradiction fun q => by
      have z := c2.1
      rw [lgst_4 q] at z
      have z1 := z.1
      have z2 := z.2
      rw [Int32.le_iff_toInt_le] at z1 z2
      rw [m1ti] at z2
      rw [ti_0] at z1
      omega
    obtain ⟨w9, hw, rfl, hcw⟩ := cl_isP hy (by decide)
    obtain ⟨a, rfl, ea, la⟩ := may_nat hw rfl c2
    have hb : bigW w9 ≤ 99 := by unfold bigW; split <;> (try split) <;> (try split) <;> omega
    rw [hc, hcw, ea] at k
    have hE9 := ES_tell hE hP hp hw la (fun z1 z2 o ho hne q => by
      subst z1
      have b1 := (w.2.2.2.1 o ho).2.2.1
      exact c2.2 o ho ⟨rfl, (nI_ltI (a := 0) (b := a) (by decide) (by omega)).mpr z2, fun z => hne (nI_inj (by omega) (by omega) z)⟩ (by rw [q]))
    refine ok_told hE hp hw (raw_put hE.1 (by rw [e4]; decide) hE.2.2.1 hn hp hw ?_)
    rw [e4]
    have fr : ∀ r, r ≠ 4 → uI I 4 (4 * p + w9) (nI a) r = I r := fun r q => uI_ne r q
    have hQ9 : XQ J M (uI I 4 (4 * p + w9) (nI a)) L P W := hQ.keep fun r hr => ⟨fr r (by omega), rfl⟩
    have e3 : nI w9 = 3 ↔ w9 = 3 := nI_eq (by omega) (by decide)
    refine ⟨fun c3 => ⟨by rw [p4]; decide, ?_⟩, fun c3 => ⟨by rw [p1]; decide, ?_⟩⟩
    · have c3 := e3.mp c3
      subst c3
      have et : tellS W.1 p 3 a = up W.1 4 p a := if_pos rfl
      rw [et] at k
      rw [p4, p1]
      have cg : ∀ x y, x ≠ 4 → up W.1 4 p a x y = W.1 x y := fun x y hx => up_ne (by omega)
      have hD : DS SH0 (uI I 4 (4 * p + 3) (nI a)) L P 5 (up W.1 4 p a) := DS_cg (hN.2.congr (fr 5 (by decide)) rfl (by rw [ly_5_5 hP]; exact fr 6 (by decide)) (by rw [ly_5_6 hP]; exact fr 7 (by decide)) rfl) cg
      have hO9 : OKS (up W.1 4 p a) := by
        rcases hO.2.1 with z | z
        · exact ⟨hE9.2.2.2.2.2.2, Or.inl (by rw [cg 7 0 (by decide)]; exact z), fun _ => by rw [cg 9 0 (by decide)]; exact hO.2.2.1 z, fun z2 => by rw [cg 7 0 (by decide), z] at z2; exact absurd z2 (by decide)⟩
        · exact OKS_same hO z (fun x y hx => cg x y (by omega)) (by rw [cg 7 0 (by decide)]; exact z) (cg 8 0 (by decide)) (fun y => cg 20 y (by decide)) hE9.2.2.2.2.2.2 (WD_cg (hO.2.2.2 z).1 cg)
      exact ok_rem hQ9 ⟨hE9, hD⟩ hO9 fun I' L' P' hR => k I' L' P' hR
    · have c3 : w9 ≠ 3 := fun z => c3 (e3.mpr z)
      have et : tellS W.1 p w9 a = dropS (up W.1 (1 + w9) p a) := if_neg c3
      rw [et] at k
      rw [p1, p3]
      refine ⟨by decide, ok9_drop hQ9 hE9 fun I12 hQ12 hX12 => ⟨by rw [p4]; decide, ?_⟩⟩
      rw [p4, p1]
      exact ok_rem hQ12 hX12 (OKS_drop hE9.2.2.2.2.2.2) fun I' L' P' hR => k I' L' P' hR
  · rw [if_neg (fun q => b01_0.mp c2 q.2)] at k
    exact k I L P h
end TE
