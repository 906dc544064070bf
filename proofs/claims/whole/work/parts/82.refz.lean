/-! ===== the reference: number, swapped, relaxed ===== -/
theorem PR.congr {I I' : qMI} {s : Sit} (h : PR I s) (h22 : I' 144 22 = I 144 22) (h6 : I' 156 = I 156) (h7 : I' 157 = I 157) (h8 : I' 158 = I 158) (h9 : I' 159 = I 159) : PR I' s := by
  unfold PR
  rw [h22, h6, h7, h8, h9]; exact h
section RZ
variable {d : Nat} {I : qMI} {L : qML} {P : qMP} {W : Wd} {s : Sit}
theorem ok10_rankTop {g : Nat → Nat} {A : Nat → Nat → Nat → Bool} {f : Int64 → qMI → qML → qMP → Prop} (hP : LAY P) (hn : s 0 0 ≤ 10) (hI : SE I (s 0 0) g) (hout : ∀ t, slotsS (s 0 0) ≤ t → g t = 0) (hg : FO (s 0 0) g) (hR : RW L 154 A (s 0 0)) (k : f (lN (rkS A g (lastS (s 0 0)) 0)) I L P) : Sq (d + 7) mX10_rank SH0 [.ref 144, .int (nI (lastS (s 0 0))), .int 0] I L P (KL f) := by
  have hl := lastS_le (s 0 0)
  have := ok10_rank hP hn hI hout hg hR (lastS (s 0 0)) (d + 4 - lastS (s 0 0)) 0 f (Nat.le_refl _) (by rw [TB_last _ hn]; decide) k
  rw [show lastS (s 0 0) + (d + 4 - lastS (s 0 0) + 3) = d + 7 by omega] at this
  exact this
theorem seats_le (w : WD s) {t : Nat} (ht : t < slotsS (s 0 0)) : s 20 t ≤ 10 := by
  have hn := w.2.2.1
  rcases w.2.2.2.1 0 t (Nat.zero_le _) (by rw [TB_0]; exact ht) with q | ⟨-, q⟩
  · have q : s 20 t < s 0 0 := q
    omega
  · have q : s 20 t = 10 := q
    omega
theorem ok10_number {f : Int64 → qMI → qML → qMP → Prop} (hP : LAY P) (hM : MR I L W) (hO : OKW W) (k : ∀ I' L', FR I I' L L' → MR I' L' W → f (numberV W.1) I' L' P) : Sq (d + 8) mX10_number SH0 [.ref 144] I L P (KL f) := by
  have o1 := hO.1
  have hn := hM.1.1.1
  have hs := slotsS_in (W.1 0 0)
  unfold numberV at k
  refine sp_X10_number ⟨by decide, ok10_hasDraw hP hM.1 o1.2.1 ⟨fun c => ok10_allM hP hM hO fun I8 L9 h1 h2 h17 hR => ok10_sits hP fun I11 f11 v11 => ⟨fun c2 => ?_, fun c2 => ?_⟩, fun c => ?_⟩⟩
  · have c := b01_n0.mp c
    rw [if_pos c] at k
    obtain ⟨w, o8, oq⟩ := o1.2.2.2 c
    have M11 : MR I11 L9 W := h2.keep ⟨fun j _ => by rw [f11 144 (by decide)], fun r _ q => f11 r (by omega), fun _ _ => rfl⟩
    have v := M11.1.2.2.2 c
    have hSE : SE I11 (W.1 0 0) (idF W.1) := fun t ht => by
      refine ⟨W.1 20 t, ?_, seats_le w ht, if_neg (by omega)⟩
      rw [v11 t (by omega)]
      exact (h2.1.2.2.2 c).1 t ht
    refine ok10_last hP M11.1.1 (ok10_rankTop hP hn hSE (fun t ht => if_pos ht) (idF_FO w) hR ?_)
    rw [take_rank hn o8 (f := idF W.1) fun t ht => by
      unfold idF
      rw [if_neg (by omega), oq t ht]]
    exact k I11 L9 (fun r hr => ⟨by rw [f11 r (by omega), (h1 r hr).1], (h1 r hr).2⟩) M11
  · exact absurd (by rw [show (0 : Int64) = lN 0 from rfl, pk_lLE (by decide) (by have := allS_le hn; omega)]; exact Nat.zero_le _) c2
  · rw [if_neg (b01_0.mp c)] at k
    exact k I L (fun _ _ => ⟨rfl, rfl⟩) hM
theorem slotI_at {p t : Nat} (w : WD s) (hp : p < s 0 0) (ht : t < slotsS (s 0 0)) : t = slotI s p ↔ s 20 t = p := by
  constructor
  · rintro rfl
    obtain ⟨j, hj, ej⟩ := w.2.2.2.2.1 p hp
    rw [slotI_eq w hp hj ej]; exact ej
  · intro e
    exact (slotI_eq w hp ht e).symm
theorem ok10_swapped {x y : Int32} {f : Int64 → qMI → qML → qMP → Prop} (hP : LAY P) (hM : MR I L W) (hO : OKW W) (k : ∀ I' L', FR I I' L L' → MR I' L' W → f (swapV W.1 x y) I' L' P) : Sq (d + 8) mX10_swapped SH0 [.ref 144, .int x, .int y] I L P (KL f) := by
  obtain ⟨g0, g1, g2, g3, g4, g5, g6, g7, g8, g9, g10, g11, g12, g13, g14, g15, g16⟩ := ref_P hP
  have o1 := hO.1
  have hn := hM.1.1.1
  have hs := slotsS_in (W.1 0 0)
  have me := k I L (fun _ _ => ⟨rfl, rfl⟩) hM
  unfold swapV at k me
  refine sp_X10_swapped ⟨by decide, ok10_isPlayer hP hM.1.1 ⟨fun c => ?_, fun c => ok10_isPlayer hP hM.1.1 ⟨fun c2 => ?_, fun c2 => ⟨fun c3 => ok10_hasDraw hP hM.1 o1.2.1 ⟨fun c4 => ?_, fun c4 => ?_⟩, fun c3 => ?_⟩⟩⟩⟩
  · rw [if_neg (fun q => b01_0.mp c q.1)] at me
    exact me
  · rw [if_neg (fun q => b01_0.mp c2 q.2.1)] at me
    exact me
  · have c := b01_n0.mp c
    have c2 := b01_n0.mp c2
    have c4 := b01_n0.mp c4
    rw [if_pos ⟨c, c2, c3⟩, if_pos c4] at k
    obtain ⟨p, hp, rfl, hcp⟩ := cl_isP c (by omega)
    obtain ⟨o, ho, rfl, hco⟩ := cl_isP c2 (by omega)
    rw [hcp, hco] at k
    have hne : p ≠ o := fun q => c3 (by rw [q])
    obtain ⟨w, o8, oq⟩ := o1.2.2.2 c4
    have hal := allS_le hn
    refine ok10_allM hP hM hO fun I19 L20 h1 h2 h17 hR => ok10_prepares hP h2.1.1 o1.1 fun I22 f22 j22 R22 => ok10_sits hP fun I25 f25 v25 => ?_
    have M22 : MR I22 L20 W := h2.keep ⟨fun j _ => j22 j (by omega), fun r q1 q => f22 r q1 (by omega), fun _ _ => rfl⟩
    have M25 : MR I25 L20 W := M22.keep ⟨fun j _ => by rw [f25 144 (by decide)], fun r _ q => f25 r (by omega), fun _ _ => rfl⟩
    have lp := sl_lt w hp
    have lo := sl_lt w ho
    refine ok10_slotOf hP (M25.1.2.2.2 c4) w hp ?_
    rw [g15, clN (p := slotI W.1 p) (by omega)]
    refine ⟨by decide, vin _ rfl (show slotI W.1 p < 16 by omega) (by decide), fun I34 e34 => ?_⟩
    have f34 : ∀ r, r ≠ 160 → I34 r = I25 r := fun r q => by rw [e34, uI_ne r q]
    refine ok10_slotOf hP (by rw [f34 145 (by decide)]; exact M25.1.2.2.2 c4) w ho ?_
    rw [clN (p := slotI W.1 o) (by omega)]
    refine ⟨by decide, vin _ rfl (show slotI W.1 o < 16 by omega) (by decide), fun I41 e41 => ?_⟩
    have f41 : ∀ r, r ≠ 160 → I41 r = I25 r := fun r q => by rw [e41, uI_ne r q]; exact f34 r q
    have M41 : MR I41 L20 W := M25.keep ⟨fun j _ => by rw [f41 144 (by decide)], fun r _ q => f41 r (by omega), fun _ _ => rfl⟩
    have fr41 : FR I I41 L L20 := fun r hr => ⟨by rw [f41 r (by omega), f25 r (by omega), f22 r (by omega) (by omega), (h1 r hr).1], (h1 r hr).2⟩
    have kk := k I41 L20 fr41 M41
    have hSE : SE I41 (W.1 0 0) (swF W.1 p o) := fun t ht => by
      have b := seats_le w ht
      refine ⟨if W.1 20 t = p then o else if W.1 20 t = o then p else W.1 20 t, ?_, by split <;> (try split) <;> omega, if_neg (by omega)⟩
      have a1 := slotI_at w hp ht
      have a2 := slotI_at w ho ht
      rw [e41]
      show (if 160 = 160 ∧ t = slotI W.1 o then _ else I34 160 t) = _
      by_cases z2 : t = slotI W.1 o
      · have y2 := a2.mp z2
        rw [if_pos ⟨rfl, z2⟩, if_neg (by omega), if_pos y2]
      · have y2 : W.1 20 t ≠ o := fun q => z2 (a2.mpr q)
        rw [if_neg (fun q => z2 q.2), e34]
        show (if 160 = 160 ∧ t = slotI W.1 p then _ else I25 160 t) = _
        by_cases z1 : t = slotI W.1 p
        · rw [if_pos ⟨rfl, z1⟩, if_pos (a1.mp z1)]
        · rw [if_neg (fun q => z1 q.2), if_neg (fun q => z1 (a1.mpr q)), if_neg y2, v25 t (by omega)]
          exact (M22.1.2.2.2 c4).1 t ht
    have hPR : PR I41 W.1 := R22.congr (by rw [f41 144 (by decide), f25 144 (by decide)]) (by rw [f41 156 (by decide), f25 156 (by decide)]) (by rw [f41 157 (by decide), f25 157 (by decide)]) (by rw [f41 158 (by decide), f25 158 (by decide)]) (by rw [f41 159 (by decide), f25 159 (by decide)])
    refine ⟨fun c5 => ?_, fun c5 => ok10_isDraw hP M41.1.1 o1.1 hPR hSE (fun t ht => if_pos ht) (swF_FO w hp ho hne) ⟨fun c6 => ?_, fun c6 => ok10_last hP M41.1.1 (ok10_rankTop hP hn hSE (fun t ht => if_pos ht) (swF_FO w hp ho hne) hR ?_)⟩⟩
    · have c5 := (pk_lLE (b := 0) (by omega) (by decide)).mp c5
      omega
    · have c6 : ¬ lawS W.1 (swF W.1 p o) := bz_0.mp c6
      rw [if_neg (fun q => c6 (bo_iff.mp q))] at kk
      exact kk
    · have c6 : lawS W.1 (swF W.1 p o) := bz_n0.mp c6
      rw [if_pos (bo_iff.mpr c6)] at kk
      exact kk
  · rw [if_pos ⟨b01_n0.mp c, b01_n0.mp c2, c3⟩, if_neg (b01_0.mp c4)] at me
    exact me
  · rw [if_neg (fun q => q.2.2 c3)] at me
    exact me
theorem WE_lv {t : Sit} (h : WE s) (q : ∀ x y, x ≤ 4 → t x y = s x y) (h5 : t 5 0 ≤ 4) (h6 : t 6 0 ≤ 4) : WE t := by
  obtain ⟨a, b, c, e, g⟩ := h
  refine ⟨by rw [q 0 0 (by decide)]; exact a, h5, h6, fun p hp => ?_, fun p r hp hr hne he => ?_⟩
  · rw [q 0 0 (by decide)] at hp
    rw [q 1 p (by decide), q 2 p (by decide), q 3 p (by decide), q 4 p (by decide)]
    exact e p hp
  · rw [q 0 0 (by decide)] at hp hr
    rw [q 3 p (by decide), q 3 r (by decide)] at he
    rw [q 3 p (by decide)]
    exact g p r hp hr hne he
theorem GE_lv {v v' : Nat → Int32} {t : Sit} (h : GE v s) (q : ∀ x y, x ≤ 4 → t x y = s x y) (hv : ∀ k, k < 84 → k ≠ 1 → k ≠ 2 → v' k = v k) (h1 : v' 1 = nI (t 5 0)) (h2 : v' 2 = nI (t 6 0)) : GE v' t := by
  obtain ⟨hn, a, b, c, g⟩ := h
  unfold GE
  rw [q 0 0 (by decide)]
  exact ⟨hn, by rw [hv _ (by decide) (by decide) (by decide)]; exact a, h1, h2, fun p w q1 q2 => by rw [hv _ (by omega) (by omega) (by omega), q _ _ (by omega)]; exact g p w q1 q2⟩
theorem ok10_relaxed {x : Int32} {f : Int32 → qMI → qML → qMP → Prop} (hP : LAY P) (hM : MR I L W) (hO : OKW W) (k : ∀ I' L', FR I I' L L' → MR I' L' (relaxR W x).2 → f (relaxR W x).1 I' L' P) : Sq (d + 6) mX10_relaxed SH0 [.ref 144, .int x] I L P (KI f) := by
  obtain ⟨g0, -⟩ := ref_P hP
  obtain ⟨hG, hH, hI, hT, hC⟩ := id hM
  have hg := hG.1
  have hn := hg.1
  have we := hO.1.1
  have w5 := we.2.1
  have w6 := we.2.2.1
  have me := fun h => k I L (fun _ _ => ⟨rfl, rfl⟩) h
  unfold relaxR at k me
  refine sp_X10_relaxed
    (fun x2 x3 x4 I' L' P' => P' = P ∧ isP 2 x ∧ 2 ≤ W.1 0 0 ∧ x2 = nI (W.1 5 0) ∧ x3 = nI (W.1 6 0) ∧ (∀ c, c ≠ 144 → c ≠ 145 → (c < 152 ∨ 160 ≤ c) → I' c = I c) ∧ (∀ j, (j < 17 ∨ 17 < j ∧ j < 22 ∨ 25 < j) → I' 144 j = I 144 j) ∧ (∀ j, j < 84 → j ≠ 1 → j ≠ 2 → I' 145 j = I 145 j) ∧ (∀ c, c ≠ 154 → L' c = L c) ∧ ∃ t g, I' 145 1 = nI (t 5 0) ∧ I' 145 2 = nI (t 6 0) ∧ t 5 0 ≤ 4 ∧ t 6 0 ≤ 4 ∧ (∀ a b, a ≤ 4 → t a b = W.1 a b) ∧ ((x4 = 1 ∧ MC I' L' t ∧ easeR g t = easeR 8 W.1 ∧ t 5 0 + t 6 0 ≤ g) ∨ (x4 = 0 ∧ easeR 8 W.1 = none)))
    (fun _ _ x4 I' _ _ => x4.toNatClampNeg * 20 + (I' 145 1).toNatClampNeg + (I' 145 2).toNatClampNeg) (ok10_in (y := 0) (z := 1) rfl rfl ⟨fun c => ⟨by decide, ok10_areFew hP hg ⟨fun c2 => ?_, fun c2 => ?_⟩⟩, fun c => ?_⟩) ?_
  · have c := b01_n0.mp c
    have c2 := b01_0.mp c2
    rw [ti_0, ti_1] at c
    rw [g0, cl_1, cl_2, hg.2.2.1, hg.2.2.2.1]
    exact ⟨by decide, v145 1 (by decide), v145 2 (by decide), rfl, ⟨c.1, by omega⟩, by omega, rfl, rfl, fun _ _ _ _ => rfl, fun _ _ => rfl, fun _ _ _ _ => rfl, fun _ _ => rfl, W.1, 8, hg.2.2.1, hg.2.2.2.1, w5, w6, fun _ _ _ => rfl, Or.inl ⟨rfl, hC, rfl, by omega⟩⟩
  · have c := b01_n0.mp c
    have c2 := b01_n0.mp c2
    rw [ti_0, ti_1] at c
    rw [if_pos ⟨c.1, by omega⟩, if_neg (by omega)] at me
    exact me hM
  · have c := b01_0.mp c
    rw [ti_0, ti_1] at c
    rw [if_neg (fun q => by have := q.1; have := q.2; omega)] at me
    exact me hM
  · rintro x2 x3 x4 I1 L1 P1 ⟨rfl, hx, hn2, rfl, rfl, hF, hV, hV5, hL, t, g, t1, t2, b5, b6, tl, hc⟩
    rw [if_pos hx, if_pos hn2] at k
    have hGt : GE (I1 145) t := GE_lv hg tl hV5 t1 t2
    have wt : WE t := WE_lv we tl b5 b6
    -- back to what it was
    have restore : ∀ (I2 I6 I7 I8 : qMI) (L2 : qML), (∀ c, c ≠ 144 → c ≠ 145 → (c < 152 ∨ 160 ≤ c) → I2 c = I c) → (∀ j, (j < 17 ∨ 17 < j ∧ j < 22 ∨ 25 < j) → I2 144 j = I 144 j) → (∀ j, j < 84 → j ≠ 1 → j ≠ 2 → I2 145 j = I 145 j) → (∀ c, c ≠ 154 → L2 c = L c) → I6 = uI I2 145 1 (nI (W.1 5 0)) → I7 = uI I6 145 2 (nI (W.1 6 0)) → I8 = uI I7 144 17 0 → FR I I8 L L2 ∧ MR I8 L2 W := by
      intro I2 I6 I7 I8 L2 h1 h2 h3 h4 e6 e7 e8
      have f8 : ∀ c, c ≠ 144 → c ≠ 145 → I8 c = I2 c := fun c q1 q2 => by rw [e8, uI_ne c q1, e7, uI_ne c q2, e6, uI_ne c q2]
      have j8 : ∀ j, j ≠ 17 → I8 144 j = I2 144 j := fun j q => by
        rw [e8]; exact (if_neg (fun z => q z.2)).trans (by rw [e7, uI_ne 144 (by decide), e6, uI_ne 144 (by decide)])
      have v8 : ∀ j, j < 84 → I8 145 j = I 145 j := fun j hj => by
        rw [e8, uI_ne 145 (by decide), e7, e6]
        show (if 145 = 145 ∧ j = 2 then _ else if 145 = 145 ∧ j = 1 then _ else I2 145 j) = _
        by_cases z : j = 2
        · subst z; rw [if_pos ⟨rfl, rfl⟩]; exact hg.2.2.2.1.symm
        · rw [if_neg (fun q => z q.2)]
          by_cases z1 : j = 1
          · subst z1; rw [if_pos ⟨rfl, rfl⟩]; exact hg.2.2.1.symm
          · rw [if_neg (fun q => z1 q.2)]; exact h3 j hj z1 z
      refine ⟨fun r hr => ⟨by rw [f8 r (by omega) (by omega)]; exact h1 r (by omega) (by omega) (by omega), h4 r (by omega)⟩, hG.congr fun q hq => v8 q hq, hH.congr (by rw [j8 4 (by decide)]; exact h2 4 (by omega)) (by rw [j8 5 (by decide)]; exact h2 5 (by omega)) (by rw [f8 147 (by decide) (by decide)]; exact h1 147 (by decide) (by decide) (by decide)) (by rw [f8 148 (by decide) (by decide)]; exact h1 148 (by decide) (by decide) (by decide)), hI.congr (by rw [j8 6 (by decide)]; exact h2 6 (by omega)) (by rw [f8 146 (by decide) (by decide)]; exact h1 146 (by decide) (by decide) (by decide)), hT.congr (by rw [j8 10 (by decide)]; exact h2 10 (by omega)) (by rw [f8 149 (by decide) (by decide)]; exact h1 149 (by decide) (by decide) (by decide)), Or.inl (by rw [e8]; exact if_pos ⟨rfl, rfl⟩)⟩
    have e01 : (1 : Int32) ≠ 0 := by decide
    refine ⟨fun c => ⟨by decide, ?_⟩, fun c => ⟨by decide, ?_⟩⟩
    · rcases hc with ⟨q, -⟩ | ⟨q, hnone⟩
      · exact absurd c (by rw [q]; exact e01)
      · subst q
        rw [g0, cl_1, cl_2]
        refine ⟨by decide, v145 1 (by decide), v145 2 (by decide), fun I6 e6 I7 e7 I8 e8 => ⟨fun _ => ⟨fun _ => ?_, fun q => absurd rfl q⟩, fun q => absurd rfl q⟩⟩
        obtain ⟨a1, a2⟩ := restore I1 I6 I7 I8 L1 hF hV hV5 hL e6 e7 e8
        rw [hnone] at k
        exact k I8 L1 a1 a2
    · rcases hc with ⟨q, hC1, he, hg9⟩ | ⟨q, -⟩
      · subst q
        refine ok10_all hP hGt wt hC1 fun I27 L28 f27 j27 l27 h17 hR => ?_
        have v27 : I27 145 = I1 145 := f27 145 (by decide) (by decide)
        have u1 : I27 145 1 = nI (t 5 0) := by rw [v27]; exact t1
        have u2 : I27 145 2 = nI (t 6 0) := by rw [v27]; exact t2
        have hF27 : ∀ c, c ≠ 144 → c ≠ 145 → (c < 152 ∨ 160 ≤ c) → I27 c = I c := fun c q1 q2 q3 => by rw [f27 c q1 q3]; exact hF c q1 q2 q3
        have hV27 : ∀ j, (j < 17 ∨ 17 < j ∧ j < 22 ∨ 25 < j) → I27 144 j = I 144 j := fun j hj => by rw [j27 j hj]; exact hV j hj
        have hW27 : ∀ j, j < 84 → j ≠ 1 → j ≠ 2 → I27 145 j = I 145 j := fun j q1 q2 q3 => by rw [v27]; exact hV5 j q1 q2 q3
        have hL27 : ∀ c, c ≠ 154 → L28 c = L c := fun c q => by rw [l27 c q]; exact hL c q
        have hal := allS_le (s := t) hGt.1
        have e0 : lN (allS t) = 0 ↔ allS t = 0 := pk_lEQ (b := 0) (by omega) (by decide)
        have q5 : nI (t 5 0) ≤ 0 ↔ t 5 0 ≤ 0 := nI_leI (b := 0) (by omega) (by decide)
        have q6 : nI (t 6 0) ≤ 0 ↔ t 6 0 ≤ 0 := nI_leI (b := 0) (by omega) (by decide)
        rw [g0, cl_1, cl_2, u1, u2]
        refine ⟨fun c2 => ⟨by decide, v145 1 (by decide), v145 2 (by decide), fun I34 e34 I35 e35 I36 e36 => ⟨fun q => absurd q e01, fun _ => ⟨fun c3 => ⟨fun q => absurd q e01, fun _ => ?_⟩, fun c3 => ?_⟩⟩⟩, fun c2 => ⟨by decide, v145 2 (by decide), fun c3 => ⟨v145 1 (by decide), fun c4 I58 e58 I59 e59 => ?_, fun c4 I60 e60 I61 e61 => ?_⟩, fun c3 => ⟨fun q => absurd q c3, fun _ I65 e65 I66 e66 => ?_⟩⟩⟩
        · have c2 : allS t ≠ 0 := fun q => c2 (e0.mpr q)
          obtain ⟨a1, a2⟩ := restore I27 I34 I35 I36 L28 hF27 hV27 hW27 hL27 e34 e35 e36
          have hs : easeR 8 W.1 = some t := by
            rw [← he]
            cases g with
            | zero => unfold easeR; exact if_pos c2
            | succ g => unfold easeR; exact if_pos c2
          rw [hs] at k
          have k : ∀ I' L', FR I I' L L' → MR I' L' (if x = 1 then remW W (dropS (lvS W.1 (t 5 0) (t 6 0))) else W) → f (nI (10 * t 5 0 + t 6 0)) I' L' P1 := k
          rw [if_neg c3] at k
          exact kI (k I36 L28 a1 a2) (by rw [show (10 : Int32) = nI 10 from rfl, pk_mul, nI_add])
        · have c2 : allS t ≠ 0 := fun q => c2 (e0.mpr q)
          obtain ⟨a1, a2⟩ := restore I27 I34 I35 I36 L28 hF27 hV27 hW27 hL27 e34 e35 e36
          have hs : easeR 8 W.1 = some t := by
            rw [← he]
            cases g with
            | zero => unfold easeR; exact if_pos c2
            | succ g => unfold easeR; exact if_pos c2
          rw [hs] at k
          have k : ∀ I' L', FR I I' L L' → MR I' L' (if x = 1 then remW W (dropS (lvS W.1 (t 5 0) (t 6 0))) else W) → f (nI (10 * t 5 0 + t 6 0)) I' L' P1 := k
          rw [if_pos c3] at k
          obtain ⟨G36, H36, X36, T36, C36⟩ := id a2
          refine ok10_changes hP a2 hO fun I41 f41 j41 h41 => ?_
          rw [g0]
          refine ⟨by decide, v145 1 (by decide), fun I46 e46 => ⟨v145 2 (by decide), fun I48 e48 => ?_⟩⟩
          have v41 : I41 145 = I36 145 := f41 145 (by decide) (by decide)
          have f48 : ∀ c, c ≠ 145 → I48 c = I41 c := fun c q => by rw [e48, uI_ne c q, e46, uI_ne c q]
          have l5 : lvS W.1 (t 5 0) (t 6 0) 5 0 = t 5 0 := by unfold lvS; rw [up_ne (by decide)]; exact up_at _ _ _ _
          have l6 : lvS W.1 (t 5 0) (t 6 0) 6 0 = t 6 0 := up_at _ _ _ _
          have hG48 : GE (I48 145) (lvS W.1 (t 5 0) (t 6 0)) := by
            refine GE_lv G36.1 (fun a b hab => by unfold lvS; rw [up_ne (by omega), up_ne (by omega)]) (fun j q1 q2 q3 => ?_) ?_ ?_
            · rw [e48, e46, ← v41]
              exact (if_neg (fun z => q3 z.2)).trans (if_neg (fun z => q2 z.2))
            · rw [l5, e48, e46]; exact (if_neg (by decide)).trans (if_pos ⟨rfl, rfl⟩)
            · rw [l6, e48]; exact if_pos ⟨rfl, rfl⟩
          refine ok10_noDraw hP hG48 fun I49 f49 j49 h49 G49 => ⟨fun q => absurd q e01, fun _ => kI (k I49 L28 (fun r hr => ⟨by rw [f49 r (by omega) (by omega), f48 r (by omega), f41 r (by omega) (by omega), (a1 r hr).1], (a1 r hr).2⟩) ⟨G49, (h41 _).congr (by rw [j49 4 (by decide), f48 144 (by decide)]) (by rw [j49 5 (by decide), f48 144 (by decide)]) (by rw [f49 147 (by decide) (by decide), f48 147 (by decide)]) (by rw [f49 148 (by decide) (by decide), f48 148 (by decide)]), X36.congr (by rw [j49 6 (by decide), f48 144 (by decide), j41 6 (by decide) (by decide)]) (by rw [f49 146 (by decide) (by decide), f48 146 (by decide), f41 146 (by decide) (by decide)]), T36.congr (by rw [j49 10 (by decide), f48 144 (by decide), j41 10 (by decide) (by decide)]) (by rw [f49 149 (by decide) (by decide), f48 149 (by decide), f41 149 (by decide) (by decide)]), Or.inl h49⟩) (by rw [show (10 : Int32) = nI 10 from rfl, pk_mul, nI_add])⟩
        · have c2 := e0.mp c2
          have c3 := q6.mp c3
          have c4 := q5.mp c4
          have hnone : easeR 8 W.1 = none := by
            rw [← he]
            cases g with
            | zero => unfold easeR; exact if_neg (fun q => q c2)
            | succ g => unfold easeR; rw [if_neg (fun q => q c2), if_neg (by omega), if_neg (by omega)]
          rw [show nI (t 5 0) - 0 = nI (t 5 0) from pk_sub (b := 0) (Nat.zero_le _)] at e58
          have f59 : ∀ c, c ≠ 144 → c ≠ 145 → I59 c = I27 c := fun c q1 q2 => by rw [e59, uI_ne c q1, e58, uI_ne c q2]
          have v59 : ∀ j, I59 145 j = I27 145 j := fun j => by
            rw [e59, uI_ne 145 (by decide), e58]
            show (if 145 = 145 ∧ j = 1 then _ else I27 145 j) = _
            by_cases z : j = 1
            · subst z; rw [if_pos ⟨rfl, rfl⟩]; exact u1.symm
            · rw [if_neg (fun q => z q.2)]
          refine ⟨⟨rfl, hx, hn2, rfl, rfl, fun c q1 q2 q3 => by rw [f59 c q1 q2]; exact hF27 c q1 q2 q3, fun j hj => ?_, fun j q1 q2 q3 => by rw [v59]; exact hW27 j q1 q2 q3, hL27, t, g, by rw [v59]; exact u1, by rw [v59]; exact u2, b5, b6, tl, Or.inr ⟨rfl, hnone⟩⟩, ?_⟩
          · rw [e59]; exact (if_neg (by omega)).trans (by rw [e58, uI_ne 144 (by decide)]; exact hV27 j hj)
          · rw [v59, v59, v27, cl_0]; omega
        · have c2 := e0.mp c2
          have c3 := q6.mp c3
          have c4 : ¬ t 5 0 ≤ 0 := fun q => c4 (q5.mpr q)
          obtain ⟨g', rfl⟩ : ∃ g', g = g' + 1 := ⟨g - 1, by omega⟩
          have he2 : easeR g' (up t 5 0 (t 5 0 - 1)) = easeR 8 W.1 := by
            rw [← he]
            show _ = (if allS t ≠ 0 then some t else _)
            rw [if_neg (fun q => q c2), if_neg (by omega), if_pos (by omega)]
          rw [show nI (t 5 0) - 1 = nI (t 5 0 - 1) from pk_sub (b := 1) (by omega)] at e60
          have f61 : ∀ c, c ≠ 144 → c ≠ 145 → I61 c = I27 c := fun c q1 q2 => by rw [e61, uI_ne c q1, e60, uI_ne c q2]
          have v61 : ∀ j, I61 145 j = if j = 1 then nI (t 5 0 - 1) else I27 145 j := fun j => by
            rw [e61, uI_ne 145 (by decide), e60]; simp [uI]
          refine ⟨⟨rfl, hx, hn2, rfl, rfl, fun c q1 q2 q3 => by rw [f61 c q1 q2]; exact hF27 c q1 q2 q3, fun j hj => ?_, fun j q1 q2 q3 => by rw [v61, if_neg q2]; exact hW27 j q1 q2 q3, hL27, up t 5 0 (t 5 0 - 1), g', by rw [v61, if_pos rfl, up_at], by rw [v61, if_neg (by decide), up_ne (by decide)]; exact u2, by rw [up_at]; omega, by rw [up_ne (by decide)]; exact b6, fun a b hab => by rw [up_ne (by omega)]; exact tl a b hab, Or.inl ⟨rfl, Or.inl (by rw [e61]; exact if_pos ⟨rfl, rfl⟩), he2, by rw [up_at, up_ne (by decide)]; omega⟩⟩, ?_⟩
          · rw [e61]; exact (if_neg (by omega)).trans (by rw [e60, uI_ne 144 (by decide)]; exact hV27 j hj)
          · rw [v61, v61, if_pos rfl, if_neg (by decide), u2, t1, t2, cl_1, clN (by omega), clN (by omega), clN (by omega)]; omega
        · have c2 := e0.mp c2
          have c3 : ¬ t 6 0 ≤ 0 := fun q => c3 (q6.mpr q)
          obtain ⟨g', rfl⟩ : ∃ g', g = g' + 1 := ⟨g - 1, by omega⟩
          have he2 : easeR g' (up t 6 0 (t 6 0 - 1)) = easeR 8 W.1 := by
            rw [← he]
            show _ = (if allS t ≠ 0 then some t else _)
            rw [if_neg (fun q => q c2), if_pos (by omega)]
          rw [show nI (t 6 0) - 1 = nI (t 6 0 - 1) from pk_sub (b := 1) (by omega)] at e65
          have f66 : ∀ c, c ≠ 144 → c ≠ 145 → I66 c = I27 c := fun c q1 q2 => by rw [e66, uI_ne c q1, e65, uI_ne c q2]
          have v66 : ∀ j, I66 145 j = if j = 2 then nI (t 6 0 - 1) else I27 145 j := fun j => by
            rw [e66, uI_ne 145 (by decide), e65]; simp [uI]
          refine ⟨⟨rfl, hx, hn2, rfl, rfl, fun c q1 q2 q3 => by rw [f66 c q1 q2]; exact hF27 c q1 q2 q3, fun j hj => ?_, fun j q1 q2 q3 => by rw [v66, if_neg q3]; exact hW27 j q1 q2 q3, hL27, up t 6 0 (t 6 0 - 1), g', by rw [v66, if_neg (by decide), up_ne (by decide)]; exact u1, by rw [v66, if_pos rfl, up_at], by rw [up_ne (by decide)]; exact b5, by rw [up_at]; omega, fun a b hab => by rw [up_ne (by omega)]; exact tl a b hab, Or.inl ⟨rfl, Or.inl (by rw [e66]; exact if_pos ⟨rfl, rfl⟩), he2, by rw [up_at, up_ne (by decide)]; omega⟩⟩, ?_⟩
          · rw [e66]; exact (if_neg (by omega)).trans (by rw [e65, uI_ne 144 (by decide)]; exact hV27 j hj)
          · rw [v66, v66, if_pos rfl, if_neg (by decide), u1, t1, t2, cl_1, clN (by omega), clN (by omega), clN (by omega)]; omega
      · exact absurd q c
end RZ
