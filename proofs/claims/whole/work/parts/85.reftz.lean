section RZ9
variable {d : Nat} {I : qMI} {L : qML} {P : qMP} {W : Wd} {s t : Sit}
theorem GE_cg2 {v : Nat → Int32} (h : GE v s) (q0 : t 0 0 = s 0 0) (q5 : t 5 0 = s 5 0) (q6 : t 6 0 = s 6 0) (q : ∀ p w, p < s 0 0 → w < 4 → t (1 + w) p = s (1 + w) p) : GE v t := by
  obtain ⟨hn, a, b, c, g⟩ := h
  unfold GE
  rw [q0, q5, q6]
  exact ⟨hn, a, b, c, fun p w h1 h2 => by rw [q p w h1 h2]; exact g p w h1 h2⟩
theorem TO.add {I' : qMI} {m : Nat} {v : Nat → Nat} (h : TO I s t m) (h1 : ∀ j, j < 4 * m → I' 150 j = I 150 j) (h2 : ∀ x, x < 4 → I' 150 (4 * m + x) = nI (v x)) : TO I' s (addS t (v 0) (v 1) (v 2) (v 3)) (m + 1) := by
  obtain ⟨t0, t5, t6, tp, tm⟩ := h
  obtain ⟨q0, q5, q6, qp, qa, qb, qg, qt⟩ := addS_e (s := t) (a := v 0) (b := v 1) (c := v 2) (g := v 3)
  have old : ∀ p x, p ≠ t 0 0 → x < 4 → addS t (v 0) (v 1) (v 2) (v 3) (1 + x) p = t (1 + x) p := fun p x hp hx => by
    obtain ⟨z1, z2, z3, z4⟩ := qp p hp
    have : x = 0 ∨ x = 1 ∨ x = 2 ∨ x = 3 := by omega
    rcases this with rfl | rfl | rfl | rfl
    · exact z1
    · exact z2
    · exact z3
    · exact z4
  refine ⟨by rw [q0, t0]; omega, by rw [q5]; exact t5, by rw [q6]; exact t6, fun p x hp hx => by rw [old p x (by omega) hx]; exact tp p x hp hx, fun j x hj hx => ?_⟩
  by_cases z : j = m
  · subst z
    rw [h2 x hx, ← t0]
    have : x = 0 ∨ x = 1 ∨ x = 2 ∨ x = 3 := by omega
    rcases this with rfl | rfl | rfl | rfl
    · exact congrArg nI qa.symm
    · exact congrArg nI qb.symm
    · exact congrArg nI qg.symm
    · exact congrArg nI qt.symm
  · rw [h1 _ (by omega), old _ x (by omega) hx]
    exact tm j x (by omega) hx
theorem addS_WE {a b c g : Nat} (w : WE t) (hn : t 0 0 < 10) (ha : a ≤ 5) (hb : b ≤ 3) (hc : c ≤ 8) (hg : g ≤ 99) (hz : 0 < c → ∀ q, q < t 0 0 → t 3 q ≠ c) : WE (addS t a b c g) := by
  obtain ⟨q0, q5, q6, qp, qa, qb, qg, qt⟩ := addS_e (s := t) (a := a) (b := b) (c := c) (g := g)
  obtain ⟨w1, w2, w3, w4, w5⟩ := w
  refine ⟨by rw [q0]; omega, by rw [q5]; exact w2, by rw [q6]; exact w3, fun p hp => ?_, fun p q hp hq hne he => ?_⟩
  · rw [q0] at hp
    by_cases z : p = t 0 0
    · subst z
      rw [qa, qb, qg, qt]; exact ⟨ha, hb, hc, hg⟩
    · obtain ⟨z1, z2, z3, z4⟩ := qp p z
      rw [z1, z2, z3, z4]; exact w4 p (by omega)
  · rw [q0] at hp hq
    by_cases z : p = t 0 0
    · subst z
      rw [qg] at he ⊢
      rw [(qp q (fun y => hne y.symm)).2.2.1] at he
      rcases Nat.eq_zero_or_pos c with y | y
      · exact y
      · exact absurd he.symm (hz y q (by omega))
    · rw [(qp p z).2.2.1] at he ⊢
      by_cases z2 : q = t 0 0
      · subst z2
        rw [qg] at he
        rcases Nat.eq_zero_or_pos c with y | y
        · omega
        · exact absurd he (hz y p (by omega))
      · rw [(qp q z2).2.2.1] at he
        exact w5 p q (by omega) (by omega) hne he
theorem ok10_players {f : Int32 → qMI → qML → qMP → Prop} (hP : LAY P) (hM : MR I L W) (hO : OKW W) (k : ∀ I' L', FR I I' L L' → MR I' L' (playersR W).2 → f (playersR W).1 I' L' P) : Sq (d + 5) mX10_players SH0 [.ref 144] I L P (KI f) := by
  obtain ⟨g0, g1, g2, g3, g4, g5, g6, -⟩ := ref_P hP
  obtain ⟨hG, hH, hI, hT, hC⟩ := id hM
  have hg := hG.1
  have hn := hg.1
  have we := hO.1.1
  obtain ⟨bt, len, hbl⟩ : ∃ bt len, W.2.2.2 = (bt, len) := ⟨W.2.2.2.1, W.2.2.2.2, rfl⟩
  have hlen : len ≤ 120 := by have := hO.2.2.2.2.2.1; rw [hbl] at this; exact this
  have hb : ∀ i, i < len → 32 ≤ bt i ∧ bt i ≤ 126 := by have := hO.2.2.2.2.2.2; rw [hbl] at this; exact this
  rw [hbl] at hT
  have epl : playersR W = (match (rdR bt len 11 0 W.1).1 with | some q => (-100 - nI q, (W.1, W.2.1, W.2.2.1, (bt, 0))) | none => (nI ((rdR bt len 11 0 W.1).2 0 0), forW (W.1, W.2.1, W.2.2.1, (bt, 0)) (dropS (rdR bt len 11 0 W.1).2))) := by
    unfold playersR
    rw [hbl]
    rfl
  rw [epl] at k
  -- the tape is empty
  have bad : ∀ (I1 : qMI) (q : Nat), (∀ r, r ≠ 144 → r ≠ 150 → r ≠ 151 → I1 r = I r) → (∀ j, j ≠ 10 → j ≠ 11 → j ≠ 12 → I1 144 j = I 144 j) → I1 144 10 = 0 → (rdR bt len 11 0 W.1).1 = some q → ∀ v : Int32, v = -100 - nI q → f v I1 L P := fun I1 q hF hV h10 hq v hv => by
    subst hv
    rw [hq] at k
    exact k I1 L (fun r hr => ⟨hF r (by omega) (by omega) (by omega), rfl⟩) ⟨by rw [hF 145 (by decide) (by decide) (by decide)]; exact hG, hH.congr (hV 4 (by decide) (by decide) (by decide)) (hV 5 (by decide) (by decide) (by decide)) (hF 147 (by decide) (by decide) (by decide)) (hF 148 (by decide) (by decide) (by decide)), hI.congr (hV 6 (by decide) (by decide) (by decide)) (hF 146 (by decide) (by decide) (by decide)), ⟨h10, fun i hi => absurd hi (Nat.not_lt_zero i)⟩, hC.congr (hV 17 (by decide) (by decide) (by decide)) rfl⟩
  refine sp_X10_players
    (fun x1 I' L' P' => L' = L ∧ P' = P ∧ (∀ r, r ≠ 144 → r ≠ 150 → r ≠ 151 → I' r = I r) ∧ (∀ j, j ≠ 11 → j ≠ 12 → I' 144 j = I 144 j) ∧ ∃ m t F q, x1 = nI m ∧ t 0 0 = W.1 0 0 + m ∧ 10 ≤ F + t 0 0 ∧ WE t ∧ q ≤ len ∧ rdR bt len 11 0 W.1 = rdR bt len (F + 1) q t ∧ (∃ I0 : qMI, (∀ j, j < 4 * m → I' 150 j = I0 150 j) ∧ TO I0 W.1 t m) ∧ (RPF I' bt len t q ∨ (RPN I' bt len t q ∧ ∀ x, x < 4 → I' 150 (4 * m + x) = nI ((pl0 bt len t q).2.2 x))))
    (fun x1 _ _ _ => 200 - x1.toNatClampNeg)
    (fun x1 x2 I' L' P' => L' = L ∧ P' = P ∧ (∀ r, r ≠ 144 → r ≠ 145 → r ≠ 150 → r ≠ 151 → I' r = I r) ∧ (∀ j, (j ≤ 3 ∨ 6 ≤ j ∧ j ≤ 9) → I' 144 j = I 144 j) ∧ I' 144 10 = 0 ∧ ∃ m o tf, x1 = nI m ∧ x2 = nI o ∧ o ≤ m + 1 ∧ rdR bt len 11 0 W.1 = (none, tf) ∧ WE tf ∧ TO I' W.1 tf (m + 1) ∧ ((o = 0 ∧ GE (I' 145) W.1) ∨ (1 ≤ o ∧ GS (I' 145) (dropS (up tf 0 0 (W.1 0 0 + o))) ∧ I' 144 4 = 0 ∧ I' 144 5 = 0 ∧ I' 144 17 = 0)))
    (fun _ x2 _ _ _ => 100 - x2.toNatClampNeg) ⟨by decide, fun I2 e2 I3 e3 => ?_⟩ ?_ ?_
  · have f3 : ∀ r, r ≠ 144 → I3 r = I r := fun r q => by rw [e3, uI_ne r q, e2, uI_ne r q]
    have v3 : ∀ j, j ≠ 11 → j ≠ 12 → I3 144 j = I 144 j := fun j q1 q2 => by
      rw [e3, e2]; exact (if_neg (fun z => q2 z.2)).trans (if_neg (fun z => q1 z.2))
    have hTO : TO I3 W.1 W.1 0 := ⟨rfl, rfl, rfl, fun _ _ _ _ => rfl, fun j x hj => absurd hj (Nat.not_lt_zero j)⟩
    refine ok10_readsPlayer (m := 0) (p := 0) hP (by rw [f3 145 (by decide)]; exact hg) (hT.congr (v3 10 (by decide) (by decide)) (f3 149 (by decide))) hlen hb hTO we (Nat.zero_le _) (by rw [e3, e2]; exact (if_neg (by decide)).trans (if_pos ⟨rfl, rfl⟩)) (by rw [e3]; exact if_pos ⟨rfl, rfl⟩) fun I4 f4 j4 w4 h4 => ⟨rfl, rfl, fun r q1 q2 q3 => by rw [f4 r q1 q2 q3, f3 r q1], fun j q1 q2 => by rw [j4 j q1 q2, v3 j q1 q2], 0, W.1, 10, 0, rfl, rfl, by omega, we, Nat.zero_le _, rfl, ⟨I3, w4, hTO⟩, h4⟩
  · rintro x1 I1 L1 P1 ⟨rfl, rfl, hF, hV, m, t, F, q, rfl, t0, hF9, wt, hq, hR, ⟨I0, hI0, hTO⟩, hc⟩
    have wt1 := wt.1
    have hT1 : MT I1 (bt, len) := hT.congr (hV 10 (by decide) (by decide)) (hF 149 (by decide) (by decide) (by decide))
    have i10 : I1 144 10 = nI len := hT1.1
    have z10 : ∀ I4 : qMI, I4 = uI I1 144 10 0 → (∀ r, r ≠ 144 → r ≠ 150 → r ≠ 151 → I4 r = I r) ∧ (∀ j, j ≠ 10 → j ≠ 11 → j ≠ 12 → I4 144 j = I 144 j) ∧ I4 144 10 = 0 ∧ I4 144 12 = I1 144 12 := fun I4 e4 => ⟨fun r q1 q2 q3 => by rw [e4, uI_ne r q1]; exact hF r q1 q2 q3, fun j q1 q2 q3 => by rw [e4]; exact (if_neg (fun z => q1 z.2)).trans (hV j q2 q3), by rw [e4]; exact if_pos ⟨rfl, rfl⟩, by rw [e4]; exact if_neg (by decide)⟩
    refine ⟨by decide, fun c => ⟨fun _ I4 e4 => ?_, fun c2 => absurd c c2⟩, fun c => ?_⟩
    · obtain ⟨z1, z2, z3, z4⟩ := z10 I4 e4
      rcases hc with ⟨q', h1, h2, h3⟩ | ⟨h, -⟩
      · rw [z4, h1]
        have hres : (rdR bt len 11 0 W.1).1 = some q' := by
          rw [hR]
          rcases h3 with ⟨y1, y2⟩ | ⟨y1, y2, y3⟩
          · rw [rdR_full y1, y2]
          · rw [rdR_bad (by omega) (by rw [y2]; decide), y3]
        exact ⟨fun c2 => absurd c2 (nI_pos (by omega)), fun _ => kI (bad I4 q' z1 z2 z3 hres _ rfl) (by rfl)⟩
      · rw [h.1] at c
        exact absurd c (by decide)
    · rcases hc with ⟨q', h1, h2, -⟩ | ⟨⟨h12, h11, h10, hb2⟩, hv⟩
      · rw [h1] at c
        exact absurd (nI_pos' (by omega)) c
      · obtain ⟨o1, o2⟩ := pl0_ok (bt := bt) (s := t) hq
        have b0 := (o2 0 (by decide)).1
        have b1 := (o2 1 (by decide)).1
        have b2 := (o2 2 (by decide)).1
        have b3 := (o2 3 (by decide)).1
        have b4 := (o2 2 (by decide)).2
        have wa := addS_WE wt h10 b0 b1 b2 b3 fun y p hp => b4 ⟨rfl, y⟩ p hp
        have hTO1 : TO I1 W.1 (addS t ((pl0 bt len t q).2.2 0) ((pl0 bt len t q).2.2 1) ((pl0 bt len t q).2.2 2) ((pl0 bt len t q).2.2 3)) (m + 1) := hTO.add hI0 hv
        have ea := (addS_e (s := t) (a := (pl0 bt len t q).2.2 0) (b := (pl0 bt len t q).2.2 1) (c := (pl0 bt len t q).2.2 2) (g := (pl0 bt len t q).2.2 3)).1
        obtain ⟨F0, rfl⟩ : ∃ F0, F = F0 + 1 := ⟨F - 1, by omega⟩
        refine ok10_here hP hT1 hlen h11 (by omega) ⟨fun c2 => ⟨fun c3 => absurd c3 c, fun _ => ?_⟩, fun c2 I26 e26 => ?_⟩
        · rw [i10, h11]
          have ne59 : (pl0 bt len t q).1 < len → bt (pl0 bt len t q).1 ≠ 59 := fun y1 y2 => c2 (by unfold ltr; rw [if_pos y1, y2]; rfl)
          refine ⟨fun c3 I7 e7 => ?_, fun c3 I9 e9 I10 e10 => ?_⟩
          · have c3 : len ≤ (pl0 bt len t q).1 := (nI_leI (by omega) (by omega)).mp c3
            obtain ⟨z1, z2, z3, z4⟩ := z10 I7 e7
            rw [z4, h12]
            have hbt : (pl0 bt len t q).2.1 = true := by
              rcases hb2 with ⟨y, -⟩ | ⟨-, y, -⟩
              · exact y
              · omega
            have hres := hR.trans (rdR_end (by omega) hbt (by omega))
            have f7 : ∀ r, r ≠ 144 → I7 r = I1 r := fun r q => by rw [e7, uI_ne r q]
            refine ⟨fun _ => ⟨⟨rfl, rfl, fun r q1 q2 q3 q4 => z1 r q1 q3 q4, fun j hj => z2 j (by omega) (by omega) (by omega), z3, m, 0, _, rfl, rfl, Nat.zero_le _, hres, wa, ?_, Or.inl ⟨rfl, by rw [z1 145 (by decide) (by decide) (by decide)]; exact hg⟩⟩, ?_⟩, fun q => absurd (by decide) q⟩
            · unfold TO at hTO1 ⊢
              rw [f7 150 (by decide)]; exact hTO1
            · rw [cl_0, clN (by omega)]; omega
          · have c3 : (pl0 bt len t q).1 < len := Nat.lt_of_not_le fun y => c3 (nI_le y (by omega))
            have hbt : (pl0 bt len t q).2.1 = false := by
              rcases hb2 with ⟨-, y⟩ | ⟨y, -⟩
              · exact absurd y (fun y => by rcases y with y | y; omega; exact ne59 c3 y)
              · exact y
            have i12 : I10 144 12 = nI (pl0 bt len t q).1 := by rw [e10, e9]; exact (if_neg (by decide)).trans (if_pos ⟨rfl, rfl⟩)
            rw [i12]
            have hres : (rdR bt len 11 0 W.1).1 = some (pl0 bt len t q).1 := by
              rw [hR, rdR_bad (by omega) (by rw [hbt]; decide)]
            refine ⟨fun y => absurd y (nI_pos (by omega)), fun _ => kI (bad I10 _ (fun r q1 q2 q3 => by rw [e10, uI_ne r q1, e9, uI_ne r q1]; exact hF r q1 q2 q3) (fun j q1 q2 q3 => ?_) (by rw [e10]; exact if_pos ⟨rfl, rfl⟩) hres _ rfl) rfl⟩
            rw [e10, e9]
            exact (if_neg (fun z => q1 z.2)).trans ((if_neg (fun z => q3 z.2)).trans (hV j q2 q3))
        · have c2 : ltr bt len (pl0 bt len t q).1 = nI 59 := c2
          have hlt : (pl0 bt len t q).1 < len ∧ bt (pl0 bt len t q).1 = 59 := by
            unfold ltr at c2
            by_cases y : (pl0 bt len t q).1 < len
            · have b := hb _ y
              rw [if_pos y] at c2
              exact ⟨y, nI_inj (by omega) (by decide) c2⟩
            · rw [if_neg y] at c2
              exact absurd c2.symm (m1ne (by decide))
          have hbt : (pl0 bt len t q).2.1 = true := by
            rcases hb2 with ⟨y, -⟩ | ⟨-, -, y⟩
            · exact y
            · exact absurd hlt.2 y
          have hres := hR.trans (rdR_more (by omega) hbt hlt.1)
          rw [h11, nI_1] at e26
          have f26 : ∀ r, r ≠ 144 → I26 r = I1 r := fun r q => by rw [e26, uI_ne r q]
          have v26 : ∀ j, j ≠ 11 → I26 144 j = I1 144 j := fun j q => by rw [e26]; exact if_neg (fun z => q z.2)
          rw [nI_1]
          have hTO26 : TO I26 W.1 (addS t ((pl0 bt len t q).2.2 0) ((pl0 bt len t q).2.2 1) ((pl0 bt len t q).2.2 2) ((pl0 bt len t q).2.2 3)) (m + 1) := by
            unfold TO at hTO1 ⊢
            rw [f26 150 (by decide)]; exact hTO1
          refine ok10_readsPlayer (m := m + 1) (p := (pl0 bt len t q).1 + 1) hP (by rw [f26 145 (by decide), hF 145 (by decide) (by decide) (by decide)]; exact hg) (hT1.congr (v26 10 (by decide)) (f26 149 (by decide))) hlen hb hTO26 wa (by omega) (by rw [e26]; exact if_pos ⟨rfl, rfl⟩) (by rw [v26 12 (by decide)]; exact h12) fun I27 f27 j27 w27 h27 => ⟨⟨rfl, rfl, fun r q1 q2 q3 => by rw [f27 r q1 q2 q3, f26 r q1]; exact hF r q1 q2 q3, fun j q1 q2 => by rw [j27 j q1 q2, v26 j q1]; exact hV j q1 q2, m + 1, _, F0, (pl0 bt len t q).1 + 1, rfl, by rw [ea, t0]; omega, by rw [ea]; omega, wa, by omega, hres, ⟨I26, w27, hTO26⟩, h27⟩, ?_⟩
          rw [clN (by omega), clN (by omega)]; omega
  · rintro x1 x2 I1 L1 P1 ⟨rfl, rfl, hF, hV, h10, m, o, tf, rfl, rfl, ho, hres, wf, hTO, hc⟩
    have wf1 := wf.1
    obtain ⟨t0, t5, t6, tp, tm⟩ := id hTO
    refine ⟨fun c => ⟨by decide, ?_⟩, fun c => ⟨by decide, ?_⟩⟩
    · have c := (nI_ltI (by omega) (by omega)).mp c
      have : o = m + 1 := by omega
      subst this
      rcases hc with ⟨q, -⟩ | ⟨-, hGS, z4, z5, z17⟩
      · omega
      · have eup : up tf 0 0 (W.1 0 0 + (m + 1)) = tf := by
          funext x y
          unfold up
          by_cases z : x = 0 ∧ y = 0
          · rw [if_pos z, z.1, z.2, t0]
          · rw [if_neg z]
        rw [eup] at hGS
        rw [hres] at k
        have kk := k I1 L1 (fun r hr => ⟨hF r (by omega) (by omega) (by omega) (by omega), rfl⟩) ⟨hGS, ⟨z4, z5, fun i hi => absurd hi (Nat.not_lt_zero i), fun i hi => absurd hi (Nat.not_lt_zero i)⟩, hI.congr (hV 6 (by omega)) (hF 146 (by decide) (by decide) (by decide) (by decide)), ⟨h10, fun i hi => absurd hi (Nat.not_lt_zero i)⟩, Or.inl z17⟩
        rw [g0, cl_0, hGS.1.2.1, dropS_lo _ _ _ (by decide)]
        exact ⟨by decide, v145 0 (by decide), kk⟩
    · have c : o ≤ m := Nat.le_of_not_lt fun q => c (nI_lt q (by omega))
      have hGE : GE (I1 145) (up tf 0 0 (W.1 0 0 + o)) := by
        rcases hc with ⟨q, hge⟩ | ⟨-, hGS, -⟩
        · subst q
          exact GE_cg2 hge (by rw [up_at]; rfl) (by rw [up_ne (by decide)]; exact t5) (by rw [up_ne (by decide)]; exact t6) fun p w hp hw => by rw [up_ne (by omega)]; exact tp p w hp hw
        · exact GE_cg hGS.1 fun x y hx => (dropS_lo _ x y hx).symm
      have e0 : up tf 0 0 (W.1 0 0 + o) 0 0 = W.1 0 0 + o := up_at _ _ _ _
      rw [g5, show (4 : Int32) * nI o = nI (4 * o) from pk_mul 4 o, show nI (4 * o) + 1 = nI (4 * o + 1) from nI_1 _, show nI (4 * o) + 2 = nI (4 * o + 2) from nI_add _ 2, show nI (4 * o) + 3 = nI (4 * o + 3) from nI_add _ 3, nI_1, clN (p := 4 * o) (by omega), clN (p := 4 * o + 1) (by omega), clN (p := 4 * o + 2) (by omega), clN (p := 4 * o + 3) (by omega)]
      rw [show I1 150 (4 * o) = nI (tf 1 (W.1 0 0 + o)) from tm o 0 (by omega) (by decide), show I1 150 (4 * o + 1) = nI (tf 2 (W.1 0 0 + o)) from tm o 1 (by omega) (by decide), show I1 150 (4 * o + 2) = nI (tf 3 (W.1 0 0 + o)) from tm o 2 (by omega) (by decide), show I1 150 (4 * o + 3) = nI (tf 4 (W.1 0 0 + o)) from tm o 3 (by omega) (by decide)]
      refine ⟨by decide, vin _ rfl (show 4 * o < 40 by omega) (by decide), vin _ rfl (show 4 * o + 1 < 40 by omega) (by decide), vin _ rfl (show 4 * o + 2 < 40 by omega) (by decide), vin _ rfl (show 4 * o + 3 < 40 by omega) (by decide), ok10_comes hP hGE (by rw [e0]; omega) fun I11 f11 j11 h4 h5 h17 G11 => ⟨⟨rfl, rfl, fun r q1 q2 q3 q4 => by rw [f11 r q2 q1]; exact hF r q1 q2 q3 q4, fun j hj => by rw [j11 j (by omega) (by omega) (by omega)]; exact hV j hj, by rw [j11 10 (by decide) (by decide) (by decide)]; exact h10, m, o + 1, tf, rfl, rfl, by omega, hres, wf, ?_, Or.inr ⟨by omega, ?_, h4, h5, h17⟩⟩, ?_⟩⟩
      · unfold TO at hTO ⊢
        rw [f11 150 (by decide) (by decide)]; exact hTO
      · have ef : dropS (addS (up tf 0 0 (W.1 0 0 + o)) (tf 1 (W.1 0 0 + o)) (tf 2 (W.1 0 0 + o)) (tf 3 (W.1 0 0 + o)) (tf 4 (W.1 0 0 + o))) = dropS (up tf 0 0 (W.1 0 0 + (o + 1))) := by
          congr 1
          funext x y
          unfold addS
          rw [e0]
          unfold up
          by_cases y4 : x = 4 ∧ y = W.1 0 0 + o
          · obtain ⟨rfl, rfl⟩ := y4
            rw [if_pos ⟨rfl, rfl⟩, if_neg (by omega)]
          · rw [if_neg y4]
            by_cases y3 : x = 3 ∧ y = W.1 0 0 + o
            · obtain ⟨rfl, rfl⟩ := y3
              rw [if_pos ⟨rfl, rfl⟩, if_neg (by omega)]
            · rw [if_neg y3]
              by_cases y2 : x = 2 ∧ y = W.1 0 0 + o
              · obtain ⟨rfl, rfl⟩ := y2
                rw [if_pos ⟨rfl, rfl⟩, if_neg (by omega)]
              · rw [if_neg y2]
                by_cases y1 : x = 1 ∧ y = W.1 0 0 + o
                · obtain ⟨rfl, rfl⟩ := y1
                  rw [if_pos ⟨rfl, rfl⟩, if_neg (by omega)]
                · rw [if_neg y1]
                  by_cases y0 : x = 0 ∧ y = 0
                  · rw [if_pos y0, if_pos y0]; rfl
                  · rw [if_neg y0, if_neg y0, if_neg y0]
        rw [ef] at G11
        exact G11
      · rw [clN (by omega), clN (by omega)]; omega
end RZ9
