/-! ===== levels lowered till there is a draw ===== -/
def lvS (s : Sit) (a b : Nat) : Sit := up (up s 5 0 a) 6 0 b
theorem easeR_same : ∀ f (s t : Sit), SameD s t → (easeR f s = none ∧ easeR f t = none) ∨ ∃ a b, easeR f s = some a ∧ easeR f t = some b ∧ SameD a b
  | 0, s, t, h => by
    have e := (all_sameD h).1
    unfold easeR
    by_cases c : allS s ≠ 0
    · rw [if_pos c, if_pos (by rw [← e]; exact c)]
      exact Or.inr ⟨s, t, rfl, rfl, h⟩
    · rw [if_neg c, if_neg (show ¬ allS t ≠ 0 by rw [← e]; exact c)]
      exact Or.inl ⟨rfl, rfl⟩
  | f + 1, s, t, h => by
    have e := (all_sameD h).1
    have h5 := h.2.1
    have h6 := h.2.2.1
    unfold easeR
    by_cases c : allS s ≠ 0
    · rw [if_pos c, if_pos (by rw [← e]; exact c)]
      exact Or.inr ⟨s, t, rfl, rfl, h⟩
    · rw [if_neg c, if_neg (show ¬ allS t ≠ 0 by rw [← e]; exact c), ← h6, ← h5]
      by_cases c6 : 0 < s 6 0
      · rw [if_pos c6, if_pos c6]
        refine easeR_same f _ _ ⟨?_, ?_, ?_, fun p hp => ?_⟩
        · rw [up_ne (by decide), up_ne (by decide)]; exact h.1
        · rw [up_ne (by decide), up_ne (by decide)]; exact h5
        · rw [up_at, up_at]
        · rw [up_ne (by decide)] at hp
          rw [up_ne (by omega), up_ne (by omega), up_ne (by omega), up_ne (by omega), up_ne (by omega), up_ne (by omega)]
          exact h.2.2.2 p hp
      · rw [if_neg c6, if_neg c6]
        by_cases c5 : 0 < s 5 0
        · rw [if_pos c5, if_pos c5]
          refine easeR_same f _ _ ⟨?_, ?_, ?_, fun p hp => ?_⟩
          · rw [up_ne (by decide), up_ne (by decide)]; exact h.1
          · rw [up_at, up_at]
          · rw [up_ne (by decide), up_ne (by decide)]; exact h6
          · rw [up_ne (by decide)] at hp
            rw [up_ne (by omega), up_ne (by omega), up_ne (by omega), up_ne (by omega), up_ne (by omega), up_ne (by omega)]
            exact h.2.2.2 p hp
        · rw [if_neg c5, if_neg c5]
          exact Or.inl ⟨rfl, rfl⟩
theorem easeV_same {s t : Sit} (h : SameD s t) : easeV s = easeV t := by
  unfold easeV
  rcases easeR_same 8 s t h with ⟨h1, h2⟩ | ⟨a, b, h1, h2, h3⟩
  · rw [h1, h2]
  · rw [h1, h2]
    show nI _ = nI _
    rw [h3.2.1, h3.2.2.1]
/-- what it gives -/
theorem easeR_ok : ∀ f (s : Sit), s 5 0 ≤ 4 → s 6 0 ≤ 4 → ∀ t, easeR f s = some t → t 5 0 ≤ s 5 0 ∧ t 6 0 ≤ s 6 0 ∧ allS t ≠ 0
  | 0, s, _, _, t, h => by
    unfold easeR at h
    by_cases c : allS s ≠ 0
    · rw [if_pos c] at h
      cases h
      exact ⟨Nat.le_refl _, Nat.le_refl _, c⟩
    · rw [if_neg c] at h; cases h
  | f + 1, s, h5, h6, t, h => by
    unfold easeR at h
    by_cases c : allS s ≠ 0
    · rw [if_pos c] at h
      cases h
      exact ⟨Nat.le_refl _, Nat.le_refl _, c⟩
    · rw [if_neg c] at h
      by_cases c6 : 0 < s 6 0
      · rw [if_pos c6] at h
        have a5 : up s 6 0 (s 6 0 - 1) 5 0 = s 5 0 := up_ne (by decide)
        have a6 : up s 6 0 (s 6 0 - 1) 6 0 = s 6 0 - 1 := up_at _ _ _ _
        have := easeR_ok f (up s 6 0 (s 6 0 - 1)) (by rw [a5]; exact h5) (by rw [a6]; omega) t h
        rw [a5, a6] at this
        exact ⟨this.1, by omega, this.2.2⟩
      · rw [if_neg c6] at h
        by_cases c5 : 0 < s 5 0
        · rw [if_pos c5] at h
          have a5 : up s 5 0 (s 5 0 - 1) 5 0 = s 5 0 - 1 := up_at _ _ _ _
          have a6 : up s 5 0 (s 5 0 - 1) 6 0 = s 6 0 := up_ne (by decide)
          have := easeR_ok f (up s 5 0 (s 5 0 - 1)) (by rw [a5]; omega) (by rw [a6]; exact h6) t h
          rw [a5, a6] at this
          exact ⟨by omega, this.2.1, this.2.2⟩
        · rw [if_neg c5] at h; cases h
noncomputable def relaxR (W : Wd) (x : Int32) : Int32 × Wd := if isP 2 x then (if 2 ≤ W.1 0 0 then (match easeR 8 W.1 with
  | none => (-2, W)
  | some t => (nI (10 * t 5 0 + t 6 0), if x = 1 then remW W (dropS (lvS W.1 (t 5 0) (t 6 0))) else W)) else (-5, W)) else (-1, W)
def rlxT (d : Nat) (K : Option Value → qMI → qML → qMP → Prop) (x1 : Int32) (I8 : qMI) (L9 : qML) (P : qMP) : Prop :=
  (((I8 1 10) = ((-2))) → (K (some (.int (I8 1 10))) I8 L9 P)) ∧ ((¬ (I8 1 10) = ((-2))) → (((¬ x1 = 1) → (K (some (.int (I8 1 10))) I8 L9 P)) ∧ ((x1 = 1) → (((shp SH0 (P 1 0)).1 = 6) ∧ (((shp SH0 (P (P 1 0) 0)).1 = 2) ∧ (∀ I17 : qMI, I17 = uI I8 (P (P 1 0) 0) 1 ((I8 1 10) / 10) → (∀ I18 : qMI, I18 = uI I17 (P (P 1 0) 0) 2 ((I17 1 10) - (I17 1 10) / 10 * 10) → (((shp SH0 (P (P 1 0) 1)).1 = 1) ∧ (Sq d mX1_drop SH0 [.ref (P (P 1 0) 1)] I18 L9 P (KV fun I20 L21 P22 => ((shp SH0 (P22 1 2)).1 = 3) ∧ (Sq d mX3_remember SH0 [.ref (P22 1 2), .ref (P22 1 0)] I20 L21 P22 (KV fun I24 L25 P26 => K (some (.int (I24 1 10))) I24 L25 P26))))))))))))
section RX
variable {d : Nat} {J : qMI} {M : qML} {I : qMI} {L : qML} {P : qMP} {W : Wd} {s : Sit}
theorem ok_remF {f : qMI → qML → qMP → Prop} (h : XQ J M I L P W) (hN : XS I L P 2 s) (hO : OKS s) (k : ∀ I' L' P', XR J M I' L' P' (remW W s) → I' 1 = I 1 → f I' L' P') : Sq (d + 3) mX3_remember SH0 [.ref 14, .ref 2] I L P (KV f) := by
  obtain ⟨hP, hK, h3, h4, h5, h6, h7, h8⟩ := h
  refine ok_remember hP hN hK fun I' L' P' hP' hF hK' => k I' L' P' ⟨⟨hP', hK', ?_, fun q => ?_, ?_, ?_, fun r hr => ?_, h8.1, fun i hi => ?_⟩, hN.frame hP hF (Or.inl rfl), hO, remH_now _ _ _⟩ (hF.1 1 (by omega)).1
  · show I' 1 9 = (if W.2.1.1 = true then 1 else 0)
    rw [(hF.1 1 (by omega)).1]; exact h3
  · exact (h4 q).frame hP hF (Or.inr rfl)
  · exact h5.congr (hF.1 86 (by omega)).1 (hF.1 87 (by omega)).1
  · exact h6.congr hP hP' fun r hr => hF.1 r (by omega)
  · obtain ⟨y1, y2⟩ := hF.1 r (by omega)
    rw [y1, y2]; exact h7 r hr
  · have hi : i ≤ remA W.2.2.1.2.1 := hi
    show OKS (remH W.2.2.1.1 W.2.2.1.2.1 s i)
    have a1 := hK.2.2.1
    have a2 := hK.2.2.2.1
    unfold remH
    unfold remA at hi
    by_cases c : W.2.2.1.2.1 < 10
    · rw [if_pos c] at hi ⊢
      by_cases c2 : i = W.2.2.1.2.1 + 1
      · simp only [if_pos c2]; exact hO
      · simp only [if_neg c2]; exact h8.2 i (by omega)
    · rw [if_neg c] at hi ⊢
      by_cases c2 : i = 10
      · simp only [if_pos c2]; exact hO
      · simp only [if_neg c2]; exact h8.2 (i + 1) (by omega)
theorem ok9_dropF {f : qMI → qML → qMP → Prop} (h : XQ J M I L P W) (hE : ES SH0 I P 3 s) (k : ∀ I', XQ J M I' L P W → XS I' L P 2 (dropS s) → I' 1 = I 1 → f I' L P) : Sq (d + 1) mX1_drop SH0 [.ref 5] I L P (KV f) := by
  have hP := h.1
  refine ok_drop (by decide) ?_
  have fr : ∀ r, r ≠ 5 → uI (uI I 5 0 0) 5 4 0 r = I r := fun r q => by rw [uI_ne r q, uI_ne r q]
  have e7 : dropS s 7 0 = 0 := by unfold dropS; rw [up_ne (by decide)]; exact up_at _ _ _ _
  have e9 : dropS s 9 0 = 0 := up_at _ _ _ _
  refine k _ (h.keep fun r hr => ⟨fr r (by omega), rfl⟩) ⟨ES_cg (hE.congr (fr 3 (by decide)) (by rw [ly_3_3 hP]; exact fr 4 (by decide)) rfl) (dropS_lo s), sit_DSh hP (Or.inl rfl), ?_, ?_, Or.inl e7, fun _ => e9, fun q => by rw [e7] at q; exact absurd q (by decide)⟩ (fr 1 (by decide))
  · rw [e7]
    show (if _ then _ else _) = _
    rw [if_neg (by decide)]
    exact if_pos ⟨rfl, rfl⟩
  · rw [e9]
    exact if_pos ⟨rfl, rfl⟩
theorem ES_lv {e a b : Nat} {s : Sit} {I' : qMI} (h : ES SH0 I P e s) (ha : a ≤ 4) (hb : b ≤ 4) (f : ∀ r, r ≠ e → I' r = I r) (f0 : I' e 0 = I e 0) (f1 : I' e 1 = nI a) (f2 : I' e 2 = nI b) (hne : P e 3 ≠ e) : ES SH0 I' P e (lvS s a b) := by
  obtain ⟨a1, a2, a3, a4, a5, a6, w1, w2, w3, w4, w5⟩ := h
  have lo : ∀ x y, x ≤ 4 → lvS s a b x y = s x y := fun x y h => by unfold lvS; rw [up_ne (by omega), up_ne (by omega)]
  have e5 : lvS s a b 5 0 = a := by unfold lvS; rw [up_ne (by decide)]; exact up_at _ _ _ _
  have e6 : lvS s a b 6 0 = b := up_at _ _ _ _
  refine ⟨a1, a2, by rw [lo 0 0 (by decide), f0]; exact a3, by rw [e5]; exact f1, by rw [e6]; exact f2, fun p x hp hx => ?_, by rw [lo 0 0 (by decide)]; exact w1, by rw [e5]; exact ha, by rw [e6]; exact hb, fun p hp => ?_, fun p q hp hq hne he => ?_⟩
  · rw [lo 0 0 (by decide)] at hp
    rw [lo (1 + x) p (by omega), f _ hne]
    exact a6 p x hp hx
  · rw [lo 0 0 (by decide)] at hp
    rw [lo 1 p (by decide), lo 2 p (by decide), lo 3 p (by decide), lo 4 p (by decide)]
    exact w4 p hp
  · rw [lo 0 0 (by decide)] at hp hq
    rw [lo 3 p (by decide), lo 3 q (by decide)] at he
    rw [lo 3 p (by decide)]
    exact w5 p q hp hq hne he
theorem rlx_tail {x : Int32} {f : Int32 → qMI → qML → qMP → Prop} (h : XR J M I L P W) (hn2 : 2 ≤ W.1 0 0) (hx : isP 2 x) (he : I 1 10 = easeV W.1) (k : ∀ I' L' P', XR J M I' L' P' (relaxR W x).2 → f (relaxR W x).1 I' L' P') : rlxT (d + 4) (KI f) x I L P := by
  obtain ⟨hQ, hN, hO, hA⟩ := id h
  have hP := hQ.1
  obtain ⟨p1, p2, p3, p4, -⟩ := now_P hP
  have w := hO.1
  unfold relaxR at k
  rw [if_pos hx, if_pos hn2] at k
  unfold easeV at he
  unfold rlxT
  rw [p1, p2, p3]
  cases hr : easeR 8 W.1 with
  | none =>
    rw [hr] at k he
    refine ⟨fun _ => kI (k I L P h) he.symm, fun q => absurd he q⟩
  | some t =>
    rw [hr] at k he
    have he : I 1 10 = nI (10 * t 5 0 + t 6 0) := he
    have k : ∀ I' L' P', XR J M I' L' P' (if x = 1 then remW W (dropS (lvS W.1 (t 5 0) (t 6 0))) else W) → f (nI (10 * t 5 0 + t 6 0)) I' L' P' := k
    have w5 := w.2.1
    have w6 := w.2.2.1
    obtain ⟨t5, t6, t0⟩ := easeR_ok 8 W.1 w5 w6 t hr
    have ne2 : ¬ nI (10 * t 5 0 + t 6 0) = -2 := fun q => by
      have : ∀ m, m < 50 → ¬ nI m = -2 := by decide
      exact this _ (by omega) q
    rw [he]
    refine ⟨fun q => absurd q ne2, fun _ => ⟨fun c => ?_, fun c => ⟨by decide, by decide, fun I17 e17 I18 e18 => ⟨by decide, ?_⟩⟩⟩⟩
    · rw [if_neg c] at k
      exact k I L P h
    · rw [if_pos c] at k
      have z1 : I17 1 10 = nI (10 * t 5 0 + t 6 0) := by rw [e17, uI_ne 1 (by decide)]; exact he
      rw [z1] at e18
      rw [show nI (10 * t 5 0 + t 6 0) / 10 = nI (t 5 0) from (pk_div (d := 10) (by omega) (by decide) (by decide)).trans (by rw [show (10 * t 5 0 + t 6 0) / 10 = t 5 0 by omega])] at e17 e18
      rw [show nI (10 * t 5 0 + t 6 0) - nI (t 5 0) * 10 = nI (t 6 0) from by rw [show (10 : Int32) = nI 10 from rfl, pk_mul, pk_sub (by omega), show 10 * t 5 0 + t 6 0 - t 5 0 * 10 = t 6 0 by omega]] at e18
      have fr : ∀ r, r ≠ 3 → I18 r = I r := fun r q => by rw [e18, uI_ne r q, e17, uI_ne r q]
      have e4 : P 3 3 = 4 := ly_3_3 hP
      have hE18 : ES SH0 I18 P 3 (lvS W.1 (t 5 0) (t 6 0)) := by
        refine ES_lv hN.1 (by omega) (by omega) fr ?_ ?_ ?_ (by rw [e4]; decide)
        · rw [e18, e17]; simp [uI]
        · rw [e18, e17]; simp [uI]
        · rw [e18]; simp [uI]
      refine ok9_dropF (hQ.keep fun r hr => ⟨fr r (by omega), rfl⟩) hE18 fun I20 hQ20 hX20 f20 => ?_
      rw [p4, p1]
      refine ⟨by decide, ok_remF hQ20 hX20 (OKS_drop hE18.2.2.2.2.2.2) fun I' L' P' hR f' => kI (k I' L' P' hR) ?_⟩
      rw [f', f20, fr 1 (by decide), he]
theorem ok9_search {f : Int32 → qMI → qML → qMP → Prop} (h : XR J M I L P W) (hn2 : 2 ≤ W.1 0 0) (h0 : allS W.1 = 0) (k : ∀ I' L', (∀ r, r < 112 ∨ 143 < r → I' r = I r ∧ L' r = L r) → f (easeV W.1) I' L' P) : Sq (d + 7) mX9_searchLevels SH0 [.ref 1] I L P (KI f) := by
  have hP := h.1.1
  obtain ⟨p1, p2, p3, p4, p5, p6, p7, p8, p9, p10, -⟩ := now_P hP
  have e140 : P 139 3 = 140 := ly_139_3 hP
  have hn := h.2.2.1.1.1
  have w5 := h.2.2.1.1.2.1
  have w6 := h.2.2.1.1.2.2.1
  refine sp_X9_searchLevels (fun x I' L' P' => P' = P ∧ (∀ r, r < 112 ∨ 143 < r → I' r = I r ∧ L' r = L r) ∧ ∃ t i, x = nI i ∧ i ≤ 8 ∧ ES SH0 I' P 139 t ∧ t 0 0 = W.1 0 0 ∧ allS t = 0 ∧ easeR (8 - i) t = easeR 8 W.1) (fun x _ _ _ => 20 - x.toNatClampNeg) ⟨by decide, by rw [p1]; decide, ?_⟩ ?_
  · rw [p1, p2, p10]
    exact ⟨by decide, ok_E_copy (by decide) (by rw [e140]; decide) h.2.1.1 fun I4 f4 E4 => ⟨rfl, fun r hr => ⟨f4 r (by omega) (by rw [e140]; omega), rfl⟩, W.1, 0, rfl, by decide, E4, rfl, h0, rfl⟩⟩
  · rintro x I1 L1 P1 ⟨rfl, hF, t, i, rfl, hi, hE, t0, ha, he⟩
    have kk := k I1 L1 hF
    have tw := hE.2.2.2.2.2.2
    have tw5 := tw.2.1
    have tw6 := tw.2.2.1
    have i2 : I1 139 2 = nI (t 6 0) := hE.2.2.2.2.1
    have i1 : I1 139 1 = nI (t 5 0) := hE.2.2.2.1
    have i0 : I1 139 0 = nI (t 0 0) := hE.2.2.1
    have stop : ∀ v : Option Sit, easeR 8 W.1 = v → v = none → f (-2) I1 L1 P1 := fun v h1 h2 => by
      unfold easeV at kk
      rw [h1, h2] at kk
      exact kk
    have step : ∀ (t' : Sit) (I6 : qMI), ES SH0 I6 P1 139 t' → t' 0 0 = W.1 0 0 → (∀ r, r < 112 ∨ 143 < r → I6 r = I r) → i < 8 → easeR (8 - (i + 1)) t' = easeR 8 W.1 → Sq (d + 6) mX0_begin SH0 [.ref 112, .ref 139] I6 L1 P1 (KV fun I8 L9 P10 => ((shp SH0 (P10 1 5)).1 = 0) ∧ (Sq (d + 6) mX0_total SH0 [.ref (P10 1 5)] I8 L9 P10 (KL fun r12 I13 L14 P15 => ((r12 ≤ 0) → (((P15 = P1 ∧ (∀ r, r < 112 ∨ 143 < r → I13 r = I r ∧ L14 r = L r) ∧ ∃ t i_1, nI i + 1 = nI i_1 ∧ i_1 ≤ 8 ∧ ES SH0 I13 P1 139 t ∧ t 0 0 = W.1 0 0 ∧ allS t = 0 ∧ easeR (8 - i_1) t = easeR 8 W.1) ∧ 20 - (nI i + 1).toNatClampNeg < 20 - (nI i).toNatClampNeg))) ∧ ((¬ r12 ≤ 0) → (((shp SH0 (P15 1 7)).1 = 2) ∧ (Sq (d + 6) mX2_bothLevels SH0 [.ref (P15 1 7)] I13 L14 P15 (KI fun r18 I19 L20 P21 => KI f (some (.int r18)) I19 L20 P21))))))) := by
      intro t' I6 hE6 z0 hF6 hi8 he6
      refine ok_C_begin hP (Or.inr rfl) hE6 (Or.inr (by decide)) (Or.inr (by rw [e140]; decide)) fun I8 f8 g8 B8 => ⟨by rw [p8]; decide, ?_⟩
      rw [p8]
      refine ok_total hP (Or.inr rfl) B8 (by rw [z0]; exact hn) fun L14 f14 r14 s14 => ?_
      have same : gc (xA t' (seated t') (seatF t') 0 (-1 : Int32).toInt (-1 : Int32).toInt) (lastS (t' 0 0)) 0 (2 ^ t' 0 0 - 1) = allS t' := all_same (by rw [z0]; exact hn) (by rw [z0]; exact hn2)
      rw [same]
      have hal := allS_le (s := t') (by rw [z0]; exact hn)
      have fI : ∀ r, r ≠ 112 → uI I8 112 2 1 r = I8 r := fun r q => uI_ne r q
      have hE13 : ES SH0 (uI I8 112 2 1) P1 139 t' := hE6.congr (by rw [fI _ (by decide), f8 _ (by omega)]) (by rw [e140, fI _ (by decide), f8 _ (by omega)]) rfl
      have hF13 : ∀ r, r < 112 ∨ 143 < r → uI I8 112 2 1 r = I r ∧ L14 r = L r := fun r hr => ⟨by rw [fI r (by omega), f8 r (by omega), hF6 r hr], by rw [f14 r (by omega) (by omega)]; exact (hF r hr).2⟩
      have q0 : lN (allS t') ≤ 0 ↔ allS t' ≤ 0 := pk_lLE (b := 0) (by omega) (by decide)
      refine ⟨fun c => ⟨⟨rfl, hF13, t', i + 1, nI_1 i, by omega, hE13, z0, by have := q0.mp c; omega, he6⟩, ?_⟩, fun c => ⟨by rw [p10]; decide, ?_⟩⟩
      · rw [nI_1, clN (by omega), clN (by omega)]; omega
      · rw [p10]
        have c : allS t' ≠ 0 := fun q => c (q0.mpr (by omega))
        refine ok_bothLevels hE13 ?_
        refine kI (k _ _ hF13) ?_
        have : easeR 8 W.1 = some t' := by
          rw [← he6]
          cases 8 - (i + 1) with
          | zero => unfold easeR; exact if_pos c
          | succ g => unfold easeR; exact if_pos c
        unfold easeV
        rw [this]
    refine ⟨fun c => ?_, fun c => ⟨by decide, by rw [p10]; decide, ?_⟩⟩
    · have c := (nI_leI (a := 8) (by decide) (by omega)).mp c
      have : i = 8 := by omega
      subst this
      refine stop (easeR (8 - 8) t) he.symm ?_
      show easeR 0 t = none
      unfold easeR
      exact if_neg (fun q => q ha)
    · have c : i < 8 := Nat.lt_of_not_le fun q => c (nI_le q (by omega))
      have he2 : easeR 8 W.1 = if 0 < t 6 0 then easeR (8 - (i + 1)) (up t 6 0 (t 6 0 - 1)) else if 0 < t 5 0 then easeR (8 - (i + 1)) (up t 5 0 (t 5 0 - 1)) else none := by
        rw [← he, show 8 - i = 8 - (i + 1) + 1 by omega]
        show (if allS t ≠ 0 then some t else _) = _
        rw [if_neg (fun q => q ha)]
      rw [p10, i2, i1, p8]
      have q6 : nI (t 6 0) ≤ 0 ↔ t 6 0 ≤ 0 := nI_leI (b := 0) (by omega) (by decide)
      have q5 : nI (t 5 0) ≤ 0 ↔ t 5 0 ≤ 0 := nI_leI (b := 0) (by omega) (by decide)
      refine ⟨fun c6 => ⟨fun c5 => ?_, fun c5 I6 e6 => ⟨by decide, ?_⟩⟩, fun c6 I6 e6 => ⟨by decide, ?_⟩⟩
      · have c6 := q6.mp c6
        have c5 := q5.mp c5
        exact stop _ he2 (by rw [if_neg (by omega), if_neg (by omega)])
      · have c6 := q6.mp c6
        have c5 : ¬ t 5 0 ≤ 0 := fun q => c5 (q5.mpr q)
        rw [if_neg (by omega), if_pos (by omega)] at he2
        rw [show nI (t 5 0) - 1 = nI (t 5 0 - 1) from pk_sub (b := 1) (by omega)] at e6
        have fr : ∀ r, r ≠ 139 → I6 r = I1 r := fun r q => by rw [e6, uI_ne r q]
        have hE6 : ES SH0 I6 P1 139 (lvS t (t 5 0 - 1) (t 6 0)) := by
          refine ES_lv hE (by omega) (by omega) fr ?_ ?_ ?_ (by rw [e140]; decide)
          · rw [e6]; simp [uI]
          · rw [e6]; simp [uI]
          · rw [e6]; simp [uI]; exact i2
        have el : lvS t (t 5 0 - 1) (t 6 0) = up t 5 0 (t 5 0 - 1) := by
          funext x y
          unfold lvS
          by_cases z : x = 6 ∧ y = 0
          · obtain ⟨rfl, rfl⟩ := z
            rw [up_at, up_ne (by decide)]
          · rw [up_ne z]
        rw [el] at hE6
        exact step _ I6 hE6 (by rw [up_ne (by decide)]; exact t0) (fun r hr => by rw [fr r (by omega)]; exact (hF r hr).1) c he2.symm
      · have c6 : ¬ t 6 0 ≤ 0 := fun q => c6 (q6.mpr q)
        rw [if_pos (by omega)] at he2
        rw [show nI (t 6 0) - 1 = nI (t 6 0 - 1) from pk_sub (b := 1) (by omega)] at e6
        have fr : ∀ r, r ≠ 139 → I6 r = I1 r := fun r q => by rw [e6, uI_ne r q]
        have hE6 : ES SH0 I6 P1 139 (lvS t (t 5 0) (t 6 0 - 1)) := by
          refine ES_lv hE (by omega) (by omega) fr ?_ ?_ ?_ (by rw [e140]; decide)
          · rw [e6]; simp [uI]
          · rw [e6]; simp [uI]; exact i1
          · rw [e6]; simp [uI]
        have el : lvS t (t 5 0) (t 6 0 - 1) = up t 6 0 (t 6 0 - 1) := by
          funext x y
          unfold lvS
          by_cases z : x = 6 ∧ y = 0
          · obtain ⟨rfl, rfl⟩ := z
            rw [up_at, up_at]
          · rw [up_ne z, up_ne z]
            by_cases z2 : x = 5 ∧ y = 0
            · obtain ⟨rfl, rfl⟩ := z2
              rw [up_at]
            · rw [up_ne z2]
        rw [el] at hE6
        exact step _ I6 hE6 (by rw [up_ne (by decide)]; exact t0) (fun r hr => by rw [fr r (by omega)]; exact (hF r hr).1) c he2.symm
theorem XR.ease {v : Int32} {I' : qMI} (h : XR J M I L P W) (hv : v = easeV W.1) (hC : ∃ u, SameD u W.1 ∧ WE u ∧ CR I L P 88 u ∧ I 88 2 = 1 ∧ (I 1 10 = -4 ∨ I 1 10 = easeV u) ∧ L 88 3 = lN (allS u)) (hn2 : 2 ≤ W.1 0 0) (e : I' = uI I 1 10 v) : XR J M I' L P W := by
  obtain ⟨u, u1, u2, u3, u4, u5, u6⟩ := hC
  have hP := h.1.1
  have fr : ∀ r, r ≠ 1 → I' r = I r := fun r q => by rw [e, uI_ne r q]
  refine h.cnt (fun r q1 q2 => ⟨fr r q1, rfl⟩) (fun j hj => ?_) (Or.inr ⟨by rw [fr 88 (by decide)]; exact u4, u, u2, by rw [u1.1]; exact hn2, ?_, u6, Or.inr ?_⟩)
  · rw [e]
    exact if_neg fun y => hj y.2
  · exact u3.congr hP (Or.inl rfl) u2.1 (fun r y1 y2 => fr r (by omega)) fun r y1 y2 => rfl
  · rw [e]
    refine (if_pos ⟨rfl, rfl⟩).trans ?_
    rw [hv, easeV_same u1]
theorem easeV_ne (s : Sit) (h5 : s 5 0 ≤ 4) (h6 : s 6 0 ≤ 4) : ¬ easeV s = -4 := by
  unfold easeV
  cases h : easeR 8 s with
  | none => decide
  | some t =>
    obtain ⟨t5, t6, -⟩ := easeR_ok 8 s h5 h6 t h
    have : ∀ m, m < 50 → ¬ nI m = -4 := by decide
    exact this _ (by omega)
theorem ok9_relaxed {x : Int32} {f : Int32 → qMI → qML → qMP → Prop} (h : XR J M I L P W) (k : ∀ I' L' P', XR J M I' L' P' (relaxR W x).2 → f (relaxR W x).1 I' L' P') : Sq (d + 8) mX9_relaxed SH0 [.ref 1, .int x] I L P (KI f) := by
  have hP := h.1.1
  obtain ⟨p1, p2, p3, p4, p5, p6, p7, p8, p9, p10, -⟩ := now_P hP
  have hn := h.2.2.1.1.1
  have w5 := h.2.2.1.1.2.1
  have w6 := h.2.2.1.1.2.2.1
  have v0 : I 3 0 = nI (W.1 0 0) := h.2.1.1.2.2.1
  have e2 : 2 ≤ I 3 0 ↔ 2 ≤ W.1 0 0 := by rw [v0]; exact nI_leI (a := 2) (by decide) (by omega)
  have ha := allS_le hn
  refine sp_X9_relaxed ⟨fun c => ?_, fun c => ⟨fun c2 => ⟨by decide, by rw [p1]; decide, ?_⟩, fun c2 => ?_⟩⟩
  · unfold relaxR at k
    rw [if_neg (fun q => by have := q.1; ((try simp only [Int32.lt_iff_toInt_lt, Int32.le_iff_toInt_le, ne_eq, ← Int32.toInt_inj, isP, ti_nI, ti_add, ti_sub, ti_mul, ti_neg, ti_0, ti_1, ti_2, ti_3, ti_4, ti_5, ti_6, ti_7, ti_8, ti_9, ti_10, ti_11, ti_12, ti_13, ti_14, ti_15, ti_16, ti_17, ti_18, ti_19, ti_20, ti_28, ti_30, ti_31, ti_32, ti_40, ti_45, ti_47, ti_48, ti_49, ti_57, ti_58, ti_59, ti_61, ti_76, ti_84, ti_96, ti_99, ti_100, ti_114, ti_115, ti_120, ti_126, ti_840, ti_1024] at c this ⊢); omega))] at k
    exact k I L P h
  · have hx : isP 2 x := by unfold isP; ((try simp only [Int32.lt_iff_toInt_lt, Int32.le_iff_toInt_le, ne_eq, ← Int32.toInt_inj, isP, ti_nI, ti_add, ti_sub, ti_mul, ti_neg, ti_0, ti_1, ti_2, ti_3, ti_4, ti_5, ti_6, ti_7, ti_8, ti_9, ti_10, ti_11, ti_12, ti_13, ti_14, ti_15, ti_16, ti_17, ti_18, ti_19, ti_20, ti_28, ti_30, ti_31, ti_32, ti_40, ti_45, ti_47, ti_48, ti_49, ti_57, ti_58, ti_59, ti_61, ti_76, ti_84, ti_96, ti_99, ti_100, ti_114, ti_115, ti_120, ti_126, ti_840, ti_1024] at c c2 ⊢); omega)
    rw [p1, p2]
    refine ⟨by decide, fun c3 => ?_, fun c3 => ?_⟩
    · have c3 := e2.mp c3
      have e0 : lN (allS W.1) = 0 ↔ allS W.1 = 0 := pk_lEQ (b := 0) (by omega) (by decide)
      refine ok9_all h c3 fun I8 L9 hR hU => ?_
      obtain ⟨u, u1, u2, u3, u4, u5, u6⟩ := id hU
      have ne4 := easeV_ne _ w5 w6
      have known : ¬ I8 1 10 = -4 → I8 1 10 = easeV W.1 := fun q => by
        rcases u5 with z | z
        · exact absurd z q
        · rw [z, easeV_same u1]
      refine ⟨fun c4 => ⟨fun c5 => rlx_tail hR c3 hx (known c5) k, fun c5 => ⟨by rw [p1]; decide, ?_⟩⟩, fun c4 => ⟨fun c5 => rlx_tail hR c3 hx (known c5) k, fun c5 => ?_⟩⟩
      · have c4 : ¬ allS W.1 = 0 := fun q => c4 (e0.mpr q)
        rw [p1, p2]
        refine ⟨by decide, ok_bothLevels hR.2.1.1 fun I33 e33 => ?_⟩
        have ev : nI (10 * W.1 5 0 + W.1 6 0) = easeV W.1 := by
          have : easeR 8 W.1 = some W.1 := by
            show (if allS W.1 ≠ 0 then some W.1 else _) = _
            exact if_pos c4
          unfold easeV
          rw [this]
        rw [ev] at e33
        have hR33 := hR.ease rfl hU c3 e33
        exact rlx_tail hR33 c3 hx (by rw [e33]; exact if_pos ⟨rfl, rfl⟩) k
      · have c4 := e0.mp c4
        refine ok9_search hR c3 c4 fun I64 L65 f64 I67 e67 => ?_
        have hR64 : XR J M I64 L65 P W := hR.keep fun r hr => f64 r (by omega)
        have hR67 := hR64.ease rfl ⟨u, u1, u2, u3.congr hP (Or.inl rfl) u2.1 (fun r y1 y2 => (f64 r (by omega)).1) (fun r y1 y2 => (f64 r (by omega)).2), by rw [(f64 88 (by omega)).1]; exact u4, by rw [(f64 1 (by omega)).1]; exact u5, by rw [(f64 88 (by omega)).2]; exact u6⟩ c3 e67
        exact rlx_tail hR67 c3 hx (by rw [e67]; exact if_pos ⟨rfl, rfl⟩) k
    · unfold relaxR at k
      rw [if_pos hx, if_neg (fun q => c3 (e2.mpr q))] at k
      exact k I L P h
  · unfold relaxR at k
    rw [if_neg (fun q => by have := q.2; ((try simp only [Int32.lt_iff_toInt_lt, Int32.le_iff_toInt_le, ne_eq, ← Int32.toInt_inj, isP, ti_nI, ti_add, ti_sub, ti_mul, ti_neg, ti_0, ti_1, ti_2, ti_3, ti_4, ti_5, ti_6, ti_7, ti_8, ti_9, ti_10, ti_11, ti_12, ti_13, ti_14, ti_15, ti_16, ti_17, ti_18, ti_19, ti_20, ti_28, ti_30, ti_31, ti_32, ti_40, ti_45, ti_47, ti_48, ti_49, ti_57, ti_58, ti_59, ti_61, ti_76, ti_84, ti_96, ti_99, ti_100, ti_114, ti_115, ti_120, ti_126, ti_840, ti_1024] at c2 this ⊢); omega))] at k
    exact k I L P h
end RX
