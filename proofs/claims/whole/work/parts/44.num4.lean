theorem swF_FO {s : Sit} {p o : Nat} (w : WD s) (hp : p < s 0 0) (ho : o < s 0 0) (hne : p ≠ o) : FO (s 0 0) (swF s p o) := by
  have hn := w.2.2.1
  have hv : ∀ t, t < slotsS (s 0 0) → s 20 t < s 0 0 ∨ s 20 t = 10 := fun t ht => by
    rcases w.2.2.2.1 0 t (Nat.zero_le _) (by rw [TB_0]; exact ht) with q | q
    · exact Or.inl q
    · exact Or.inr q.2
  have bit : ∀ t i, (swF s p o t).testBit i = true → t < slotsS (s 0 0) ∧ (if s 20 t = p then o else if s 20 t = o then p else s 20 t) = i ∧ i ≠ 10 := by
    intro t i h
    unfold swF at h
    by_cases c : slotsS (s 0 0) ≤ t
    · rw [if_pos c, Nat.zero_testBit] at h; cases h
    · rw [if_neg c, bitW_bit] at h
      exact ⟨by omega, h.1, by rw [← h.1]; exact h.2⟩
  refine ⟨fun t => lt_bits fun i hi => ?_, fun t u i h1 h2 => ?_⟩
  · obtain ⟨b1, b2, b3⟩ := bit t i hi
    have := hv t b1
    split at b2
    · omega
    · split at b2 <;> omega
  · obtain ⟨b1, b2, b3⟩ := bit t i h1
    obtain ⟨c1, c2, c3⟩ := bit u i h2
    have v1 := hv t b1
    have v2 := hv u c1
    have e : s 20 t = s 20 u ∧ s 20 t ≠ 10 := by
      split at b2 <;> split at c2 <;> (try split at b2) <;> (try split at c2) <;> omega
    exact w.2.2.2.2.2.1 t u b1 c1 e.1 e.2
section N4
variable {d : Nat} {I : qMI} {L : qML} {P : qMP} {s : Sit}
theorem ok_swapNo {p o : Nat} {f : Int64 → qMI → qML → qMP → Prop} (hP : LAY P) (h : CR I L P 88 s) (hd : DSh SH0 P 5) (v : DV I L P 5 s) (hp : p < s 0 0) (ho : o < s 0 0) (hne : p ≠ o)
    (k0 : ¬ AllJ (xS s) (s 0 0) (swF s p o) → ∀ I' L', (∀ q, q ≠ 137 → I' q = I q) → (∀ q, q ≠ 138 → L' q = L q) → f (-1) I' L' P)
    (k1 : AllJ (xS s) (s 0 0) (swF s p o) → ∀ I' L', (∀ q, q ≠ 137 → I' q = I q) → (∀ q, q ≠ 138 → L' q = L q) → f (lN (rkS (xS s) (swF s p o) (lastS (s 0 0)) 0)) I' L' P) : Sq (d + 4) mX4_numberOfSwapped SH0 [.ref 136, .ref 88, .ref 5, .int (nI p), .int (nI o)] I L P (KL f) := by
  obtain ⟨v1, v2, v3, v4, v5, v6, w⟩ := id v
  have hn := w.2.2.1
  have hl := lastS_le (s 0 0)
  have hsl := slotsS_in (s 0 0)
  have tl := TB_last _ hn
  have P0 : P 136 0 = 137 := ly_136_0 hP
  have P1 : P 136 1 = 138 := ly_136_1 hP
  have P5 : P 5 5 = 6 := ly_5_5 hP
  have P6 : P 5 6 = 7 := ly_5_6 hP
  have hFO := swF_FO w hp ho hne
  have hvd : ∀ {I' : qMI} {L' : qML}, (∀ q, q ≠ 137 → I' q = I q) → (∀ q, q ≠ 138 → L' q = L q) → DV I' L' P 5 s := fun q1 q2 => v.congr (by rw [q2 5 (by decide)]) (by rw [q1 5 (by decide)]) (by rw [q1 5 (by decide)]) (fun _ _ => by rw [P5, q1 6 (by decide)]) (fun _ _ => by rw [P6, q1 7 (by decide)])
  have hCR : ∀ {I' : qMI} {L' : qML}, (∀ q, q ≠ 137 → I' q = I q) → (∀ q, q ≠ 138 → L' q = L q) → CR I' L' P 88 s := fun q1 q2 => h.congr hP (Or.inl rfl) hn (fun r h1 h2 => q1 r (by omega)) (fun r h1 h2 => q2 r (by omega))
  refine sp_X4_numberOfSwapped (fun x I' L' P' => P' = P ∧ (∀ q, q ≠ 137 → I' q = I q) ∧ (∀ q, q ≠ 138 → L' q = L q) ∧ ∃ t, t ≤ slotsS (s 0 0) ∧ x = nI t ∧ ∀ u, u < t → I' 137 (slotsS (s 0 0) + u) = nI (swF s p o u) ∧ L' 138 (slotsS (s 0 0) + u) = 0) (fun x _ _ _ => (100 - x.toNatClampNeg) + 200) (fun x I' L' P' => P' = P ∧ (∀ q, q ≠ 137 → I' q = I q) ∧ (∀ q, q ≠ 138 → L' q = L q) ∧ ∃ B, B < slotsS (s 0 0) ∧ x = nI B ∧ (∀ r b, r ≤ lastS (s 0 0) → b < TB (s 0 0) r → B < TB (s 0 0) r + b → I' 137 (TB (s 0 0) r + b) = nI (setR (swF s p o) r b) ∧ L' 138 (TB (s 0 0) r + b) = lN (rkS (xS s) (swF s p o) r b)) ∧ ∀ r b, r + 1 ≤ lastS (s 0 0) → b < TB (s 0 0) (r + 1) → B < TB (s 0 0) (r + 1) + b → gc (xS s) r (2 * b) (setR (swF s p o) r (2 * b)) ≠ 0 ∧ gc (xS s) r (2 * b + 1) (setR (swF s p o) r (2 * b + 1)) ≠ 0 ∧ gc (xS s) (r + 1) b (setR (swF s p o) (r + 1) b) ≠ 0) (fun x _ _ _ => x.toNatClampNeg) ⟨rfl, fun _ _ => rfl, fun _ _ => rfl, 0, Nat.zero_le _, rfl, fun u hu => absurd hu (Nat.not_lt_zero u)⟩ ?_ ?_
  · rintro x I' L' P' ⟨rfl, hF, hG, t, ht, rfl, hj⟩
    have hv := hvd hF hG
    have e52 : I' 5 2 = nI (slotsS (s 0 0)) := by rw [hF 5 (by decide)]; exact v2
    unfold vc_X4_numberOfSwapped_1
    rw [e52, P0, nI_add]
    refine ⟨by decide, fun c => ?_, fun c => ⟨by decide, by decide, fun c2 => absurd c2 (nI_ge (show slotsS (s 0 0) + t < 32 by rw [nI_leI (by omega) (by omega)] at c; omega) (by decide)), fun _ => ?_⟩⟩
    · rw [nI_leI (by omega) (by omega)] at c
      have : t = slotsS (s 0 0) := by omega
      subst this
      rw [show nI (slotsS (s 0 0)) - 1 = nI (slotsS (s 0 0) - 1) from pk_sub (b := 1) (by omega)]
      refine ⟨⟨rfl, hF, hG, slotsS (s 0 0) - 1, by omega, rfl, fun r b h1 h2 h3 => ?_, fun r b h1 h2 h3 => ?_⟩, ?_⟩
      · have hr0 : r = 0 := by
          rcases Nat.eq_zero_or_pos r with z | z
          · exact z
          · have := TB_dec _ hn r h1 0 z
            rw [TB_0] at this
            omega
        subst hr0
        rw [TB_0] at h2 ⊢
        exact ⟨(hj b h2).1, by rw [(hj b h2).2]; rfl⟩
      · have := TB_dec _ hn (r + 1) h1 0 (by omega)
        rw [TB_0] at this
        omega
      · rw [clN (by omega), clN (by omega)]; omega
    · rw [nI_leI (by omega) (by omega)] at c
      have htl : t < slotsS (s 0 0) := by omega
      have hm : (100 - (nI t + 1).toNatClampNeg) + 200 < (100 - (nI t).toNatClampNeg) + 200 := by
        rw [nI_1, clN (by omega), clN (by omega)]; omega
      have leaf : ∀ (x : Int32), x = nI (swF s p o t) → (shp SH0 (P' 136 0)).1 = 20 ∧ vp_in (I' 5 2 + nI t) (shp SH0 (P' 136 0)).2 ∧ ∀ I14, I14 = uI I' (P' 136 0) (Int32.toNatClampNeg (I' 5 2 + nI t)) x → (shp SH0 (P' 136 1)).1 = 21 ∧ vp_in (I14 5 2 + nI t) (shp SH0 (P' 136 1)).2 ∧ ∀ L17, L17 = uL L' (P' 136 1) (Int32.toNatClampNeg (I14 5 2 + nI t)) 0 → (P' = P' ∧ (∀ q, q ≠ 137 → I14 q = I q) ∧ (∀ q, q ≠ 138 → L17 q = L q) ∧ ∃ t0, t0 ≤ slotsS (s 0 0) ∧ nI t + 1 = nI t0 ∧ ∀ u, u < t0 → I14 137 (slotsS (s 0 0) + u) = nI (swF s p o u) ∧ L17 138 (slotsS (s 0 0) + u) = 0) := by
        intro x hx
        rw [e52, P0, P1, nI_add, clN (by omega)]
        refine ⟨by decide, vin _ rfl (show slotsS (s 0 0) + t < 32 by omega) (by decide), fun I14 e14 => ?_⟩
        have e5 : I14 5 2 = nI (slotsS (s 0 0)) := by rw [e14, uI_ne 5 (by decide)]; exact e52
        rw [e5, nI_add, clN (by omega)]
        refine ⟨by decide, vin _ rfl (show slotsS (s 0 0) + t < 32 by omega) (by decide), fun L17 e17 => ⟨rfl, fun q y => by rw [e14, uI_ne q y]; exact hF q y, fun q y => by rw [e17, uL_ne q y]; exact hG q y, t + 1, by omega, nI_1 t, fun u hu => ?_⟩⟩
        rw [e14, e17]
        by_cases y : u = t
        · subst y
          exact ⟨(if_pos ⟨rfl, rfl⟩).trans hx, if_pos ⟨rfl, rfl⟩⟩
        · have := hj u (by omega)
          exact ⟨(if_neg (fun z => y (by omega))).trans this.1, (if_neg (fun z => y (by omega))).trans this.2⟩
      have hw : s 20 t < s 0 0 ∨ s 20 t = 10 := by
        rcases w.2.2.2.1 0 t (Nat.zero_le _) (by rw [TB_0]; exact htl) with q | q
        · exact Or.inl q
        · exact Or.inr q.2
      have sw1 : s 20 t = p → nI p + nI o - nI (s 20 t) = nI o := fun q => by rw [q, nI_add, pk_sub (by omega)]; congr 1; omega
      have sw2 : s 20 t = o → nI p + nI o - nI (s 20 t) = nI p := fun q => by rw [q, nI_add, pk_sub (by omega)]; congr 1; omega
      have eqn : ∀ a b, a ≤ 10 → b ≤ 10 → (nI a = nI b ↔ a = b) := fun a b ha hb => nI_eq (by omega) (by omega)
      have sF : swF s p o t = bitW (if s 20 t = p then o else if s 20 t = o then p else s 20 t) := if_neg (by omega)
      have bw : ∀ x, x < 10 → (1 : Int32) <<< (nI x &&& 31) = nI (bitW x) := fun x hx => by
        rw [bitN (by omega)]
        unfold bitW
        rw [if_neg (by omega)]
      refine ok_standing hd hv htl ⟨fun c1 => ⟨fun c2 => ?_, fun c2 => ?_⟩, fun c1 => ⟨fun c2 => ⟨fun c3 => ?_, fun c3 => ?_⟩, fun c2 => ⟨fun c3 => ?_, fun c3 => ?_⟩⟩⟩
      · have c1 := (eqn _ _ (by omega) (by omega)).mp c1
        obtain ⟨y1, y2, y3⟩ := leaf ((1 : Int32) <<< ((nI p + nI o - nI (s 20 t)) &&& 31)) (by rw [sw1 c1, bw o (by omega), sF, if_pos c1])
        exact ⟨y1, y2, fun I14 e14 => ⟨(y3 I14 e14).1, (y3 I14 e14).2.1, fun L17 e17 => ⟨(y3 I14 e14).2.2 L17 e17, hm⟩⟩⟩
      · have c1 := (eqn _ _ (by omega) (by omega)).mp c1
        rw [sw1 c1] at c2
        have c2 : nI o = nI 10 := c2
        have := (eqn _ _ (by omega) (by omega)).mp c2
        omega
      · have n1 : ¬ s 20 t = p := fun z => c1 (by rw [z])
        have n2 : ¬ s 20 t = o := fun z => c2 (by rw [z])
        have n3 : ¬ s 20 t = 10 := fun z => c3 (by rw [z]; rfl)
        obtain ⟨y1, y2, y3⟩ := leaf ((1 : Int32) <<< (nI (s 20 t) &&& 31)) (by rw [bw _ (by omega), sF, if_neg n1, if_neg n2])
        exact ⟨y1, y2, fun I14 e14 => ⟨(y3 I14 e14).1, (y3 I14 e14).2.1, fun L17 e17 => ⟨(y3 I14 e14).2.2 L17 e17, hm⟩⟩⟩
      · have n1 : ¬ s 20 t = p := fun z => c1 (by rw [z])
        have n2 : ¬ s 20 t = o := fun z => c2 (by rw [z])
        have c3 : nI (s 20 t) = nI 10 := c3
        have n3 := (eqn _ _ (by omega) (by omega)).mp c3
        obtain ⟨y1, y2, y3⟩ := leaf (0) (by rw [sF, if_neg n1, if_neg n2, n3]; rfl)
        exact ⟨y1, y2, fun I14 e14 => ⟨(y3 I14 e14).1, (y3 I14 e14).2.1, fun L17 e17 => ⟨(y3 I14 e14).2.2 L17 e17, hm⟩⟩⟩
      · have n1 : ¬ s 20 t = p := fun z => c1 (by rw [z])
        have c2 := (eqn _ _ (by omega) (by omega)).mp c2
        obtain ⟨y1, y2, y3⟩ := leaf ((1 : Int32) <<< ((nI p + nI o - nI (s 20 t)) &&& 31)) (by rw [sw2 c2, bw p (by omega), sF, if_neg n1, if_pos c2])
        exact ⟨y1, y2, fun I14 e14 => ⟨(y3 I14 e14).1, (y3 I14 e14).2.1, fun L17 e17 => ⟨(y3 I14 e14).2.2 L17 e17, hm⟩⟩⟩
      · have c2 := (eqn _ _ (by omega) (by omega)).mp c2
        rw [sw2 c2] at c3
        have c3 : nI p = nI 10 := c3
        have := (eqn _ _ (by omega) (by omega)).mp c3
        omega
  · rintro x I' L' P' ⟨rfl, hF, hG, B, hB, rfl, hT, hJ⟩
    have hC := hCR hF hG
    refine ⟨fun c => ?_, fun c => ⟨by decide, ?_⟩⟩
    · have c : nI B < nI 1 := c
      rw [nI_ltI (by omega) (by decide)] at c
      have hB0 : B = 0 := by omega
      subst hB0
      rw [P1, show Int32.toNatClampNeg 1 = 1 by decide]
      have e := (hT (lastS (s 0 0)) 0 (Nat.le_refl _) (by omega) (by omega)).2
      rw [tl] at e
      refine ⟨by decide, by decide, vin 1 rfl (show 1 < 32 by decide) (by decide), kL (k1 (fun r b h1 h2 => ?_) I' L' hF hG) e.symm⟩
      rcases Nat.eq_zero_or_pos r with z | z
      · subst z
        have tb : TB (s 0 0) 0 = 2 * TB (s 0 0) 1 := TB_half (r := 0) hn hl.1
        have t1 := (TB_all _ hn 1 hl.1).1
        have q := hJ 0 (b / 2) hl.1 (show b / 2 < TB (s 0 0) 1 by omega) (show 0 < TB (s 0 0) 1 + b / 2 by omega)
        have y : b = 2 * (b / 2) ∨ b = 2 * (b / 2) + 1 := by omega
        rcases y with y | y
        · rw [y]; exact q.1
        · rw [y]; exact q.2.1
      · obtain ⟨r0, rfl⟩ : ∃ r0, r = r0 + 1 := ⟨r - 1, by omega⟩
        have t := TB_all _ hn (r0 + 1) h1
        exact (hJ r0 b h1 h2 (by omega)).2.2
    · have c : ¬ nI B < nI 1 := c
      rw [nI_ltI (by omega) (by decide)] at c
      obtain ⟨r, b, hr, hb, eB⟩ := TB_ex hn (show 1 ≤ B by omega) hB
      have tb := TB_half hn hr
      rw [P0, show (2 : Int32) * nI B = nI (2 * B) from pk_mul 2 B, nI_1]
      have x1 := hT r (2 * b) (by omega) (by omega) (by omega)
      have x2 := hT r (2 * b + 1) (by omega) (by omega) (by omega)
      rw [show TB (s 0 0) r + 2 * b = 2 * B by omega] at x1
      rw [show TB (s 0 0) r + (2 * b + 1) = 2 * B + 1 by omega] at x2
      refine ⟨by decide, fun c2 => absurd c2 (nI_ge (show 2 * B + 1 < 32 by omega) (by decide)), fun _ => ok_join hP hC hn hr hb eB hFO x1.1 x2.1 x1.2 x2.2 (fun q I9 f9 => ⟨fun y => absurd rfl y, fun _ => k0 (fun y => q ⟨y r (2 * b) (by omega) (by omega), y r (2 * b + 1) (by omega) (by omega), y (r + 1) b hr hb⟩) I9 L' (fun z y => by rw [f9 z y]; exact hF z y) hG⟩) (fun q => ⟨fun _ => ?_, fun y => absurd y (by decide)⟩)⟩
      obtain ⟨B0, rfl⟩ : ∃ B0, B = B0 + 1 := ⟨B - 1, by omega⟩
      rw [pk_m1]
      refine ⟨⟨rfl, fun z y => by rw [uI_ne z y]; exact hF z y, fun z y => by rw [uL_ne z y]; exact hG z y, B0, by omega, rfl, fun q2 c2 h1 h2 h3 => ?_, fun q2 c2 h1 h2 h3 => ?_⟩, ?_⟩
      · by_cases y : TB (s 0 0) q2 + c2 = B0 + 1
        · obtain ⟨rfl, rfl⟩ := TB_inj hn h1 hr h2 hb (y.trans eB)
          rw [y]
          exact ⟨if_pos ⟨rfl, rfl⟩, if_pos ⟨rfl, rfl⟩⟩
        · have := hT q2 c2 h1 h2 (by omega)
          exact ⟨(if_neg (fun z => y z.2)).trans this.1, (if_neg (fun z => y z.2)).trans this.2⟩
      · by_cases y : TB (s 0 0) (q2 + 1) + c2 = B0 + 1
        · obtain ⟨e1, e2⟩ := TB_inj hn h1 hr h2 hb (y.trans eB)
          have e1 : q2 = r := by omega
          subst e1
          subst e2
          exact q
        · exact hJ q2 c2 h1 h2 (by omega)
      · rw [clN (by omega), clN (by omega)]; omega
end N4
