def playerR (W : Wd) (c r z t : Int32) : Int32 × Wd := if mayS W.1 (-1) 0 c ∧ mayS W.1 (-1) 1 r ∧ mayS W.1 (-1) 2 z ∧ mayS W.1 (-1) 3 t then (if W.1 0 0 < 10 then (nI (W.1 0 0), forW W (dropS (addS W.1 c.toNatClampNeg r.toNatClampNeg z.toNatClampNeg t.toNatClampNeg))) else (-3, W)) else (-1, W)
def playersR (W : Wd) : Int32 × Wd := match (rdR W.2.2.2.1 W.2.2.2.2 11 0 W.1).1 with
  | some q => (-100 - nI q, (W.1, W.2.1, W.2.2.1, (W.2.2.2.1, 0)))
  | none => (nI ((rdR W.2.2.2.1 W.2.2.2.2 11 0 W.1).2 0 0), forW (W.1, W.2.1, W.2.2.1, (W.2.2.2.1, 0)) (dropS (rdR W.2.2.2.1 W.2.2.2.2 11 0 W.1).2))
theorem rdR_le {bt : Nat → Nat} {len : Nat} : ∀ (F p : Nat) (s : Sit), p ≤ len → ∀ q, (rdR bt len F p s).1 = some q → q ≤ len
  | 0, p, s, hp, q, h => by have := Option.some.inj h; omega
  | F + 1, p, s, hp, q, h => by
    obtain ⟨o1, -⟩ := pl0_ok (bt := bt) (s := s) hp
    by_cases c : 10 ≤ s 0 0
    · rw [rdR_full c] at h
      have := Option.some.inj h; omega
    · by_cases hb : (pl0 bt len s p).2.1 = true
      · by_cases hl : (pl0 bt len s p).1 < len
        · rw [rdR_more c hb hl] at h
          exact rdR_le F _ _ (by omega) q h
        · rw [rdR_end c hb hl] at h; cases h
      · rw [rdR_bad c hb] at h
        have := Option.some.inj h; omega
section PL
variable {d : Nat} {J : qMI} {M : qML} {I : qMI} {L : qML} {P : qMP} {W : Wd} {s : Sit}
theorem ok9_anew {f : qMI → qML → qMP → Prop} (h : XQ J M I L P W) (hE : ES SH0 I P 3 s) (k : ∀ I' L', XR J M I' L' P (forW W (dropS s)) → f I' L' P) : Sq (d + 4) mX9_startAnew SH0 [.ref 1] I L P (KV f) := by
  have hP := h.1
  obtain ⟨p1, p2, p3, p4, -⟩ := now_P hP
  refine sp_X9_startAnew ⟨by decide, by rw [p1]; decide, ?_⟩
  rw [p1, p3]
  refine ⟨by decide, ok9_drop h hE fun I' hQ hX => ⟨by rw [p4]; decide, ?_⟩⟩
  rw [p4, p1]
  exact ok_forg hQ hX (OKS_drop hE.2.2.2.2.2.2) fun I8 L8 hR => k I8 L8 hR
theorem may_nat {x y v : Int32} {w : Nat} (hw : w < 4) (hy : y = nI w) (h : mayS s x y v) : ∃ a, v = nI a ∧ v.toNatClampNeg = a ∧ a ≤ bigW w := by
  subst hy
  obtain ⟨⟨h1, h2⟩, -⟩ := h
  rw [lgst_w w hw] at h2
  have hb : bigW w ≤ 99 := by unfold bigW; split <;> (try split) <;> (try split) <;> omega
  have t1 : (nI (bigW w)).toInt = (bigW w : Int) := nI_toInt (by omega)
  rw [Int32.le_iff_toInt_le] at h1 h2
  rw [t1] at h2
  rw [ti_0] at h1
  obtain ⟨a, a1, a2, a3⟩ := cl_isP (n := bigW w + 1) (x := v) ⟨h1, by omega⟩ (by omega)
  exact ⟨a, a2, a3, by omega⟩
theorem ok9_player {x1 x2 x3 x4 : Int32} {f : Int32 → qMI → qML → qMP → Prop} (h : XR J M I L P W) (k : ∀ I' L' P', XR J M I' L' P' (playerR W x1 x2 x3 x4).2 → f (playerR W x1 x2 x3 x4).1 I' L' P') : Sq (d + 5) mX9_player SH0 [.ref 1, .int x1, .int x2, .int x3, .int x4] I L P (KI f) := by
  obtain ⟨hQ, hN, hO, hA⟩ := id h
  have hP := hQ.1
  obtain ⟨p1, p2, p3, p4, -⟩ := now_P hP
  have hE := hN.1
  have w := hO.1
  unfold playerR at k
  refine sp_X9_player ⟨by decide, by rw [p1]; decide, ?_⟩
  rw [p1, p2]
  refine ⟨by decide, ok_mayTell hE ⟨fun c => ?_, fun c => ok_mayTell hE ⟨fun c2 => ?_, fun c2 => ok_mayTell hE ⟨fun c3 => ?_, fun c3 => ok_mayTell hE ⟨fun c4 => ?_, fun c4 => ?_⟩⟩⟩⟩⟩
  · rw [if_neg (fun q => b01_0.mp c q.1)] at k
    exact k I L P h
  · rw [if_neg (fun q => b01_0.mp c2 q.2.1)] at k
    exact k I L P h
  · rw [if_neg (fun q => b01_0.mp c3 q.2.2.1)] at k
    exact k I L P h
  · rw [if_neg (fun q => b01_0.mp c4 q.2.2.2)] at k
    exact k I L P h
  · have m1 := b01_n0.mp c
    have m2 := b01_n0.mp c2
    have m3 := b01_n0.mp c3
    have m4 := b01_n0.mp c4
    rw [if_pos ⟨m1, m2, m3, m4⟩] at k
    have w1 := w.1
    obtain ⟨a, rfl, ea, la⟩ := may_nat (w := 0) (by decide) rfl m1
    obtain ⟨b, rfl, eb, lb⟩ := may_nat (w := 1) (by decide) rfl m2
    obtain ⟨g, rfl, eg, lg⟩ := may_nat (w := 2) (by decide) rfl m3
    obtain ⟨t, rfl, et, lt⟩ := may_nat (w := 3) (by decide) rfl m4
    have e30 : I 3 0 = nI (W.1 0 0) := hE.2.2.1
    rw [e30]
    refine ⟨fun c5 => ?_, fun c5 => ?_⟩
    · have c5 : nI (W.1 0 0) < nI 10 := c5
      rw [nI_ltI (by omega) (by decide)] at c5
      rw [if_pos c5, ea, eb, eg, et] at k
      refine ok_add hE c5 la lb lg lt (fun z p hp q => ?_) fun I25 f25 E25 => ?_
      · have b1 := (w.2.2.2.1 p hp).2.2.1
        exact m3.2 p hp ⟨rfl, (nI_ltI (a := 0) (b := g) (by decide) (by omega)).mpr (Nat.pos_of_ne_zero z), m1ne (by omega)⟩ (by rw [q])
      · have e4 : P 3 3 = 4 := ly_3_3 hP
        rw [e4] at f25
        have hQ25 : XQ J M I25 L P W := hQ.keep fun r hr => ⟨f25 r (by omega) (by omega), rfl⟩
        refine ok9_anew hQ25 E25 fun I28 L28 hR => kI (k I28 L28 P hR) ?_
        have e0 : I28 3 0 = nI (dropS (addS W.1 a b g t) 0 0) := hR.2.1.1.2.2.1
        rw [e0, dropS_lo _ _ _ (by decide), addS_e.1, nI_pred]
    · have c5 : ¬ nI (W.1 0 0) < nI 10 := c5
      rw [nI_ltI (by omega) (by decide)] at c5
      rw [if_neg c5] at k
      exact k I L P h
theorem ok9_players {f : Int32 → qMI → qML → qMP → Prop} (h : XR J M I L P W) (k : ∀ I' L' P', XR J M I' L' P' (playersR W).2 → f (playersR W).1 I' L' P') : Sq (d + 7) mX9_players SH0 [.ref 1] I L P (KI f) := by
  obtain ⟨hQ, hN, hO, hA⟩ := id h
  have hP := hQ.1
  obtain ⟨p1, p2, p3, p4, p5, p6, -⟩ := now_P hP
  have e4 : P 3 3 = 4 := ly_3_3 hP
  have e83 : P 82 0 = 83 := ly_82_0 hP
  have e84 : P 83 3 = 84 := ly_83_3 hP
  have hE := hN.1
  have hT := hQ.2.2.2.2.1
  unfold playersR at k
  refine sp_X9_players ⟨by decide, by rw [p1]; decide, ?_⟩
  rw [p5, p1, p2]
  refine ⟨by decide, ok_read hP hT hE fun I5 f5 E5 => ?_⟩
  rw [p5, p6]
  refine ⟨by decide, by decide, fun I10 e10 => ?_⟩
  have f10 : ∀ r, r ≠ 86 → I10 r = I5 r := fun r q => by rw [e10, uI_ne r q]
  have fr : ∀ r, r ≠ 82 → r ≠ 83 → r ≠ 84 → r ≠ 85 → r ≠ 86 → I10 r = I r := fun r q1 q2 q3 q4 q5 => by rw [f10 r q5, f5 r q1 q2 q3 q4]
  have hQ10 : XQ J M I10 L P (W.1, W.2.1, W.2.2.1, (W.2.2.2.1, 0)) := by
    obtain ⟨_, ⟨k1, k2, k3, k4, ⟨w, hw⟩, kS⟩, h3, h4, h5, h6, h7, h8⟩ := hQ
    refine ⟨hP, ⟨by rw [fr 14 (by decide) (by decide) (by decide) (by decide) (by decide)]; exact k1, by rw [fr 14 (by decide) (by decide) (by decide) (by decide) (by decide)]; exact k2, k3, k4, ⟨w, hw⟩, fun i hi => ?_⟩, ?_, fun q => ?_, ⟨by rw [e10]; exact if_pos ⟨rfl, rfl⟩, Nat.zero_le _, fun i hi => absurd hi (Nat.not_lt_zero i)⟩, h6.congr' hP fun r q => fr r (by omega) (by omega) (by omega) (by omega) (by omega), fun r hr => by rw [fr r (by omega) (by omega) (by omega) (by omega) (by omega)]; exact h7 r hr, h8⟩
    · have hi : i ≤ W.2.2.1.2.2 := hi
      have k4 : W.2.2.1.2.2 ≤ 10 := k4
      have fr2 := hw.far (i := i) (by omega)
      exact (kS i hi).congr hP hP (hw.sit (by omega)) (fun r q1 q2 => fr r (by omega) (by omega) (by omega) (by omega) (by omega)) rfl
    · rw [fr 1 (by decide) (by decide) (by decide) (by decide) (by decide)]; exact h3
    · exact (h4 q).congr hP hP (Or.inr (Or.inl rfl)) (fun r q1 q2 => fr r (by omega) (by omega) (by omega) (by omega) (by omega)) rfl
  have hN10 : XS I10 L P 2 W.1 := hN.congr hP hP (Or.inl rfl) (fun r q1 q2 => fr r (by omega) (by omega) (by omega) (by omega) (by omega)) rfl
  cases hr : (rdR W.2.2.2.1 W.2.2.2.2 11 0 W.1).1 with
  | some q =>
    rw [hr] at k
    refine ⟨fun c => absurd c ?_, fun _ => k I10 L P ⟨hQ10, hN10, hO, hA⟩⟩
    show ¬ nI q = -1
    have := rdR_le 11 0 W.1 (Nat.zero_le _) q hr
    have tl := hT.2.1
    exact m1ne (by omega)
  | none =>
    rw [hr] at k
    refine ⟨fun _ => ⟨by rw [p1]; decide, ?_⟩, fun c => absurd rfl c⟩
    rw [p1, p2, e83]
    have E10 : ES SH0 I10 P 83 (rdR W.2.2.2.1 W.2.2.2.2 11 0 W.1).2 := E5.congr (f10 83 (by decide)) (by rw [e84]; exact f10 84 (by decide)) rfl
    refine ⟨by decide, ok_E_copy (by decide) (by rw [e4]; decide) E10 fun I14 f14 E14 => ?_⟩
    rw [e4] at f14
    refine ok9_anew (hQ10.keep fun r hr => ⟨f14 r (by omega) (by omega), rfl⟩) E14 fun I17 L17 hR => ⟨by rw [p1]; decide, ?_⟩
    rw [p1, p2]
    refine ⟨by decide, kI (k I17 L17 P hR) ?_⟩
    have e0 : I17 3 0 = nI (dropS (rdR W.2.2.2.1 W.2.2.2.2 11 0 W.1).2 0 0) := hR.2.1.1.2.2.1
    rw [e0, dropS_lo _ _ _ (by decide)]
end PL
