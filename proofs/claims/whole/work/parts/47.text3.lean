section TW
variable {d : Nat} {I : qMI} {L : qML} {P : qMP} {bt : Nat → Nat} {len : Nat} {s : Sit}
theorem rdR_full {F p : Nat} {s : Sit} (h : 10 ≤ s 0 0) : rdR bt len (F + 1) p s = (some p, s) := by
  show (if 10 ≤ s 0 0 then _ else _) = _
  rw [if_pos h]
theorem rdR_bad {F p : Nat} {s : Sit} (h : ¬ 10 ≤ s 0 0) (hb : ¬ (pl0 bt len s p).2.1 = true) : rdR bt len (F + 1) p s = (some (pl0 bt len s p).1, s) := by
  show (if 10 ≤ s 0 0 then _ else (if (pl0 bt len s p).2.1 = true then _ else _)) = _
  rw [if_neg h, if_neg hb]
theorem rdR_more {F p : Nat} {s : Sit} (h : ¬ 10 ≤ s 0 0) (hb : (pl0 bt len s p).2.1 = true) (hl : (pl0 bt len s p).1 < len) : rdR bt len (F + 1) p s = rdR bt len F ((pl0 bt len s p).1 + 1) (addS s ((pl0 bt len s p).2.2 0) ((pl0 bt len s p).2.2 1) ((pl0 bt len s p).2.2 2) ((pl0 bt len s p).2.2 3)) := by
  show (if 10 ≤ s 0 0 then _ else (if (pl0 bt len s p).2.1 = true then (if (pl0 bt len s p).1 < len then _ else _) else _)) = _
  rw [if_neg h, if_pos hb, if_pos hl]
theorem rdR_end {F p : Nat} {s : Sit} (h : ¬ 10 ≤ s 0 0) (hb : (pl0 bt len s p).2.1 = true) (hl : ¬ (pl0 bt len s p).1 < len) : rdR bt len (F + 1) p s = (none, addS s ((pl0 bt len s p).2.2 0) ((pl0 bt len s p).2.2 1) ((pl0 bt len s p).2.2 2) ((pl0 bt len s p).2.2 3)) := by
  show (if 10 ≤ s 0 0 then _ else (if (pl0 bt len s p).2.1 = true then (if (pl0 bt len s p).1 < len then _ else _) else _)) = _
  rw [if_neg h, if_pos hb, if_neg hl]
theorem ok_read {f : Int32 → qMI → qML → qMP → Prop} (hP : LAY P) (hT : TP I bt len) (hE : ES SH0 I P 3 s)
    (k : ∀ I', (∀ r, r ≠ 82 → r ≠ 83 → r ≠ 84 → r ≠ 85 → I' r = I r) → ES SH0 I' P 83 (rdR bt len 11 0 s).2 → f (match (rdR bt len 11 0 s).1 with | none => -1 | some q => nI q) I' L P) : Sq (d + 6) mX8_read SH0 [.ref 82, .ref 3] I L P (KI f) := by
  have e0 : P 82 0 = 83 := ly_82_0 hP
  have e1 : P 82 1 = 85 := ly_82_1 hP
  have e2 : P 82 2 = 86 := ly_82_2 hP
  have e3 : P 83 3 = 84 := ly_83_3 hP
  have e4 : P 3 3 = 4 := ly_3_3 hP
  have hl := hT.2.1
  refine sp_X8_read (fun x I' L' P' => L' = L ∧ P' = P ∧ (∀ r, r ≠ 82 → r ≠ 83 → r ≠ 84 → r ≠ 85 → I' r = I r) ∧ ∃ (t : Sit) (q F : Nat), x = nI (t 0 0) ∧ 10 ≤ F + t 0 0 ∧ ES SH0 I' P 83 t ∧ I' 82 3 = nI q ∧ q ≤ len ∧ rdR bt len 11 0 s = rdR bt len (F + 1) q t) (fun x _ _ _ => 20 - x.toNatClampNeg) ⟨by decide, fun I2 e => ?_⟩ ?_
  · rw [e0]
    have f2 : ∀ r, r ≠ 82 → I2 r = I r := fun r q => by rw [e, uI_ne r q]
    refine ⟨by decide, ok_E_copy (by decide) (by rw [e3]; decide) (hE.congr (f2 3 (by decide)) (by rw [e4]; exact f2 4 (by decide)) rfl) fun I4 f4 E4 => ⟨by decide, ?_⟩⟩
    rw [e3] at f4
    rw [f4 3 (by decide) (by decide), f2 3 (by decide)]
    refine ⟨rfl, rfl, fun r q1 q2 q3 q4 => by rw [f4 r q2 q3, f2 r q1], s, 0, 10, hE.2.2.1, by omega, E4, ?_, Nat.zero_le _, rfl⟩
    rw [f4 82 (by decide) (by decide), e]; exact if_pos ⟨rfl, rfl⟩
  · rintro x I' L' P' ⟨rfl, rfl, hF, t, q, F, rfl, hn, hE', h3, hq, hR⟩
    have w : WE t := hE'.2.2.2.2.2.2
    have w1 := w.1
    have hT' : TP I' bt len := hT.congr (hF 86 (by decide) (by decide) (by decide) (by decide)) (hF 87 (by decide) (by decide) (by decide) (by decide))
    refine ⟨fun c => ?_, fun c => ⟨by decide, ?_⟩⟩
    · have c : nI 10 ≤ nI (t 0 0) := c
      rw [nI_leI (by decide) (by omega)] at c
      refine ⟨by decide, ?_⟩
      rw [rdR_full c] at hR
      have kk := k I' hF (by rw [hR]; exact hE')
      rw [hR] at kk
      exact kI kk h3.symm
    · have c : ¬ nI 10 ≤ nI (t 0 0) := c
      rw [nI_leI (by decide) (by omega)] at c
      obtain ⟨o1, o2⟩ := pl0_ok (bt := bt) (s := t) hq
      refine ok_readPlayer hP hT' hE' hq h3 fun I5 f5 g5 v5 => ?_
      have hE5 : ES SH0 I5 P' 83 t := hE'.congr (f5 83 (by decide) (by decide)) (by rw [e3]; exact f5 84 (by decide) (by decide)) rfl
      by_cases hb : (pl0 bt len t q).2.1 = true
      · rw [if_pos hb, e1]
        refine ⟨fun _ => ⟨by decide, vin 0 rfl (show 0 < 4 by decide) (by decide), vin 1 rfl (show 1 < 4 by decide) (by decide), vin 2 rfl (show 2 < 4 by decide) (by decide), vin 3 rfl (show 3 < 4 by decide) (by decide), ?_⟩, fun y => absurd y (by decide)⟩
        rw [e0, show Int32.toNatClampNeg 0 = 0 by decide, show Int32.toNatClampNeg 1 = 1 by decide, show Int32.toNatClampNeg 2 = 2 by decide, show Int32.toNatClampNeg 3 = 3 by decide, v5 0 (by decide), v5 1 (by decide), v5 2 (by decide), v5 3 (by decide)]
        have b0 := (o2 0 (by decide)).1
        have b1 := (o2 1 (by decide)).1
        have b2 := (o2 2 (by decide)).1
        have b3 := (o2 3 (by decide)).1
        have b4 := (o2 2 (by decide)).2
        refine ⟨by decide, ok_add hE5 (by omega) b0 b1 b2 b3 (fun z p hp => b4 ⟨rfl, Nat.pos_of_ne_zero z⟩ p hp) fun I15 f15 E15 => ?_⟩
        rw [e3] at f15
        have g15 : I15 82 3 = nI (pl0 bt len t q).1 := by rw [f15 82 (by decide) (by decide)]; exact g5
        have l15 : I15 86 1 = nI len := by rw [f15 86 (by decide) (by decide), f5 86 (by decide) (by decide)]; exact hT'.1
        have f15' : ∀ r, r ≠ 82 → r ≠ 83 → r ≠ 84 → r ≠ 85 → I15 r = I r := fun r q1 q2 q3 q4 => by rw [f15 r q2 q3, f5 r q1 q4, hF r q1 q2 q3 q4]
        rw [e2, g15, l15]
        refine ⟨by decide, fun c2 I20 e20 => ?_, fun c2 => ?_⟩
        · rw [nI_ltI (by omega) (by omega)] at c2
          rw [rdR_more c hb c2] at hR
          have f20 : ∀ r, r ≠ 82 → I20 r = I15 r := fun r q => by rw [e20, uI_ne r q]
          have ea := (addS_e (s := t) (a := (pl0 bt len t q).2.2 0) (b := (pl0 bt len t q).2.2 1) (c := (pl0 bt len t q).2.2 2) (g := (pl0 bt len t q).2.2 3)).1
          obtain ⟨F0, eF⟩ : ∃ F0, F = F0 + 1 := ⟨F - 1, by omega⟩
          rw [eF] at hR
          refine ⟨⟨rfl, rfl, fun r q1 q2 q3 q4 => by rw [f20 r q1]; exact f15' r q1 q2 q3 q4, _, (pl0 bt len t q).1 + 1, F0, by rw [ea]; exact nI_1 _, by rw [ea]; omega, E15.congr (f20 83 (by decide)) (by rw [e3]; exact f20 84 (by decide)) rfl, ?_, by omega, hR⟩, ?_⟩
          · rw [e20]
            exact (if_pos ⟨rfl, rfl⟩).trans (nI_1 _)
          · rw [nI_1, clN (by omega), clN (by omega)]; omega
        · rw [nI_ltI (by omega) (by omega)] at c2
          rw [rdR_end c hb c2] at hR
          have kk := k I15 f15' (by rw [hR]; exact E15)
          rw [hR] at kk
          exact kk
      · rw [if_neg hb]
        refine ⟨fun y => absurd rfl y, fun _ => ?_⟩
        rw [rdR_bad c hb] at hR
        have kk := k I5 (fun r q1 q2 q3 q4 => by rw [f5 r q1 q4, hF r q1 q2 q3 q4]) (by rw [hR]; exact hE5)
        rw [hR] at kk
        exact kI kk g5.symm
end TW
