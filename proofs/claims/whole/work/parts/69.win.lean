/-! ===== wins, the likely winner ===== -/
noncomputable def winsV (s : Sit) (x : Int32) : Int64 := if isP (s 0 0) x then (if 2 ≤ s 0 0 ∧ s 0 0 ≤ 8 then (if ∀ q, q < s 0 0 → q ≠ x.toNatClampNeg → beatsS s x.toNatClampNeg q then lN (allS s) else 0) else -5) else -1
theorem best_iff {s : Sit} {b p : Nat} (h : Best s b) (hp : p < s 0 0) : b = p ↔ ∀ q, q < s 0 0 → q ≠ p → beatsS s p q := by
  obtain ⟨h1, h2⟩ := h.2 (by omega)
  constructor
  · rintro rfl; exact h2
  · intro g
    refine Classical.byContradiction fun c => ?_
    have a1 := h2 p hp (fun q => c q.symm)
    have a2 := g b h1 c
    unfold beatsS at a1 a2
    omega
def finS : Nat → Sit → Sit
  | 0, s => s
  | f + 1, s => if s 9 0 < lastS (s 0 0) then finS f (playS s) else s
theorem finS_end {s : Sit} (h : ¬ s 9 0 < lastS (s 0 0)) : ∀ f, finS f s = s
  | 0 => rfl
  | f + 1 => if_neg h
def winnerV (s : Sit) : Int32 := if s 7 0 = 1 then nI (finS 4 s (20 + lastS (s 0 0)) 0) else -5
section WN
variable {d : Nat} {J : qMI} {M : qML} {I : qMI} {L : qML} {P : qMP} {W : Wd}
theorem ok9_wins {x : Int32} {f : Int64 → qMI → qML → qMP → Prop} (h : XR J M I L P W) (k : ∀ I' L', XR J M I' L' P W → f (winsV W.1 x) I' L' P) : Sq (d + 8) mX9_wins SH0 [.ref 1, .int x] I L P (KL f) := by
  have hP := h.1.1
  obtain ⟨p1, p2, -⟩ := now_P hP
  have hE := h.2.1.1
  have hn := h.2.2.1.1.1
  have v0 : I 3 0 = nI (W.1 0 0) := hE.2.2.1
  unfold winsV at k
  refine sp_X9_wins ⟨by decide, by rw [p1]; decide, ?_⟩
  rw [p1, p2]
  refine ⟨by decide, ok_has hE ⟨fun c => ⟨by rw [p1]; decide, ?_⟩, fun c => ?_⟩⟩
  · have c := b01_n0.mp c
    rw [if_pos c] at k
    rw [p1, p2, v0]
    refine ⟨by decide, fun c2 => ?_, fun c2 => ⟨fun c3 => ?_, fun c3 => ?_⟩⟩
    · have c2 := (nI_ltI (b := 2) (by omega) (by decide)).mp c2
      rw [if_neg (by omega)] at k
      exact k I L h
    · have c2 : ¬ W.1 0 0 < 2 := fun q => c2 ((nI_ltI (b := 2) (by omega) (by decide)).mpr q)
      have c3 := (nI_leI (b := 8) (by omega) (by decide)).mp c3
      rw [if_pos (by omega)] at k
      obtain ⟨p, hp, rfl, hcp⟩ := cl_isP c (by omega)
      rw [hcp] at k
      refine ok_strongest hE fun b hb => ⟨fun c4 => ?_, fun c4 => ?_⟩
      · have hbn := (hb.2 (by omega)).1
        rw [if_neg (fun q => c4 (by rw [(best_iff hb hp).mpr q]))] at k
        exact k I L h
      · have hbn := (hb.2 (by omega)).1
        have c4 := nI_inj (by omega) (by omega) c4
        rw [if_pos ((best_iff hb hp).mp c4)] at k
        exact ok9_all h (by omega) fun I' L' hR _ => k I' L' hR
    · have c3 : ¬ W.1 0 0 ≤ 8 := fun q => c3 ((nI_leI (b := 8) (by omega) (by decide)).mpr q)
      rw [if_neg (by omega)] at k
      exact k I L h
  · rw [if_neg (b01_0.mp c)] at k
    exact k I L h
theorem ok9_winner {f : Int32 → qMI → qML → qMP → Prop} (h : XR J M I L P W) (k : ∀ I' L', XR J M I' L' P W → f (winnerV W.1) I' L' P) : Sq (d + 6) mX9_winner SH0 [.ref 1] I L P (KI f) := by
  have hP := h.1.1
  obtain ⟨p1, p2, p3, p4, p5, p6, p7, p8, p9, p10, p11, -⟩ := now_P hP
  have hX := h.2.1
  have e5 : P 141 5 = 142 := ly_141_5 hP
  have e6 : P 141 6 = 143 := ly_141_6 hP
  have e4 : P 3 3 = 4 := ly_3_3 hP
  have hd : DSh SH0 P 141 := ⟨by decide, by rw [e5]; decide, by rw [e6]; decide⟩
  have hn := h.2.2.1.1.1
  unfold winnerV at k
  refine sp_X9_winner (fun x I' L' P' => P' = P ∧ (∀ r, (r < 141 ∨ 143 < r) → I' r = I r ∧ L' r = L r) ∧ W.1 7 0 = 1 ∧ ∃ t g, x = nI (t 9 0) ∧ DS SH0 I' L' P 141 t ∧ t 7 0 = 1 ∧ (∀ a b, a ≤ 6 → t a b = W.1 a b) ∧ finS g t = finS 4 W.1 ∧ lastS (W.1 0 0) ≤ t 9 0 + g) (fun x _ _ _ => 20 - x.toNatClampNeg) ⟨by decide, by rw [p1]; decide, ?_⟩ ?_
  · rw [p1, p3]
    refine ⟨by decide, ?_⟩
    rcases now_d hX h.2.2.1 with ⟨d1, d2⟩ | ⟨d1, d2, v, w⟩
    · rw [if_neg (by rw [d2]; decide)] at k
      exact ⟨fun q => absurd d1 q, fun _ => k I L h⟩
    · rw [if_pos d2] at k
      refine ⟨fun _ => ⟨by rw [p11]; decide, ?_⟩, fun q => absurd q d1⟩
      rw [p11]
      refine ok_D_copy hd hX.2 fun I6 L7 f6 g6 D6 => ⟨by rw [p11]; decide, ?_⟩
      rw [p11]
      rw [e5, e6] at f6
      have hw := w.1
      have hl := lastS_le (W.1 0 0)
      exact ⟨rfl, fun r hr => ⟨f6 r (by omega) (by omega) (by omega), g6 r (by omega)⟩, d2, W.1, 4, D6.2.2.1, D6, d2, fun _ _ _ => rfl, rfl, by omega⟩
  · rintro x I1 L1 P1 ⟨rfl, hF, d2, t, g, rfl, D, t7, tl, hf, hg⟩
    have v := D.2.2.2.2.2 t7
    have w := v.2.2.2.2.2.2
    have e0 : t 0 0 = W.1 0 0 := tl 0 0 (by decide)
    have hw := w.1
    have hl := lastS_le (W.1 0 0)
    rw [e0] at hw
    have i3 : I1 141 3 = nI (lastS (t 0 0)) := v.2.2.1
    have hR : XR J M I1 L1 P1 W := h.keep fun r hr => hF r (by omega)
    refine ⟨by decide, by rw [p11]; decide, ?_⟩
    rw [p11, i3, e0]
    refine ⟨fun c => ?_, fun c => ?_⟩
    · have c := (nI_leI (by omega) (by omega)).mp c
      have t9 : t 9 0 = lastS (W.1 0 0) := by omega
      refine ok_cameThrough D.1 v (by omega) (by omega) (j := 0) (by rw [e0, TB_last _ hn]; decide) (kI (k I1 L1 hR) ?_)
      rw [if_pos d2, ← hf, finS_end (by rw [e0]; omega)]
    · have c : t 9 0 < lastS (W.1 0 0) := Nat.lt_of_not_le fun q => c (nI_le q (by omega))
      rw [p1]
      refine ⟨by decide, ?_⟩
      rw [p2]
      have hE1 : ES SH0 I1 P1 3 t := ES_cg (h.2.1.1.congr (hF 3 (by omega)).1 (by rw [e4]; exact (hF 4 (by omega)).1) rfl) tl
      refine ok_goOn D t7 hE1 (by rw [e0]; exact c) fun I9 f9 D9 => ⟨⟨rfl, fun r hr => ⟨?_, (hF r hr).2⟩, d2, playS t, g - 1, ?_, D9, by rw [playS_lo _ _ _ (by omega)]; exact t7, fun a b hab => ?_, ?_, ?_⟩, ?_⟩
      · rw [e5] at f9
        rw [f9 r (by omega) (by omega)]; exact (hF r hr).1
      · rw [playS_9, nI_1]
      · rw [playS_lo _ _ _ (by omega)]; exact tl a b hab
      · rw [← hf]
        obtain ⟨g', rfl⟩ : ∃ g', g = g' + 1 := ⟨g - 1, by omega⟩
        show finS (g' + 1 - 1) (playS t) = if t 9 0 < lastS (t 0 0) then finS g' (playS t) else t
        rw [if_pos (by rw [e0]; exact c), Nat.add_sub_cancel]
      · rw [playS_9]; omega
      · rw [nI_1, clN (by omega), clN (by omega)]; omega
end WN
