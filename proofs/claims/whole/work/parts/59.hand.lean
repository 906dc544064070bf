def handS (s : Sit) (p : Nat) : Sit := up s 11 (slotI s p / 2 ^ (s 9 0 + 1)) (1 + p)
abbrev isThr (s : Sit) (p : Nat) : Prop := s (20 + s 9 0) (slotI s p / 2 ^ s 9 0) = p
def byHandR (W : Wd) (x : Int32) : Int32 × Wd := if isP (W.1 0 0) x then (if (W.1 7 0 = 1 ∧ W.1 9 0 < lastS (W.1 0 0)) ∧ isThr W.1 x.toNatClampNeg then (nI (W.1 (20 + W.1 9 0) ((slotI W.1 x.toNatClampNeg / 2 ^ W.1 9 0) ^^^ 1)), remW W (handS W.1 x.toNatClampNeg)) else (-5, W)) else (-1, W)
section BH
variable {d : Nat} {J : qMI} {M : qML} {I : qMI} {L : qML} {P : qMP} {W : Wd} {s : Sit}
theorem handS_ne (s : Sit) (p x y : Nat) (h : x ≠ 11) : handS s p x y = s x y := up_ne (by omega)
theorem hand_WD {p j : Nat} (w : WD s) (hp : p < s 0 0) (hj : j < slotsS (s 0 0)) (ej : s 20 j = p) (hr : s 9 0 < lastS (s 0 0)) (ht : s (20 + s 9 0) (j / 2 ^ s 9 0) = p) : WD (handS s p) := by
  have ei := slotI_eq w hp hj ej
  have e0 : handS s p 0 0 = s 0 0 := handS_ne _ _ _ _ (by decide)
  have e9 : handS s p 9 0 = s 9 0 := handS_ne _ _ _ _ (by decide)
  have e20 : handS s p 20 = s 20 := funext fun y => handS_ne _ _ _ _ (by decide)
  have er : ∀ r, handS s p (20 + r) = s (20 + r) := fun r => funext fun y => handS_ne _ _ _ _ (by omega)
  obtain ⟨w1, w2, w3, w4, w5, w6, w7, w8, w9⟩ := w
  unfold WD
  rw [e0, e9, e20]
  simp only [er]
  refine ⟨w1, w2, w3, w4, w5, w6, w7, w8, fun k h1 h2 h3 => ?_⟩
  unfold handS at h3 ⊢
  rw [ei] at h3 ⊢
  by_cases c : k = j / 2 ^ (s 9 0 + 1)
  · subst c
    rw [up_at]
    have hd : j / 2 ^ (s 9 0 + 1) = j / 2 ^ s 9 0 / 2 := by rw [Nat.pow_succ, Nat.div_div_eq_div_mul]
    rw [hd]
    have : j / 2 ^ s 9 0 = 2 * (j / 2 ^ s 9 0 / 2) ∨ j / 2 ^ s 9 0 = 2 * (j / 2 ^ s 9 0 / 2) + 1 := by omega
    rcases this with z | z
    · left; rw [← z, ht]; omega
    · right; rw [← z, ht]; omega
  · rw [up_ne (fun q => c q.2)] at h3 ⊢
    exact w9 k h1 h2 h3
theorem hand_DS {p j : Nat} {I' : qMI} (hP : LAY P) (hD : DS SH0 I L P 5 s) (h7 : s 7 0 = 1) (hp : p < s 0 0) (hj : j < slotsS (s 0 0)) (ej : s 20 j = p) (hr : s 9 0 < lastS (s 0 0)) (ht : s (20 + s 9 0) (j / 2 ^ s 9 0) = p) (eI : I' = uI I 7 (TB (s 0 0) (s 9 0 + 1) + j / 2 ^ (s 9 0 + 1)) (nI p)) : DS SH0 I' L P 5 (handS s p) := by
  obtain ⟨hd, g1, g2, g3, g4, v⟩ := hD
  obtain ⟨v1, v2, v3, v4, v5, v6, w⟩ := v h7
  have ei := slotI_eq w hp hj ej
  have hn := w.2.2.1
  have hb := (TB_blk _ hn (s 9 0 + 1) (by omega) j hj).2
  have e0 : handS s p 0 0 = s 0 0 := handS_ne _ _ _ _ (by decide)
  have e7 : handS s p 7 0 = s 7 0 := handS_ne _ _ _ _ (by decide)
  have e8 : handS s p 8 0 = s 8 0 := handS_ne _ _ _ _ (by decide)
  have e9 : handS s p 9 0 = s 9 0 := handS_ne _ _ _ _ (by decide)
  have er : ∀ r, handS s p (20 + r) = s (20 + r) := fun r => funext fun y => handS_ne _ _ _ _ (by omega)
  have P5 : P 5 5 = 6 := ly_5_5 hP
  have P6 : P 5 6 = 7 := ly_5_6 hP
  have f : ∀ r, r ≠ 7 → I' r = I r := fun r q => by rw [eI, uI_ne r q]
  rw [P5] at v4
  rw [P6] at v5 v6
  refine ⟨hd, by rw [e7, f 5 (by decide)]; exact g1, by rw [e9, f 5 (by decide)]; exact g2, by rw [e7]; exact g3, by rw [e7, e9]; exact g4, fun _ => ⟨by rw [e8]; exact v1, by rw [e0, f 5 (by decide)]; exact v2, by rw [e0, f 5 (by decide)]; exact v3, ?_, ?_, ?_, hand_WD w hp hj ej hr ht⟩⟩
  · rw [e0, e9, P5, f 6 (by decide)]
    simp only [er]
    exact v4
  · rw [e0, e9, P6]
    intro k h1 h2
    unfold handS
    rw [ei, eI]
    by_cases c : k = j / 2 ^ (s 9 0 + 1)
    · subst c
      rw [up_at]
      refine (if_pos ⟨rfl, rfl⟩).trans ?_
      exact (pk_sub (a := 1 + p) (b := 1) (by omega)).symm ▸ (by rw [show 1 + p - 1 = p by omega])
    · rw [up_ne (fun q => c q.2)]
      refine (if_neg (fun q => c (by omega))).trans ?_
      exact v5 k h1 h2
  · rw [e0, e9, P6]
    intro r k h1 h2 h3
    rw [eI]
    refine (if_neg (fun q => ?_)).trans (v6 r k h1 h2 h3)
    have := TB_inj hn h2 (show s 9 0 + 1 ≤ lastS (s 0 0) by omega) h3 hb q.2
    omega
theorem ok9_byHand {x : Int32} {f : Int32 → qMI → qML → qMP → Prop} (h : XR J M I L P W) (k : ∀ I' L' P', XR J M I' L' P' (byHandR W x).2 → f (byHandR W x).1 I' L' P') : Sq (d + 6) mX9_byHand SH0 [.ref 1, .int x] I L P (KI f) := by
  obtain ⟨hQ, hN, hO, hA⟩ := id h
  have hP := hQ.1
  obtain ⟨p1, p2, p3, p4, -⟩ := now_P hP
  have hE := hN.1
  have hn := hO.1.1
  have P6 : P 5 6 = 7 := ly_5_6 hP
  unfold byHandR at k
  refine sp_X9_byHand ⟨by decide, by rw [p1]; decide, ?_⟩
  rw [p1, p2]
  refine ⟨by decide, ok_has hE ⟨fun c => ⟨by rw [p1]; decide, ?_⟩, fun c => ?_⟩⟩
  · have c := b01_n0.mp c
    rw [if_pos c] at k
    obtain ⟨p, hp, rfl, hc⟩ := cl_isP c (by omega)
    rw [hc] at k
    rw [p1, p3]
    refine ⟨by decide, ok_canGoOn hN.2 ⟨fun c2 => ?_, fun c2 => ⟨by rw [p1]; decide, ?_⟩⟩⟩
    · rw [if_neg (fun q => b01_0.mp c2 q.1)] at k
      exact k I L P h
    · have c2 := b01_n0.mp c2
      have v := hN.2.2.2.2.2.2 c2.1
      have w : WD W.1 := v.2.2.2.2.2.2
      have g2 : I 5 4 = nI (W.1 9 0) := hN.2.2.2.1
      rw [p1, p3, g2]
      refine ⟨by decide, ok_isIn hN.2.1 v hp (Nat.le_refl _) fun j hj ej => ⟨fun c3 => ⟨by rw [p1]; decide, ?_⟩, fun c3 => ?_⟩⟩
      · have c3 := b01_n0.mp c3
        have ei := slotI_eq w hp hj ej
        rw [if_pos ⟨c2, by unfold isThr; rw [ei]; exact c3⟩, ei] at k
        rw [p1, p3]
        refine ⟨by decide, ok_favour hN.2.1 v g2 hp c2.2 fun i hi e2 => ⟨by rw [p4]; decide, ?_⟩⟩
        have : i = j := by rw [← slotI_eq w hp hi e2, ei]
        subst this
        rw [P6, p4, p1]
        have fr : ∀ r, r ≠ 7 → uI I 7 (TB (W.1 0 0) (W.1 9 0 + 1) + i / 2 ^ (W.1 9 0 + 1)) (nI p) r = I r := fun r q => uI_ne r q
        have hQ9 : XQ J M (uI I 7 (TB (W.1 0 0) (W.1 9 0 + 1) + i / 2 ^ (W.1 9 0 + 1)) (nI p)) L P W := hQ.keep fun r hr => ⟨fr r (by omega), rfl⟩
        have hD9 := hand_DS hP hN.2 c2.1 hp hj ej c2.2 c3 rfl
        have hE9 : ES SH0 (uI I 7 (TB (W.1 0 0) (W.1 9 0 + 1) + i / 2 ^ (W.1 9 0 + 1)) (nI p)) P 3 (handS W.1 p) := ES_cg (hE.congr (fr 3 (by decide)) (by rw [ly_3_3 hP]; exact fr 4 (by decide)) rfl) fun x y hx => handS_ne _ _ _ _ (by omega)
        have hO9 : OKS (handS W.1 p) := OKS_same hO c2.1 (fun x y hx => handS_ne _ _ _ _ (by omega)) (by rw [handS_ne _ _ _ _ (by decide)]; exact c2.1) (handS_ne _ _ _ _ (by decide)) (fun y => handS_ne _ _ _ _ (by decide)) hE9.2.2.2.2.2.2 (hand_WD w hp hj ej c2.2 c3)
        refine ok_rem hQ9 ⟨hE9, hD9⟩ hO9 fun I' L' P' hR => ?_
        obtain ⟨o1, o2, o3, -⟩ := now_P hR.1.1
        have e9 : handS W.1 p 9 0 = W.1 9 0 := handS_ne _ _ _ _ (by decide)
        have e0 : handS W.1 p 0 0 = W.1 0 0 := handS_ne _ _ _ _ (by decide)
        have g2' : I' 5 4 = nI (W.1 9 0) := by rw [← e9]; exact hR.2.1.2.2.2.1
        rw [o1, o3, g2', nI_1]
        have v' : DV I' L' P' 5 (handS W.1 p) := hR.2.1.2.2.2.2.2.2 (by show handS W.1 p 7 0 = 1; rw [handS_ne _ _ _ _ (by decide)]; exact c2.1)
        refine ⟨by decide, by decide, ok_opponent (s := handS W.1 p) hR.2.1.2.1 v' (by rw [e0]; exact hp) (by rw [e9]; exact Nat.le_refl _) (by rw [e0]; exact c2.2) fun q hq eq => ?_⟩
        rw [e0] at hq
        rw [handS_ne _ _ _ _ (by decide)] at eq
        rw [handS_ne _ _ _ _ (by omega), ← slotI_eq w hp hq eq, ei]
        exact k I' L' P' hR
      · have c3 := b01_0.mp c3
        rw [if_neg (fun q => c3 (by have := q.2; unfold isThr at this; rw [slotI_eq w hp hj ej] at this; exact this))] at k
        exact k I L P h
  · rw [if_neg (b01_0.mp c)] at k
    exact k I L P h
end BH
