theorem mS_cg {s t : Sit} (q : ∀ x y, (x ≤ 3 ∨ x = 5 ∨ x = 6) → t x y = s x y) : mS t = mS s := by
  have e0 : t 0 0 = s 0 0 := q 0 0 (by omega)
  have e1 : t 1 = s 1 := funext fun y => q 1 y (by omega)
  have e2 : t 2 = s 2 := funext fun y => q 2 y (by omega)
  have e3 : t 3 = s 3 := funext fun y => q 3 y (by omega)
  have e5 : t 5 0 = s 5 0 := q 5 0 (by omega)
  have e6 : t 6 0 = s 6 0 := q 6 0 (by omega)
  funext r b set
  refine bo_congr ?_
  simp only [okB, unl, earlyP, byesS, seatP, seated, e0, e1, e2, e3, e5, e6]
theorem cnt_cg {s t : Sit} (q : ∀ x y, (x ≤ 3 ∨ x = 5 ∨ x = 6) → t x y = s x y) : allS t = allS s ∧ ∀ N k, whoS t N k = whoS s N k := by
  have e0 : t 0 0 = s 0 0 := q 0 0 (by omega)
  have em := mS_cg q
  constructor
  · show gc (mS t) (lastS (t 0 0)) 0 (2 ^ t 0 0 - 1) = gc (mS s) (lastS (s 0 0)) 0 (2 ^ s 0 0 - 1)
    rw [em, e0]
  · intro N k
    unfold whoS
    rw [em, e0]
/-- a situation that goes on in the same draw -/
theorem OKS_same {s t : Sit} (h : OKS s) (h7 : s 7 0 = 1) (q : ∀ x y, (x ≤ 3 ∨ x = 5 ∨ x = 6) → t x y = s x y) (q7 : t 7 0 = 1) (q8 : t 8 0 = s 8 0) (q20 : ∀ k, t 20 k = s 20 k) (hE : WE t) (hW : WD t) : OKS t := by
  obtain ⟨c1, c2⟩ := cnt_cg q
  obtain ⟨w, o1, o2⟩ := h.2.2.2 h7
  refine ⟨hE, Or.inr q7, fun z => by rw [q7] at z; exact absurd z (by decide), fun _ => ⟨hW, by rw [q8, c1]; exact o1, fun k hk => ?_⟩⟩
  rw [q 0 0 (by omega)] at hk
  rw [q20, q8, c2]
  exact o2 k hk
def playR (W : Wd) : Int32 × Wd := if W.1 7 0 = 1 ∧ W.1 9 0 < lastS (W.1 0 0) then (nI (W.1 9 0 + 1), remW W (playS W.1)) else (-5, W)
theorem playS_lo (s : Sit) (x y : Nat) (h : x ≤ 8 ∨ x = 20) : playS s x y = s x y := by
  unfold playS
  rw [if_neg (by omega), if_neg (by omega), if_neg (by omega)]
section PY
variable {d : Nat} {J : qMI} {M : qML} {I : qMI} {L : qML} {P : qMP} {W : Wd} {s : Sit}
theorem ok9_play {f : Int32 → qMI → qML → qMP → Prop} (h : XR J M I L P W) (k : ∀ I' L' P', XR J M I' L' P' (playR W).2 → f (playR W).1 I' L' P') : Sq (d + 6) mX9_play SH0 [.ref 1] I L P (KI f) := by
  obtain ⟨hQ, hN, hO, hA⟩ := id h
  have hP := hQ.1
  obtain ⟨p1, p2, p3, p4, -⟩ := now_P hP
  have e4 : P 3 3 = 4 := ly_3_3 hP
  have e5 : P 5 5 = 6 := ly_5_5 hP
  have hE := hN.1
  unfold playR at k
  refine sp_X9_play ⟨by decide, by rw [p1]; decide, ?_⟩
  rw [p1, p3]
  refine ⟨by decide, ok_canGoOn hN.2 ⟨fun c => ⟨by rw [p1]; decide, ?_⟩, fun c => ?_⟩⟩
  · have c := b01_n0.mp c
    rw [if_pos c] at k
    rw [p1, p3, p2]
    refine ⟨by decide, ok_goOn hN.2 c.1 hE c.2 fun I11 f11 D11 => ⟨by rw [p4]; decide, ?_⟩⟩
    rw [e5] at f11
    have hE11 : ES SH0 I11 P 3 (playS W.1) := ES_cg (hE.congr (f11 3 (by decide) (by decide)) (by rw [e4]; exact f11 4 (by decide) (by decide)) rfl) fun x y hx => playS_lo W.1 x y (by omega)
    have e7 : playS W.1 7 0 = 1 := by rw [playS_lo _ _ _ (by omega)]; exact c.1
    have hO11 : OKS (playS W.1) := OKS_same hO c.1 (fun x y hx => playS_lo W.1 x y (by omega)) e7 (playS_lo _ _ _ (by omega)) (fun y => playS_lo _ _ _ (by omega)) hE11.2.2.2.2.2.2 (D11.2.2.2.2.2 e7).2.2.2.2.2.2
    have hQ11 : XQ J M I11 L P W := hQ.keep fun r hr => ⟨f11 r (by omega) (by omega), rfl⟩
    rw [p4, p1]
    refine ok_rem hQ11 ⟨hE11, D11⟩ hO11 fun I' L' P' hR => ?_
    obtain ⟨o1, o2, o3, -⟩ := now_P hR.1.1
    rw [o1, o3]
    refine ⟨by decide, by decide, kI (k I' L' P' hR) ?_⟩
    have : I' 5 4 = nI (playS W.1 9 0) := hR.2.1.2.2.2.1
    rw [this]
    have : playS W.1 9 0 = W.1 9 0 + 1 := if_pos ⟨rfl, rfl⟩
    rw [this]
  · rw [if_neg (b01_0.mp c)] at k
    exact k I L P h
end PY
