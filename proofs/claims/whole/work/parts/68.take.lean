section TK
variable {d : Nat} {J : qMI} {M : qML} {I : qMI} {L : qML} {P : qMP} {W : Wd}
theorem takeS_lo (s : Sit) (N x y : Nat) (h : x ≤ 6) : takeS s N x y = s x y := by
  unfold takeS
  rw [if_neg (by omega), if_neg (by omega), if_neg (by omega), if_neg (by omega), if_neg (by omega)]
theorem take_OKS {s : Sit} {N : Nat} (h : WE s) (hn2 : 2 ≤ s 0 0) (hN : N < allS s) : OKS (takeS s N) := by
  obtain ⟨e0, e5, e6, e7, e8, e9, ep⟩ := takeS_e s N
  obtain ⟨c1, c2⟩ := cnt_cg (s := s) (t := takeS s N) fun x y hx => takeS_lo s N x y (by omega)
  exact ⟨WE_cg h fun x y hx => takeS_lo s N x y hx, Or.inr e7, fun _ => e9, fun _ => ⟨take_WD h.1 hn2 hN, by rw [e8, c1]; exact hN, fun t _ => by rw [(ep t).2.2.2.2.2, e8, c2]⟩⟩
theorem ok9_takeN {N : Nat} {u : Sit} {f : qMI → qML → qMP → Prop} (h : XR J M I L P W) (hn2 : 2 ≤ W.1 0 0) (hN : N < allS W.1) (hu : SameD u W.1) (hC : CR I L P 88 u) (k : ∀ I' L' P', XR J M I' L' P' (remW W (takeS W.1 N)) → f I' L' P') : Sq (d + 5) mX9_takeNumbered SH0 [.ref 1, .long (lN N)] I L P (KV f) := by
  obtain ⟨hQ, hX, hO, hA⟩ := id h
  have hP := hQ.1
  obtain ⟨p1, p2, p3, p4, p5, p6, p7, p8, p9, -⟩ := now_P hP
  have e4 : P 3 3 = 4 := ly_3_3 hP
  have e55 : P 5 5 = 6 := ly_5_5 hP
  have e56 : P 5 6 = 7 := ly_5_6 hP
  have hE := hX.1
  have hn := hO.1.1
  have hsl := slotsS_in (W.1 0 0)
  have hl := lastS_le (W.1 0 0)
  have un : u 0 0 ≤ 10 := by rw [hu.1]; exact hn
  have un2 : 2 ≤ u 0 0 := by rw [hu.1]; exact hn2
  have uN : N < allS u := by rw [(all_sameD hu).1]; exact hN
  obtain ⟨e0, e5, e6, e7, e8, e9, ep⟩ := takeS_e W.1 N
  refine sp_X9_takeNumbered ⟨by decide, by rw [p1]; decide, ?_⟩
  rw [p1, p3, p9, p7, e55]
  refine ⟨by decide, by decide, ok_lay hP hC un (by rw [all_same un un2]; exact uN) fun I5 L5 f5 g5 w5 => ⟨by rw [p1]; decide, ?_⟩⟩
  rw [p1, p3, p2]
  have hE5 : ES SH0 I5 P 3 W.1 := hE.congr (f5 3 (by decide) (by decide)) (by rw [e4]; exact f5 4 (by decide) (by decide)) rfl
  refine ⟨by decide, ok_begin (sit_DSh hP (Or.inl rfl)) hE5 fun I10 L10 f10 g10 a0 a4 a2 a3 a1 a6 => ⟨by rw [p4]; decide, ?_⟩⟩
  rw [p4, p1]
  have f10 : ∀ r, r ≠ 5 → r ≠ 7 → I10 r = I5 r := fun r q1 q2 => f10 r q1 (by show r ≠ P 5 6; rw [e56]; exact q2)
  have g10 : ∀ r, r ≠ 5 → L10 r = L5 r := g10
  have a6 : ∀ j, j < 16 → I10 7 j = -1 := fun j hj => by have := a6 j hj; rw [show P (2 + 3) 6 = 7 from e56] at this; exact this
  have a0 : I10 5 0 = 1 := a0
  have a1 : L10 5 1 = lN N := a1
  have a2 : I10 5 2 = nI (slotsS (W.1 0 0)) := a2
  have a3 : I10 5 3 = nI (lastS (W.1 0 0)) := a3
  have a4 : I10 5 4 = 0 := a4
  have hQ10 : XQ J M I10 L10 P W := hQ.keep fun r hr => ⟨by rw [f10 r (by omega) (by omega), f5 r (by omega) (by omega)], by rw [g10 r (by omega), g5 r (by omega)]⟩
  have hE10 : ES SH0 I10 P 3 (takeS W.1 N) := ES_cg (hE5.congr (f10 3 (by decide) (by decide)) (by rw [e4]; exact f10 4 (by decide) (by decide)) rfl) fun x y hx => takeS_lo W.1 N x y hx
  have hWD := take_WD hn hn2 hN
  have hD10 : DS SH0 I10 L10 P 5 (takeS W.1 N) := by
    refine ⟨sit_DSh hP (Or.inl rfl), by rw [e7]; exact a0, by rw [e9]; exact a4, Or.inr e7, fun _ => e9, fun _ => ⟨by rw [e8]; exact a1, by rw [e0]; exact a2, by rw [e0]; exact a3, fun r j h1 h2 => ?_, fun j h1 h2 => ?_, fun r j h1 h2 h3 => ?_, hWD⟩⟩
    · rw [e9] at h1
      have hr : r = 0 := by omega
      subst hr
      rw [e0, TB_0] at h2 ⊢
      rw [e55, f10 6 (by decide) (by decide)]
      have := w5 j (by rw [hu.1]; exact h2)
      rw [hu.1] at this
      rw [this]
      show _ = nI (takeS W.1 N 20 j)
      rw [(ep j).2.2.2.2.2, ← (all_sameD hu).2 N j, ← who_same un un2 uN (show j < slotsS (u 0 0) by rw [hu.1]; exact h2), hu.1]
    · rw [e0, e9] at h1 h2 ⊢
      have t := (TB_all _ hn (0 + 1) (by omega)).2.2.2.2 (by omega)
      rw [e56, a6 _ (by omega), (ep j).2.2.2.2.1]
      decide
    · rw [e9] at h1
      rw [e0] at h2 h3 ⊢
      have t := (TB_all _ hn r h2).2.2.2.2 (by omega)
      rw [e56]
      exact a6 _ (by omega)
  exact ok_rem hQ10 ⟨hE10, hD10⟩ (take_OKS hO.1 hn2 hN) fun I' L' P' hR => k I' L' P' hR
end TK
section TK2
variable {d : Nat} {J : qMI} {M : qML} {I : qMI} {L : qML} {P : qMP} {W : Wd}
noncomputable def takeR (W : Wd) (x : Int64) : Int32 × Wd := if 2 ≤ W.1 0 0 then (if 0 ≤ x.toInt ∧ x.toInt < allS W.1 then (nI (slotsS (W.1 0 0) - W.1 0 0), remW W (takeS W.1 x.toInt.toNat)) else (-2, W)) else (-5, W)
theorem lt0_l {x : Int64} (h : x < 0) : x.toInt < 0 := by
  have := Int64.lt_iff_toInt_lt.mp h
  exact this
theorem ok9_take {x : Int64} {f : Int32 → qMI → qML → qMP → Prop} (h : XR J M I L P W) (k : ∀ I' L' P', XR J M I' L' P' (takeR W x).2 → f (takeR W x).1 I' L' P') : Sq (d + 8) mX9_take SH0 [.ref 1, .long x] I L P (KI f) := by
  have hP := h.1.1
  obtain ⟨p1, p2, -⟩ := now_P hP
  have hn := h.2.2.1.1.1
  have v0 : I 3 0 = nI (W.1 0 0) := h.2.1.1.2.2.1
  have e2 : 2 ≤ I 3 0 ↔ 2 ≤ W.1 0 0 := by rw [v0]; exact nI_leI (a := 2) (by decide) (by omega)
  have ha := allS_le hn
  unfold takeR at k
  refine sp_X9_take ⟨by decide, by rw [p1]; decide, ?_⟩
  rw [p1, p2]
  refine ⟨by decide, fun c => ⟨fun c1 => ?_, fun c1 => ?_⟩, fun c => ?_⟩
  · have c := e2.mp c
    have := lt0_l c1
    rw [if_pos c, if_neg (fun q => by omega)] at k
    exact k I L P h
  · have c := e2.mp c
    obtain ⟨N, hN, rfl⟩ := pk_lOf c1
    rw [if_pos c, pk_lT hN, Int.toNat_natCast] at k
    refine ok9_all h c fun I7 L7 hR ⟨u, u1, u2, u3, _⟩ => ⟨fun c2 => ?_, fun c2 => ?_⟩
    · have c2 := (pk_lLT hN (by omega)).mp c2
      rw [if_pos ⟨by omega, by omega⟩] at k
      refine ok9_takeN hR c c2 u1 u3 fun I11 L11 P11 hR11 => ?_
      obtain ⟨o1, o2, -⟩ := now_P hR11.1.1
      rw [o1]
      refine ⟨by decide, ?_⟩
      rw [o2]
      refine ⟨by decide, ok_byes hR11.2.1.1 (kI (k I11 L11 P11 hR11) ?_)⟩
      have e : takeS W.1 N 0 0 = W.1 0 0 := (takeS_e W.1 N).1
      show nI (slotsS (W.1 0 0) - W.1 0 0) = nI (slotsS (takeS W.1 N 0 0) - takeS W.1 N 0 0)
      rw [e]
    · have c2 : ¬ N < allS W.1 := fun q => c2 ((pk_lLT hN (by omega)).mpr q)
      rw [if_neg (fun q => by omega)] at k
      exact k I7 L7 P hR
  · rw [if_neg (fun q => c (e2.mpr q))] at k
    exact k I L P h
def mixN (x : Int32) : Nat := (x * 1103515245 + 12345).toBitVec.toNat % 2 ^ 31 / 256
theorem mixN_eq (x : Int32) : Int32.toInt64 (((x * 1103515245 + 12345) &&& 2147483647) / 256) = lN (mixN x) ∧ mixN x < 8388608 := by
  have h1 : (x * 1103515245 + 12345) &&& 2147483647 = nI ((x * 1103515245 + 12345).toBitVec.toNat % 2 ^ 31) := pk_and _ 31 (by decide)
  have h2 : (x * 1103515245 + 12345).toBitVec.toNat % 2 ^ 31 < 2147483648 := Nat.mod_lt _ (by decide)
  unfold mixN
  rw [h1]
  generalize (x * 1103515245 + 12345).toBitVec.toNat % 2 ^ 31 = q at *
  rw [show nI q / 256 = nI (q / 256) from pk_div h2 (by decide) (by decide), nI_l (by omega)]
  exact ⟨rfl, by omega⟩
noncomputable def drawnR (W : Wd) (x : Int32) : Int64 × Wd := if 2 ≤ W.1 0 0 then (if allS W.1 = 0 then (-2, W) else (lN (mixN x % allS W.1), remW W (takeS W.1 (mixN x % allS W.1)))) else (-5, W)
theorem ok9_drawn {x : Int32} {f : Int64 → qMI → qML → qMP → Prop} (h : XR J M I L P W) (k : ∀ I' L' P', XR J M I' L' P' (drawnR W x).2 → f (drawnR W x).1 I' L' P') : Sq (d + 8) mX9_drawn SH0 [.ref 1, .int x] I L P (KL f) := by
  have hP := h.1.1
  obtain ⟨p1, p2, -⟩ := now_P hP
  have hn := h.2.2.1.1.1
  have v0 : I 3 0 = nI (W.1 0 0) := h.2.1.1.2.2.1
  have e2 : 2 ≤ I 3 0 ↔ 2 ≤ W.1 0 0 := by rw [v0]; exact nI_leI (a := 2) (by decide) (by omega)
  have ha := allS_le hn
  obtain ⟨m1, m2⟩ := mixN_eq x
  unfold drawnR at k
  refine sp_X9_drawn ⟨by decide, by rw [p1]; decide, ?_⟩
  rw [p1, p2]
  refine ⟨by decide, fun c => ?_, fun c => ?_⟩
  · have c := e2.mp c
    rw [if_pos c] at k
    refine ok9_all h c fun I7 L7 hR ⟨u, u1, u2, u3, _⟩ => ⟨fun c2 => ?_, fun c2 => ?_⟩
    · have c2 := (pk_lLE (a := 1) (by decide) (by omega)).mp c2
      rw [if_neg (by omega)] at k
      rw [m1, pk_lRem (by omega) (by omega) (by omega)]
      refine ⟨fun q => by have := (pk_lEQ (b := 0) (by omega) (by decide)).mp q; omega, ok9_takeN hR c (Nat.mod_lt _ (by omega)) u1 u3 fun I11 L11 P11 hR11 => k I11 L11 P11 hR11⟩
    · have c2 : ¬ 1 ≤ allS W.1 := fun q => c2 ((pk_lLE (a := 1) (by decide) (by omega)).mpr q)
      rw [if_pos (by omega)] at k
      exact k I7 L7 P hR
  · rw [if_neg (fun q => c (e2.mpr q))] at k
    exact k I L P h
end TK2
