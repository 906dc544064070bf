section ST
variable {d : Nat} {J : qMI} {M : qML} {I : qMI} {L : qML} {P : qMP} {W : Wd}
noncomputable def standsV (s : Sit) (x y : Int32) : Int64 := if isP (s 0 0) x ∧ isP (slotsS (s 0 0)) y then (if 2 ≤ s 0 0 then lN (cntM s (moP x.toNatClampNeg y.toNatClampNeg) (lastS (s 0 0)) 0 (2 ^ s 0 0 - 1)) else -5) else -1
theorem ok9_stands {x y : Int32} {f : Int64 → qMI → qML → qMP → Prop} (h : XR J M I L P W) (k : ∀ I' L', XR J M I' L' P W → f (standsV W.1 x y) I' L' P) : Sq (d + 9) mX9_stands SH0 [.ref 1, .int x, .int y] I L P (KL f) := by
  have hP := h.1.1
  obtain ⟨p1, p2, p3, p4, p5, p6, p7, p8, -⟩ := now_P hP
  have e4 : P 3 3 = 4 := ly_3_3 hP
  have hE := h.2.1.1
  have hn := h.2.2.1.1.1
  have hsl := slotsS_in (W.1 0 0)
  have v0 : I 3 0 = nI (W.1 0 0) := hE.2.2.1
  have e2 : 2 ≤ I 3 0 ↔ 2 ≤ W.1 0 0 := by rw [v0]; exact nI_leI (a := 2) (by decide) (by omega)
  have ha := allS_le hn
  have e0 : lN (allS W.1) = 0 ↔ allS W.1 = 0 := pk_lEQ (b := 0) (by omega) (by decide)
  unfold standsV at k
  refine sp_X9_stands ⟨by decide, by rw [p1]; decide, ?_⟩
  rw [p1, p2]
  refine ⟨by decide, ok_has hE ⟨fun c => ?_, fun c => ok_hasSlot hE ⟨fun c3 => ⟨fun c4 => ?_, fun c4 => ?_⟩, fun c3 => ?_⟩⟩⟩
  · rw [if_neg (fun q => b01_0.mp c q.1)] at k
    exact k I L h
  · have c := b01_n0.mp c
    have c3 := b01_n0.mp c3
    have c4 := e2.mp c4
    rw [if_pos ⟨c, c3⟩, if_pos c4] at k
    obtain ⟨p, hp, rfl, hcp⟩ := cl_isP c (by omega)
    obtain ⟨t, ht, rfl, hct⟩ := cl_isP c3 (by omega)
    rw [hcp, hct] at k
    refine ok9_all h c4 fun I16 L16 hR _ => ok_seedSlot hR.2.1.1 hp ⟨fun c5 => ?_, fun c5 => ?_⟩
    · have c5 := e0.mp c5
      have kk := k I16 L16 hR
      have := cnt_le_all (s := W.1) (moP p t)
      rw [show cntM W.1 (moP p t) (lastS (W.1 0 0)) 0 (2 ^ W.1 0 0 - 1) = 0 by omega] at kk
      exact ⟨fun _ => kk, fun _ => by rw [c5]; exact kk⟩
    · have kk := k I16 L16 hR
      by_cases z : seated W.1 p
      · rw [if_pos z]
        have hlt := seatS_lt _ hn _ z.2 z.1
        refine ⟨fun q => absurd q (m1ne (by omega)), fun _ => ⟨fun q => ?_, fun q => ?_⟩⟩
        · rw [stands_else hn ht hp z (fun y => q (by rw [← y]; rfl))] at kk
          exact kk
        · have q := nI_inj (by omega) (by omega) q
          have e : t = seatF W.1 p := q.symm
          rw [e, stands_here hn hp z] at kk
          exact kk
      · rw [if_neg z]
        refine ⟨fun _ => ?_, fun q => absurd rfl q⟩
        rw [p8]
        refine ⟨by decide, ok_C_begin hP (Or.inr rfl) hR.2.1.1 (Or.inl (by decide)) (Or.inl (by rw [e4]; decide)) fun I9 f9 g9 B9 => ⟨by rw [p8]; decide, ?_⟩⟩
        rw [p8]
        have hk9 : ∀ r, (r < 82 ∨ 86 ≤ r ∧ r < 112 ∨ 144 ≤ r) → I9 r = I16 r ∧ L16 r = L16 r := fun r hr => ⟨f9 r (by omega), rfl⟩
        refine ok_pin hP (Or.inr rfl) B9 hn hp z ht (fun ⟨q, q1, q2, q3⟩ => ⟨fun _ => ?_, fun y => absurd rfl y⟩) (fun _ I32 f32 g32 B32 => ⟨fun y => absurd y (by decide), fun _ => ⟨by rw [p8]; decide, ?_⟩⟩)
        · have hne : q ≠ p := fun y => z (y ▸ q2)
          have kk := k I9 L16 (hR.keep hk9)
          rw [stands_taken hn ht q1 q2 q3 hne] at kk
          exact kk
        · rw [p8]
          refine ok_total hP (Or.inr rfl) B32 hn fun L39 f39 r39 s39 => ?_
          have kk := k (uI I32 112 2 1) L39 (hR.keep fun r hr => ⟨by rw [uI_ne r (by omega), f32 r (by omega) (by omega), f9 r (by omega)], f39 r (by omega) (by omega)⟩)
          rw [← stands_free hn c4 hp ht z] at kk
          exact kk
  · have c := b01_n0.mp c
    have c3 := b01_n0.mp c3
    rw [if_pos ⟨c, c3⟩, if_neg (fun q => c4 (e2.mpr q))] at k
    exact k I L h
  · rw [if_neg (fun q => b01_0.mp c3 q.2)] at k
    exact k I L h
end ST
