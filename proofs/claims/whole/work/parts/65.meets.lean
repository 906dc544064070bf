section ME
variable {d : Nat} {J : qMI} {M : qML} {I : qMI} {L : qML} {P : qMP} {W : Wd}
/-- MEETS, as the reference finds it -/
noncomputable def meetsV (s : Sit) (x y z : Int32) : Int64 := if (isP (s 0 0) x ∧ isP (s 0 0) y ∧ x ≠ y) ∧ isRd s z then (if 2 ≤ s 0 0 then lN (cntM s (moA (2 ^ x.toNatClampNeg ||| 2 ^ y.toNatClampNeg) (z.toNatClampNeg - 1)) (lastS (s 0 0)) 0 (2 ^ s 0 0 - 1)) - lN (cntM s (moA (2 ^ x.toNatClampNeg ||| 2 ^ y.toNatClampNeg) z.toNatClampNeg) (lastS (s 0 0)) 0 (2 ^ s 0 0 - 1)) else -5) else -1
theorem ok9_meets {x y z : Int32} {f : Int64 → qMI → qML → qMP → Prop} (h : XR J M I L P W) (k : ∀ I' L', XR J M I' L' P W → f (meetsV W.1 x y z) I' L' P) : Sq (d + 9) mX9_meets SH0 [.ref 1, .int x, .int y, .int z] I L P (KL f) := by
  have hP := h.1.1
  obtain ⟨p1, p2, -⟩ := now_P hP
  have hE := h.2.1.1
  have hn := h.2.2.1.1.1
  have v0 : I 3 0 = nI (W.1 0 0) := hE.2.2.1
  have e2 : 2 ≤ I 3 0 ↔ 2 ≤ W.1 0 0 := by rw [v0]; exact nI_leI (a := 2) (by decide) (by omega)
  unfold meetsV at k
  refine sp_X9_meets ⟨by decide, by rw [p1]; decide, ?_⟩
  rw [p1, p2]
  refine ⟨by decide, ok_hasBoth hE ⟨fun c => ?_, fun c => ok_hasRound hE ⟨fun c3 => ⟨fun c4 => ?_, fun c4 => ?_⟩, fun c3 => ?_⟩⟩⟩
  · rw [if_neg (fun q => b01_0.mp c q.1)] at k
    exact k I L h
  · have c := b01_n0.mp c
    have c3 : isRd W.1 z := b01_n0.mp c3
    have c4 := e2.mp c4
    rw [if_pos ⟨c, c3⟩, if_pos c4] at k
    obtain ⟨p, hp, rfl, hcp⟩ := cl_isP c.1 (by omega)
    obtain ⟨o, ho, rfl, hco⟩ := cl_isP c.2.1 (by omega)
    obtain ⟨r, hr1, hr2, rfl, hcr⟩ := cl_isRd c3
    have hl := lastS_le (W.1 0 0)
    have hne : p ≠ o := fun q => c.2.2 (by rw [q])
    have h10 : (2 ^ p ||| 2 ^ o) < 1024 := Nat.or_lt_two_pow (n := 10) (Nat.pow_lt_pow_right (by decide) (by omega)) (Nat.pow_lt_pow_right (by decide) (by omega))
    rw [hcp, hco, hcr] at k
    rw [bitN (by omega), bitN (by omega), orN, show nI r - 1 = nI (r - 1) from pk_sub (b := 1) hr1]
    refine ok9_watched (ap := nI (r - 1)) (tg := nI r) h c4 h10 fun I' L' hR => ?_
    have kk := k I' L' hR
    have hm := meets_all hn hp ho hne hr1 hr2
    rw [show (nI (r - 1)).toInt = (r : Int) - 1 from (nI_toInt (by omega)).trans (by omega), show (nI r).toInt = (r : Int) from nI_toInt (by omega), meets_same hn c4]
    rw [hm, lN_sub (by omega), show ∀ a b : Nat, a + b - a = b from fun a b => by omega] at kk
    by_cases z : allS W.1 = 0
    · rw [if_pos z]
      have := cnt_le_all (s := W.1) (moC (2 ^ p ||| 2 ^ o) r)
      rw [show cntM W.1 (moC (2 ^ p ||| 2 ^ o) r) (lastS (W.1 0 0)) 0 (2 ^ W.1 0 0 - 1) = 0 by omega] at kk
      exact kk
    · rw [if_neg z]; exact kk
  · have c := b01_n0.mp c
    have c3 : isRd W.1 z := b01_n0.mp c3
    rw [if_pos ⟨c, c3⟩, if_neg (fun q => c4 (e2.mpr q))] at k
    exact k I L h
  · rw [if_neg (fun q => b01_0.mp c3 q.2)] at k
    exact k I L h
end ME
