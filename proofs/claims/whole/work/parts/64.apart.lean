section AP
variable {d : Nat} {J : qMI} {M : qML} {I : qMI} {L : qML} {P : qMP} {W : Wd}
noncomputable def apartV (s : Sit) (x y : Int32) : Int64 := if isP (2 ^ s 0 0) x ∧ isRd s y then (if 2 ≤ s 0 0 then lN (cntM s (moA x.toNatClampNeg y.toNatClampNeg) (lastS (s 0 0)) 0 (2 ^ s 0 0 - 1)) else -5) else -1
theorem ok9_apart {x y : Int32} {f : Int64 → qMI → qML → qMP → Prop} (h : XR J M I L P W) (k : ∀ I' L', XR J M I' L' P W → f (apartV W.1 x y) I' L' P) : Sq (d + 9) mX9_apart SH0 [.ref 1, .int x, .int y] I L P (KL f) := by
  have hP := h.1.1
  obtain ⟨p1, p2, -⟩ := now_P hP
  have hE := h.2.1.1
  have hn := h.2.2.1.1.1
  have hp := pow10 hn
  have hp0 := Nat.two_pow_pos (W.1 0 0)
  have v0 : I 3 0 = nI (W.1 0 0) := hE.2.2.1
  have e2 : 2 ≤ I 3 0 ↔ 2 ≤ W.1 0 0 := by rw [v0]; exact nI_leI (a := 2) (by decide) (by omega)
  have t1 : (nI (2 ^ W.1 0 0 - 1)).toInt = ((2 ^ W.1 0 0 - 1 : Nat) : Int) := nI_toInt (by omega)
  unfold apartV at k
  refine sp_X9_apart ⟨by decide, by rw [p1]; decide, fun c => ?_, fun c => ?_⟩
  · rw [if_neg (fun q => by have := q.1.1; ((try simp only [Int32.lt_iff_toInt_lt, Int32.le_iff_toInt_le, ne_eq, ← Int32.toInt_inj, isP, ti_nI, ti_add, ti_sub, ti_mul, ti_neg, ti_0, ti_1, ti_2, ti_3, ti_4, ti_5, ti_6, ti_7, ti_8, ti_9, ti_10, ti_11, ti_12, ti_13, ti_14, ti_15, ti_16, ti_17, ti_18, ti_19, ti_20, ti_28, ti_30, ti_31, ti_32, ti_40, ti_45, ti_47, ti_48, ti_49, ti_57, ti_58, ti_59, ti_61, ti_76, ti_84, ti_96, ti_99, ti_100, ti_114, ti_115, ti_120, ti_126, ti_840, ti_1024] at c this ⊢); omega))] at k
    exact k I L h
  · rw [p1, p2]
    rw [Int32.lt_iff_toInt_lt, ti_0] at c
    refine ⟨by decide, ok_all hE ⟨fun c2 => ?_, fun c2 => ok_hasRound hE ⟨fun c3 => ⟨fun c4 => ?_, fun c4 => ?_⟩, fun c3 => ?_⟩⟩⟩
    · rw [Int32.lt_iff_toInt_lt, t1] at c2
      rw [if_neg (fun q => by have := q.1.2; omega)] at k
      exact k I L h
    · rw [Int32.lt_iff_toInt_lt, t1] at c2
      have hx : isP (2 ^ W.1 0 0) x := ⟨by omega, by omega⟩
      have c3 : isRd W.1 y := b01_n0.mp c3
      have c4 := e2.mp c4
      rw [if_pos ⟨hx, c3⟩, if_pos c4] at k
      obtain ⟨w, hw, rfl, hcw⟩ := cl_isP hx (by omega)
      obtain ⟨r, hr1, hr2, rfl, hcr⟩ := cl_isRd c3
      have hl := lastS_le (W.1 0 0)
      rw [hcw, hcr] at k
      refine ok9_watched (ap := nI r) (tg := -1) h c4 (by omega) fun I' L' hR => ?_
      have kk := k I' L' hR
      rw [m1ti, show (nI r).toInt = (r : Int) from nI_toInt (by omega), apart_same hn c4 hr1]
      by_cases z : allS W.1 = 0
      · rw [if_pos z]
        have := cnt_le_all (s := W.1) (moA w r)
        rw [show cntM W.1 (moA w r) (lastS (W.1 0 0)) 0 (2 ^ W.1 0 0 - 1) = 0 by omega] at kk
        exact kk
      · rw [if_neg z]; exact kk
    · have c3 : isRd W.1 y := b01_n0.mp c3
      rw [Int32.lt_iff_toInt_lt, t1] at c2
      have hx : isP (2 ^ W.1 0 0) x := ⟨by omega, by omega⟩
      rw [if_pos ⟨hx, c3⟩, if_neg (fun z => c4 (e2.mpr z))] at k
      exact k I L h
    · rw [if_neg (fun q => b01_0.mp c3 q.2)] at k
      exact k I L h
end AP
