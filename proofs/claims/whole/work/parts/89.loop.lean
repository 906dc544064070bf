/-! ===== the law's loop, and how it begins ===== -/
section QO
variable {X : qCT} {cells slots b N : Nat} {xs : Nat → Int32}
theorem lw_loop (C : qCB X RL cL_law 4 100 600000 7302250) (S : qSc X b N xs) (hN : N ≤ 2560) (hc : cells ≤ 600000 ∧ slots ≤ 7302250) (hend : ∀ lo sh I L P, qG X 990 lo [.int 1] sh I L P cells slots) : ∀ (n i : Nat) (I : qMI) (L : qML) (P : qMP) (W : Wd), N ≤ i + n → i ≤ N → BW I L P W → qG X 18 (loL b i) [] SH0 I L P cells slots := by
  intro n
  induction n with
  | zero =>
    intro i I L P W h1 h2 hB
    refine q_iload_n C (k := 3) dL_law_18 rfl ?_
    refine q_aloadS C (k := 0) dL_law_19 rfl ?_
    refine q_slen C S dL_law_20 ?_
    refine q_iconst (v := 5) C dL_law_21 (by decide) ?_
    refine q_isub C dL_law_22 ?_
    refine q_icmp_gt (tgt := 989) C dL_law_23 (by decide) (fun _ => ?_) (fun c => ?_)
    · exact q_iconst (v := 1) C dL_law_989 (by decide) (hend _ _ _ _ _)
    · exfalso
      ((try simp only [Int32.lt_iff_toInt_lt, Int32.le_iff_toInt_le, ne_eq, ← Int32.toInt_inj, isP, ti_nI, ti_add, ti_sub, ti_mul, ti_neg, ti_0, ti_1, ti_2, ti_3, ti_4, ti_5, ti_6, ti_7, ti_8, ti_9, ti_10, ti_11, ti_12, ti_13, ti_14, ti_15, ti_16, ti_17, ti_18, ti_19, ti_20, ti_28, ti_30, ti_31, ti_32, ti_40, ti_45, ti_47, ti_48, ti_49, ti_57, ti_58, ti_59, ti_61, ti_76, ti_84, ti_96, ti_99, ti_100, ti_114, ti_115, ti_120, ti_126, ti_840, ti_1024] at c ⊢); omega)
  | succ n ih =>
    intro i I L P W h1 h2 hB
    refine q_iload_n C (k := 3) dL_law_18 rfl ?_
    refine q_aloadS C (k := 0) dL_law_19 rfl ?_
    refine q_slen C S dL_law_20 ?_
    refine q_iconst (v := 5) C dL_law_21 (by decide) ?_
    refine q_isub C dL_law_22 ?_
    refine q_icmp_gt (tgt := 989) C dL_law_23 (by decide) (fun _ => ?_) (fun c => ?_)
    · exact q_iconst (v := 1) C dL_law_989 (by decide) (hend _ _ _ _ _)
    · have hi : i + 4 < N := by ((try simp only [Int32.lt_iff_toInt_lt, Int32.le_iff_toInt_le, ne_eq, ← Int32.toInt_inj, isP, ti_nI, ti_add, ti_sub, ti_mul, ti_neg, ti_0, ti_1, ti_2, ti_3, ti_4, ti_5, ti_6, ti_7, ti_8, ti_9, ti_10, ti_11, ti_12, ti_13, ti_14, ti_15, ti_16, ti_17, ti_18, ti_19, ti_20, ti_28, ti_30, ti_31, ti_32, ti_40, ti_45, ti_47, ti_48, ti_49, ti_57, ti_58, ti_59, ti_61, ti_76, ti_84, ti_96, ti_99, ti_100, ti_114, ti_115, ti_120, ti_126, ti_840, ti_1024] at c ⊢); omega)
      have K : ∀ I' L' P' W', BW I' L' P' W' → qG X 983 (loL b i) [] SH0 I' L' P' cells slots := fun I' L' P' W' hB' => by
        refine q_iinc (i := 3) (x := nI i) (w := 5) (lo1 := loL b (i + 5)) C dL_law_983 rfl (by decide) (by decide) ?_ ?_
        · show st1 (loL b i) 3 (.int (nI i + nI 5)) = _
          rw [nI_add]; rfl
        · exact q_goto (tgt := 18) C dL_law_986 (by decide) (ih (i + 5) I' L' P' W' (by omega) (by omega) hB')
      refine q_aloadS C (k := 0) dL_law_26 rfl ?_
      refine q_iload_n C (k := 3) dL_law_27 rfl ?_
      refine q_sld C S (vin i rfl (by omega) (by omega)) dL_law_28 ?_
      refine q_bipush (v := 31) C dL_law_29 (by decide) ?_
      refine q_iand C dL_law_31 ?_
      obtain ⟨z, hz, ez⟩ := and31 (xs (Int32.toNatClampNeg (nI i)))
      rw [ez]
      rcases (show z = 0 ∨ z = 1 ∨ z = 2 ∨ z = 3 ∨ z = 4 ∨ z = 5 ∨ z = 6 ∨ z = 7 ∨ z = 8 ∨ z = 9 ∨ z = 10 ∨ z = 11 ∨ z = 12 ∨ z = 13 ∨ z = 14 ∨ z = 15 ∨ z = 16 ∨ z = 17 ∨ z = 18 ∨ z = 19 ∨ z = 20 ∨ z = 21 ∨ z = 22 ∨ z = 23 ∨ z = 24 ∨ z = 25 ∨ z = 26 ∨ z = 27 ∨ z = 28 ∨ z = 29 ∨ z = 30 ∨ z = 31 by omega) with rfl | rfl | rfl | rfl | rfl | rfl | rfl | rfl | rfl | rfl | rfl | rfl | rfl | rfl | rfl | rfl | rfl | rfl | rfl | rfl | rfl | rfl | rfl | rfl | rfl | rfl | rfl | rfl | rfl | rfl | rfl | rfl
      · exact q_tabI (x := nI 0) (off := 140) (tgt := 172) C dL_law_32 (by decide) (by decide) (by decide +kernel) (by decide) (lw_c0 C S hN hi hc hB K)
      · exact q_tabI (x := nI 1) (off := 193) (tgt := 225) C dL_law_32 (by decide) (by decide) (by decide +kernel) (by decide) (lw_c1 C S hN hi hc hB K)
      · exact q_tabI (x := nI 2) (off := 236) (tgt := 268) C dL_law_32 (by decide) (by decide) (by decide +kernel) (by decide) (lw_c2 C S hN hi hc hB K)
      · exact q_tabI (x := nI 3) (off := 269) (tgt := 301) C dL_law_32 (by decide) (by decide) (by decide +kernel) (by decide) (lw_c3 C S hN hi hc hB K)
      · exact q_tabI (x := nI 4) (off := 302) (tgt := 334) C dL_law_32 (by decide) (by decide) (by decide +kernel) (by decide) (lw_c4 C S hN hi hc hB K)
      · exact q_tabI (x := nI 5) (off := 325) (tgt := 357) C dL_law_32 (by decide) (by decide) (by decide +kernel) (by decide) (lw_c5 C S hN hi hc hB K)
      · exact q_tabI (x := nI 6) (off := 338) (tgt := 370) C dL_law_32 (by decide) (by decide) (by decide +kernel) (by decide) (lw_c6 C S hN hi hc hB K)
      · exact q_tabI (x := nI 7) (off := 352) (tgt := 384) C dL_law_32 (by decide) (by decide) (by decide +kernel) (by decide) (lw_c7 C S hN hi hc hB K)
      · exact q_tabI (x := nI 8) (off := 386) (tgt := 418) C dL_law_32 (by decide) (by decide) (by decide +kernel) (by decide) (lw_c8 C S hN hi hc hB K)
      · exact q_tabI (x := nI 9) (off := 430) (tgt := 462) C dL_law_32 (by decide) (by decide) (by decide +kernel) (by decide) (lw_c9 C S hN hi hc hB K)
      · exact q_tabI (x := nI 10) (off := 464) (tgt := 496) C dL_law_32 (by decide) (by decide) (by decide +kernel) (by decide) (lw_c10 C S hN hi hc hB K)
      · exact q_tabI (x := nI 11) (off := 517) (tgt := 549) C dL_law_32 (by decide) (by decide) (by decide +kernel) (by decide) (lw_c11 C S hN hi hc hB K)
      · exact q_tabI (x := nI 12) (off := 541) (tgt := 573) C dL_law_32 (by decide) (by decide) (by decide +kernel) (by decide) (lw_c12 C S hN hi hc hB K)
      · exact q_tabI (x := nI 13) (off := 564) (tgt := 596) C dL_law_32 (by decide) (by decide) (by decide +kernel) (by decide) (lw_c13 C S hN hi hc hB K)
      · exact q_tabI (x := nI 14) (off := 587) (tgt := 619) C dL_law_32 (by decide) (by decide) (by decide +kernel) (by decide) (lw_c14 C S hN hi hc hB K)
      · exact q_tabI (x := nI 15) (off := 601) (tgt := 633) C dL_law_32 (by decide) (by decide) (by decide +kernel) (by decide) (lw_c15 C S hN hi hc hB K)
      · exact q_tabI (x := nI 16) (off := 635) (tgt := 667) C dL_law_32 (by decide) (by decide) (by decide +kernel) (by decide) (lw_c16 C S hN hi hc hB K)
      · exact q_tabI (x := nI 17) (off := 668) (tgt := 700) C dL_law_32 (by decide) (by decide) (by decide +kernel) (by decide) (lw_c17 C S hN hi hc hB K)
      · exact q_tabI (x := nI 18) (off := 691) (tgt := 723) C dL_law_32 (by decide) (by decide) (by decide +kernel) (by decide) (lw_c18 C S hN hi hc hB K)
      · exact q_tabI (x := nI 19) (off := 704) (tgt := 736) C dL_law_32 (by decide) (by decide) (by decide +kernel) (by decide) (lw_c19 C S hN hi hc hB K)
      · exact q_tabI (x := nI 20) (off := 727) (tgt := 759) C dL_law_32 (by decide) (by decide) (by decide +kernel) (by decide) (lw_c20 C S hN hi hc hB K)
      · exact q_tabI (x := nI 21) (off := 760) (tgt := 792) C dL_law_32 (by decide) (by decide) (by decide +kernel) (by decide) (lw_c21 C S hN hi hc hB K)
      · exact q_tabI (x := nI 22) (off := 793) (tgt := 825) C dL_law_32 (by decide) (by decide) (by decide +kernel) (by decide) (lw_c22 C S hN hi hc hB K)
      · exact q_tabI (x := nI 23) (off := 806) (tgt := 838) C dL_law_32 (by decide) (by decide) (by decide +kernel) (by decide) (lw_c23 C S hN hi hc hB K)
      · exact q_tabI (x := nI 24) (off := 830) (tgt := 862) C dL_law_32 (by decide) (by decide) (by decide +kernel) (by decide) (lw_c24 C S hN hi hc hB K)
      · exact q_tabI (x := nI 25) (off := 853) (tgt := 885) C dL_law_32 (by decide) (by decide) (by decide +kernel) (by decide) (lw_c25 C S hN hi hc hB K)
      · exact q_tabI (x := nI 26) (off := 876) (tgt := 908) C dL_law_32 (by decide) (by decide) (by decide +kernel) (by decide) (lw_c26 C S hN hi hc hB K)
      · exact q_tabI (x := nI 27) (off := 889) (tgt := 921) C dL_law_32 (by decide) (by decide) (by decide +kernel) (by decide) (lw_c27 C S hN hi hc hB K)
      · exact q_tabI (x := nI 28) (off := 902) (tgt := 934) C dL_law_32 (by decide) (by decide) (by decide +kernel) (by decide) (lw_c28 C S hN hi hc hB K)
      · exact q_tabI (x := nI 29) (off := 915) (tgt := 947) C dL_law_32 (by decide) (by decide) (by decide +kernel) (by decide) (lw_c29 C S hN hi hc hB K)
      · exact q_tabI (x := nI 30) (off := 928) (tgt := 960) C dL_law_32 (by decide) (by decide) (by decide +kernel) (by decide) (lw_c30 C S hN hi hc hB K)
      · exact q_tabO (x := nI 31) (tgt := 983) C dL_law_32 (Or.inr (by decide)) (by decide) (K _ _ _ _ hB)
theorem lw_begin (C : qCB X RL cL_law 4 100 600000 7302250) (S : qSc X b N xs) (hN : N ≤ 2560) (hend : ∀ lo sh I L P, qG X 990 lo [.int 1] sh I L P (0 + 1 + 142 + 1 + 17) (0 + 11 + 34688 + 28 + 68714)) : qG X 0 [some (.retAddr b), none, none, none] [] [] (fun _ _ => 0) (fun _ _ => 0) (fun _ _ => 0) 0 0 := by
  refine q_new C CLF9 cl_RL_7 ins_RX9 ini_RX9 ⟨Nat.le_of_ble_eq_true rfl, Nat.le_of_ble_eq_true rfl⟩ dL_law_0 ?_
  refine nm_sh (fun sh1 e1 => ?_)
  have e1 : sh1 = SH0.take 1 := e1
  subst e1
  refine q_dup C dL_law_3 rfl ?_
  refine q_callI (host := "") (mc1 := 142) (ms1 := 34688) (M := mX9_init) (Kc := KN fun sh' I' L' P' => sh' = SH0.take 143 ∧ I' = aI (IT0.take 52) ∧ LYn 131 11 P') C mn_X9_init ml_RL_9 rfl dL_law_4 (Nat.succ_ne_zero _) (Nat.le_of_ble_eq_true rfl) ⟨Nat.le_of_ble_eq_true rfl, Nat.le_of_ble_eq_true rfl⟩ (in_X9 (d := 95) ⟨fun q hq => (by cases hq), fun i hi => absurd hi (Nat.not_lt_zero _)⟩ fun P' h => ⟨rfl, rfl, h⟩) (fun sh2 I2 L2 P2 h => ?_) KN_void
  obtain ⟨rfl, rfl, h2⟩ := h
  refine q_astore_n (k := 1) (lo1 := [some (.retAddr b), some (.ref 1), none, none]) C dL_law_7 (by decide) rfl ?_
  refine q_new C CLF10 cl_RL_10 ins_RX10 ini_RX10 ⟨Nat.le_of_ble_eq_true rfl, Nat.le_of_ble_eq_true rfl⟩ dL_law_8 ?_
  rw [sh_1 (i := 143) rfl, sh_n (i := 143) (by decide)]
  refine q_dup C dL_law_11 rfl ?_
  refine q_callI (host := "") (mc1 := 17) (ms1 := 68714) (M := mX10_init) (Kc := KN fun sh' I' L' P' => sh' = SH0 ∧ I' = aI IT0 ∧ LYn 148 11 P') C mn_X10_init ml_RL_12 rfl dL_law_12 (Nat.succ_ne_zero _) (Nat.le_of_ble_eq_true rfl) ⟨Nat.le_of_ble_eq_true rfl, Nat.le_of_ble_eq_true rfl⟩ (in_X10 (d := 98) h2 fun P' h => ⟨rfl, rfl, h⟩) (fun sh3 I3 L3 P3 h => ?_) KN_void
  obtain ⟨rfl, rfl, h3⟩ := h
  refine q_astore_n (k := 2) (lo1 := [some (.retAddr b), some (.ref 1), some (.ref 144), none]) C dL_law_15 (by decide) rfl ?_
  refine q_iconst (v := 0) C dL_law_16 (by decide) ?_
  refine q_istore_n (k := 3) (lo1 := loL b 0) C dL_law_17 (by decide) rfl ?_
  exact lw_loop C S hN ⟨Nat.le_of_ble_eq_true rfl, Nat.le_of_ble_eq_true rfl⟩ hend N 0 _ _ _ W0 (by omega) (by omega) ⟨in_XR h3 rfl, in_MR rfl⟩
end QO
theorem law_K {s : State} {a : Array Value} (hts : ∀ w ∈ lw_tbl, w.before a s = true) : ∃ (D : va_G) (cA : Nat → ClassId), va_K D vwCl (TY cA) s := by
  have hT : ∀ w ∈ TT, w.before a s = true := fun w hw => hts w (TT_tbl w hw)
  have h : ∀ k : Nat, ∃ (cC : ClassId) (iS : Nat → Nat), ∀ q : vw_C, vwCl[k]? = some q → u_Kn s q.1 q.2.1 q.2.2 cC iS := by
    intro k
    match k with
    | 0 => obtain ⟨c, i, h⟩ := u_known (n := 10) hT usX0 (hT _ ins_RX0); exact ⟨c, i, fun q hq => by cases hq; exact h⟩
    | 1 => obtain ⟨c, i, h⟩ := u_known (n := 7) hT usX1 (hT _ ins_RX1); exact ⟨c, i, fun q hq => by cases hq; exact h⟩
    | 2 => obtain ⟨c, i, h⟩ := u_known (n := 4) hT usX2 (hT _ ins_RX2); exact ⟨c, i, fun q hq => by cases hq; exact h⟩
    | 3 => obtain ⟨c, i, h⟩ := u_known (n := 3) hT usX3 (hT _ ins_RX3); exact ⟨c, i, fun q hq => by cases hq; exact h⟩
    | 4 => obtain ⟨c, i, h⟩ := u_known (n := 2) hT usX4 (hT _ ins_RX4); exact ⟨c, i, fun q hq => by cases hq; exact h⟩
    | 5 => obtain ⟨c, i, h⟩ := u_known (n := 9) hT usX5 (hT _ ins_RX5); exact ⟨c, i, fun q hq => by cases hq; exact h⟩
    | 6 => obtain ⟨c, i, h⟩ := u_known (n := 2) hT usX6 (hT _ ins_RX6); exact ⟨c, i, fun q hq => by cases hq; exact h⟩
    | 7 => obtain ⟨c, i, h⟩ := u_known (n := 2) hT usX7 (hT _ ins_RX7); exact ⟨c, i, fun q hq => by cases hq; exact h⟩
    | 8 => obtain ⟨c, i, h⟩ := u_known (n := 4) hT usX8 (hT _ ins_RX8); exact ⟨c, i, fun q hq => by cases hq; exact h⟩
    | 9 => obtain ⟨c, i, h⟩ := u_known (n := 11) hT usX9 (hT _ ins_RX9); exact ⟨c, i, fun q hq => by cases hq; exact h⟩
    | 10 => obtain ⟨c, i, h⟩ := u_known (n := 28) hT usX10 (hT _ ins_RX10); exact ⟨c, i, fun q hq => by cases hq; exact h⟩
    | k + 11 => exact ⟨0, fun _ => 0, fun q hq => by simp [vwCl] at hq⟩
  obtain ⟨c0, k0, m0, a1, a2, a3⟩ := Cond.arrayClass_spec (hT _ ac_int)
  obtain ⟨c1, k1, m1, b1, b2, b3⟩ := Cond.arrayClass_spec (hT _ ac_long)
  obtain ⟨c2, k2, m2, d1, d2, d3⟩ := Cond.arrayClass_spec (hT _ ac_boolean)
  obtain ⟨p3, c3, k3, f1, f2, f3, f4, f5⟩ := Cond.arrayOver_spec (hts _ ao_Sit)
  obtain ⟨p4, c4, k4, g1, g2, g3, g4, g5⟩ := arrayOverA_spec (hts _ ao_J)
  refine ⟨(fun k => Classical.choose (h k), fun k => Classical.choose (Classical.choose_spec (h k))), fun j => if j = 0 then c0 else if j = 1 then c1 else if j = 2 then c2 else if j = 3 then c3 else c4, fun k q hq => Classical.choose_spec (Classical.choose_spec (h k)) q hq, fun k q hq => ?_⟩
  match k, hq with
  | 0, hq => cases hq; exact ⟨fun n z => ⟨fun k h => (by cases h), k0, a2, m0, a3⟩, a1⟩
  | 1, hq => cases hq; exact ⟨fun n z => ⟨fun k h => (by cases h), k1, b2, m1, b3⟩, b1⟩
  | 2, hq => cases hq; exact ⟨fun n z => ⟨fun k h => (by cases h), k2, d2, m2, d3⟩, d1⟩
  | 3, hq => cases hq; exact ⟨fun n z => ⟨fun k h => (by cases h), k3, f3, p3, f4⟩, ⟨k3, p3, f3, f4, f1, f5⟩⟩
  | 4, hq => cases hq; exact ⟨fun n z => ⟨fun k h => (by cases h), k4, g3, p4, g4⟩, g5⟩
  | k + 5, hq => simp [TY] at hq
theorem law_E {s : State} {a : Array Value} (hts : ∀ w ∈ lw_tbl, w.before a s = true) : qE s :=
  ⟨va_AO.of (hts _ ao_Sit), hts _ ao_J, fun q hq => va_Nw.of rfl (hts _ (qNW_tbl q hq))⟩
