/-! ===== the reference: players, levels ===== -/
section RP
variable {d : Nat} {I : qMI} {L : qML} {P : qMP} {W : Wd} {s : Sit}
theorem ok10_placeOf {w : Nat} {f : Int32 → qMI → qML → qMP → Prop} (hw : w < 4) (k : f (nI (5 + 10 * w)) I L P) : Sq (d + 1) mX10_placeOf SH0 [.int (nI w)] I L P (KI f) := by
  have e : ∀ j, j < 4 → (nI w = nI j ↔ w = j) := fun j hj => nI_eq (by omega) (by omega)
  refine sp_X10_placeOf ⟨fun c0 => ⟨fun c1 => ⟨fun c2 => kI k ?_, fun c2 => kI k ?_⟩, fun c1 => kI k ?_⟩, fun c0 => kI k ?_⟩
  · have c0 : w ≠ 0 := fun q => c0 ((e 0 (by decide)).mpr q)
    have c1 : w ≠ 1 := fun q => c1 ((e 1 (by decide)).mpr q)
    have c2 : w ≠ 2 := fun q => c2 ((e 2 (by decide)).mpr q)
    rw [show w = 3 by omega]; rfl
  · rw [(e 2 (by decide)).mp c2]; rfl
  · rw [(e 1 (by decide)).mp c1]; rfl
  · rw [(e 0 (by decide)).mp c0]; rfl
theorem ok10_mostOf {w : Nat} {f : Int32 → qMI → qML → qMP → Prop} (hw : w < 4) (k : f (nI (bigW w)) I L P) : Sq (d + 1) mX10_mostOf SH0 [.int (nI w)] I L P (KI f) := by
  have e : ∀ j, j < 4 → (nI w = nI j ↔ w = j) := fun j hj => nI_eq (by omega) (by omega)
  refine sp_X10_mostOf ⟨fun c0 => ⟨fun c1 => ⟨fun c2 => kI k ?_, fun c2 => kI k ?_⟩, fun c1 => kI k ?_⟩, fun c0 => kI k ?_⟩
  · have c0 : w ≠ 0 := fun q => c0 ((e 0 (by decide)).mpr q)
    have c1 : w ≠ 1 := fun q => c1 ((e 1 (by decide)).mpr q)
    have c2 : w ≠ 2 := fun q => c2 ((e 2 (by decide)).mpr q)
    rw [show w = 3 by omega]; rfl
  · rw [(e 2 (by decide)).mp c2]; rfl
  · rw [(e 1 (by decide)).mp c1]; rfl
  · rw [(e 0 (by decide)).mp c0]; rfl
theorem ok10_hasSeed {x y : Int32} {f : Int32 → qMI → qML → qMP → Prop} (hP : LAY P) (hG : GE (I 145) s) (k : f (b01 (¬ ∀ o, o < s 0 0 → (0 < x ∧ nI o ≠ y → nI (s 3 o) ≠ x))) I L P) : Sq (d + 1) mX10_hasSeed SH0 [.ref 144, .int x, .int y] I L P (KI f) := by
  obtain ⟨g0, -⟩ := ref_P hP
  have hn := hG.1
  refine sp_X10_hasSeed (fun a b I' L' P' => I' = I ∧ L' = L ∧ P' = P ∧ ∃ o, o ≤ s 0 0 ∧ b = nI o ∧ a = b01 (¬ ∀ q, q < o → (nI q ≠ y → nI (s 3 q) ≠ x))) (fun _ b _ _ _ => 20 - b.toNatClampNeg) ⟨rfl, rfl, rfl, 0, Nat.zero_le _, rfl, (b01_f (fun q => q fun _ h => absurd h (Nat.not_lt_zero _))).symm⟩ ?_
  rintro a b I' L' P' ⟨rfl, rfl, rfl, o, ho, rfl, rfl⟩
  refine ⟨by decide, ?_⟩
  rw [g0, cl_0, hG.2.1]
  refine ⟨by decide, v145 0 (by decide), fun c1 => ⟨fun c2 => ?_, fun c2 => ⟨fun c3 => ?_, fun c3 => ?_⟩⟩, fun c1 => ?_⟩
  · have c1 := (nI_leI (by omega) (by omega)).mp c1
    have : o = s 0 0 := by omega
    subst this
    have c2 := b01_0.mp c2
    exact kI k (b01_f fun q => c2 fun z => q fun o ho h => z o ho h.2)
  · refine kI k (b01_f fun q => q fun o ho h => ?_)
    exact absurd h.1 (fun z => by rw [Int32.lt_iff_toInt_lt, ti_0] at z; rw [Int32.le_iff_toInt_le, ti_0] at c3; omega)
  · have c1 := (nI_leI (by omega) (by omega)).mp c1
    have : o = s 0 0 := by omega
    subst this
    have c2 := b01_n0.mp c2
    have hx : 0 < x := by
      rw [Int32.le_iff_toInt_le, ti_0] at c3
      rw [Int32.lt_iff_toInt_lt, ti_0]; omega
    exact kI k (b01_t fun z => c2 fun o ho h => z o ho ⟨hx, h⟩)
  · have c1 : o < s 0 0 := Nat.lt_of_not_le fun q => c1 (nI_le q (by omega))
    have hm : 20 - (nI o + 1).toNatClampNeg < 20 - (nI o).toNatClampNeg := by
      rw [nI_1, clN (by omega), clN (by omega)]; omega
    have stp : ∀ p : Prop, (¬ ∀ q, q < o → (nI q ≠ y → nI (s 3 q) ≠ x)) ∨ (nI o ≠ y ∧ nI (s 3 o) = x) → (1 : Int32) = b01 (¬ ∀ q, q < o + 1 → (nI q ≠ y → nI (s 3 q) ≠ x)) := fun _ h => by
      refine (b01_t (show ¬ (∀ q, q < o + 1 → (nI q ≠ y → nI (s 3 q) ≠ x)) from fun z => ?_)).symm
      rcases h with h | h
      · exact h fun q hq => z q (by omega)
      · exact z o (by omega) h.1 h.2
    have stn : (∀ q, q < o → (nI q ≠ y → nI (s 3 q) ≠ x)) → (nI o ≠ y → nI (s 3 o) ≠ x) → (0 : Int32) = b01 (¬ ∀ q, q < o + 1 → (nI q ≠ y → nI (s 3 q) ≠ x)) := fun h1 h2 => by
      refine (b01_f fun z => z fun q hq h => ?_).symm
      rcases Nat.lt_succ_iff_lt_or_eq.mp hq with w | w
      · exact h1 q w h
      · subst w; exact h2 h
    refine ⟨fun c2 => ⟨⟨rfl, rfl, rfl, o + 1, by omega, nI_1 o, stp True (Or.inl (b01_n0.mp c2))⟩, hm⟩, fun c2 => ?_⟩
    have c2 : ∀ q, q < o → (nI q ≠ y → nI (s 3 q) ≠ x) := Classical.byContradiction fun z => b01_0.mp c2 z
    refine ⟨fun c3 => ⟨⟨rfl, rfl, rfl, o + 1, by omega, nI_1 o, stn c2 (fun h => absurd c3 h)⟩, hm⟩, fun c3 => ?_⟩
    rw [show (25 : Int32) + nI o = nI (25 + o) from nI_add 25 o, clN (by omega)]
    have hv : I' 145 (25 + o) = nI (s 3 o) := hG.2.2.2.2 o 2 c1 (by decide)
    rw [hv]
    exact ⟨v145 _ (by omega), fun c4 => ⟨⟨rfl, rfl, rfl, o + 1, by omega, nI_1 o, stn c2 (fun _ => c4)⟩, hm⟩, fun c4 => ⟨⟨rfl, rfl, rfl, o + 1, by omega, nI_1 o, stp True (Or.inr ⟨c3, c4⟩)⟩, hm⟩⟩
theorem ok10_comes {a b g t : Nat} {f : qMI → qML → qMP → Prop} (hP : LAY P) (hG : GE (I 145) s) (hb : s 0 0 < 10) (k : ∀ I', (∀ r, r ≠ 145 → r ≠ 144 → I' r = I r) → (∀ j, j ≠ 4 → j ≠ 5 → j ≠ 17 → I' 144 j = I 144 j) → I' 144 4 = 0 → I' 144 5 = 0 → I' 144 17 = 0 → GS (I' 145) (dropS (addS s a b g t)) → f I' L P) : Sq (d + 3) mX10_comes SH0 [.ref 144, .int (nI a), .int (nI b), .int (nI g), .int (nI t)] I L P (KV f) := by
  obtain ⟨g0, -⟩ := ref_P hP
  obtain ⟨hn, v0, v1, v2, vp⟩ := id hG
  refine sp_X10_comes ⟨by decide, ?_⟩
  rw [g0, cl_0, v0, show (5 : Int32) + nI (s 0 0) = nI (5 + s 0 0) from nI_add 5 _, show (15 : Int32) + nI (s 0 0) = nI (15 + s 0 0) from nI_add 15 _, show (25 : Int32) + nI (s 0 0) = nI (25 + s 0 0) from nI_add 25 _, show (35 : Int32) + nI (s 0 0) = nI (35 + s 0 0) from nI_add 35 _, clN (by omega), clN (by omega), clN (by omega), clN (by omega)]
  refine ⟨by decide, v145 0 (by decide), v145 _ (by omega), fun I5 e5 => ⟨v145 _ (by omega), fun I7 e7 => ⟨v145 _ (by omega), fun I9 e9 => ⟨v145 _ (by omega), fun I11 e11 I12 e12 => ?_⟩⟩⟩⟩
  have a0 : I11 145 0 = nI (s 0 0) := by
    rw [e11, e9, e7, e5]
    show (if 145 = 145 ∧ 0 = 35 + s 0 0 then _ else if 145 = 145 ∧ 0 = 25 + s 0 0 then _ else if 145 = 145 ∧ 0 = 15 + s 0 0 then _ else if 145 = 145 ∧ 0 = 5 + s 0 0 then _ else I 145 0) = _
    rw [if_neg (by omega), if_neg (by omega), if_neg (by omega), if_neg (by omega)]; exact v0
  rw [a0, nI_1] at e12
  have f12 : ∀ r, r ≠ 145 → I12 r = I r := fun r q => by rw [e12, uI_ne r q, e11, uI_ne r q, e9, uI_ne r q, e7, uI_ne r q, e5, uI_ne r q]
  have v12 : ∀ j, I12 145 j = if j = 0 then nI (s 0 0 + 1) else if j = 35 + s 0 0 then nI t else if j = 25 + s 0 0 then nI g else if j = 15 + s 0 0 then nI b else if j = 5 + s 0 0 then nI a else I 145 j := fun j => by
    rw [e12, e11, e9, e7, e5]
    simp [uI]
  obtain ⟨q0, q5, q6, qp, qa, qb, qg, qt⟩ := addS_e (s := s) (a := a) (b := b) (c := g) (g := t)
  have hG12 : GE (I12 145) (addS s a b g t) := by
    refine ⟨by rw [q0]; omega, by rw [q0, v12, if_pos rfl], ?_, ?_, fun p w hp hw => ?_⟩
    · rw [q5, v12, if_neg (by omega), if_neg (by omega), if_neg (by omega), if_neg (by omega), if_neg (by omega)]; exact v1
    · rw [q6, v12, if_neg (by omega), if_neg (by omega), if_neg (by omega), if_neg (by omega), if_neg (by omega)]; exact v2
    · rw [q0] at hp
      rw [v12]
      have hw4 : w = 0 ∨ w = 1 ∨ w = 2 ∨ w = 3 := by omega
      by_cases z : p = s 0 0
      · subst z
        rcases hw4 with rfl | rfl | rfl | rfl
        · rw [if_neg (by omega), if_neg (by omega), if_neg (by omega), if_neg (by omega), if_pos (by omega)]; exact congrArg nI qa.symm
        · rw [if_neg (by omega), if_neg (by omega), if_neg (by omega), if_pos (by omega)]; exact congrArg nI qb.symm
        · rw [if_neg (by omega), if_neg (by omega), if_pos (by omega)]; exact congrArg nI qg.symm
        · rw [if_neg (by omega), if_pos (by omega)]; exact congrArg nI qt.symm
      · obtain ⟨z1, z2, z3, z4⟩ := qp p z
        rw [if_neg (by omega), if_neg (by omega), if_neg (by omega), if_neg (by omega), if_neg (by omega), vp p w (by omega) hw]
        rcases hw4 with rfl | rfl | rfl | rfl
        · exact congrArg nI z1.symm
        · exact congrArg nI z2.symm
        · exact congrArg nI z3.symm
        · exact congrArg nI z4.symm
  refine ok10_noDraw hP hG12 fun I13 f13 j13 h13 G13 I16 e16 I17 e17 => ?_
  have f17 : ∀ r, r ≠ 144 → I17 r = I13 r := fun r q => by rw [e17, uI_ne r q, e16, uI_ne r q]
  have j17 : ∀ j, j ≠ 4 → j ≠ 5 → I17 144 j = I13 144 j := fun j q1 q2 => by
    rw [e17, e16]
    show (if 144 = 144 ∧ j = 5 then _ else if 144 = 144 ∧ j = 4 then _ else I13 144 j) = _
    rw [if_neg (fun q => q2 q.2), if_neg (fun q => q1 q.2)]
  refine k I17 (fun r q1 q2 => by rw [f17 r q2, f13 r q1 q2, f12 r q1]) (fun j q1 q2 q3 => by rw [j17 j q1 q2, j13 j q3, f12 144 (by decide)]) ?_ ?_ (by rw [j17 17 (by decide) (by decide)]; exact h13) (by rw [f17 145 (by decide)]; exact G13)
  · rw [e17, e16]; exact (if_neg (by decide)).trans (if_pos ⟨rfl, rfl⟩)
  · rw [e17]; exact if_pos ⟨rfl, rfl⟩
theorem may_in {pl v : Int32} {w : Nat} (hw : w < 4) (h2 : w ≠ 2) : mayS s pl (nI w) v ↔ 0 ≤ v.toInt ∧ v.toInt ≤ bigW w := by
  have hb : bigW w ≤ 99 := by unfold bigW; split <;> (try split) <;> (try split) <;> omega
  unfold mayS
  rw [lgst_w w hw, Int32.le_iff_toInt_le, Int32.le_iff_toInt_le, ti_0, show (nI (bigW w)).toInt = (bigW w : Int) from nI_toInt (by omega)]
  constructor
  · exact fun h => h.1
  · exact fun h => ⟨h, fun o ho q => absurd (nI_inj (by omega) (by decide) q.1) h2⟩
theorem may_sd {pl v y : Int32} (hpl : ∀ o, o < s 0 0 → (nI o ≠ pl ↔ nI o ≠ y)) : mayS s pl 2 v ↔ (0 ≤ v.toInt ∧ v.toInt ≤ 8) ∧ ∀ o, o < s 0 0 → (0 < v ∧ nI o ≠ y → nI (s 3 o) ≠ v) := by
  unfold mayS
  rw [show lgst 2 = nI 8 from rfl, Int32.le_iff_toInt_le, Int32.le_iff_toInt_le, ti_0, show (nI 8).toInt = ((8 : Nat) : Int) from nI_toInt (by decide)]
  constructor
  · exact fun h => ⟨h.1, fun o ho q => h.2 o ho ⟨rfl, q.1, (hpl o ho).mpr q.2⟩⟩
  · exact fun h => ⟨h.1, fun o ho q => h.2 o ho ⟨q.2.1, (hpl o ho).mp q.2.2⟩⟩
theorem m2ne {a : Nat} (h : a < 2147483648) : ¬ nI a = -2 := fun q => by
  have := congrArg Int32.toInt q
  rw [nI_toInt h, show (-2 : Int32).toInt = -2 from by decide] at this
  omega
theorem ok10_player {x1 x2 x3 x4 : Int32} {f : Int32 → qMI → qML → qMP → Prop} (hP : LAY P) (hM : MR I L W) (k : ∀ I' L', FR I I' L L' → MR I' L' (playerR W x1 x2 x3 x4).2 → f (playerR W x1 x2 x3 x4).1 I' L' P) : Sq (d + 4) mX10_player SH0 [.ref 144, .int x1, .int x2, .int x3, .int x4] I L P (KI f) := by
  obtain ⟨g0, -⟩ := ref_P hP
  obtain ⟨hG, hH, hI, hT, hC⟩ := id hM
  have hg := hG.1
  have hn := hg.1
  have m0 : mayS W.1 (-1) 0 x1 ↔ 0 ≤ x1.toInt ∧ x1.toInt ≤ 5 := may_in (w := 0) (by decide) (by decide)
  have m1 : mayS W.1 (-1) 1 x2 ↔ 0 ≤ x2.toInt ∧ x2.toInt ≤ 3 := may_in (w := 1) (by decide) (by decide)
  have m3 : mayS W.1 (-1) 3 x4 ↔ 0 ≤ x4.toInt ∧ x4.toInt ≤ 99 := may_in (w := 3) (by decide) (by decide)
  have m2 : mayS W.1 (-1) 2 x3 ↔ _ := may_sd (y := -2) fun o ho => ⟨fun _ => m2ne (by omega), fun _ => m1ne (by omega)⟩
  unfold playerR at k
  have out : ¬ (mayS W.1 (-1) 0 x1 ∧ mayS W.1 (-1) 1 x2 ∧ mayS W.1 (-1) 2 x3 ∧ mayS W.1 (-1) 3 x4) → f (-1) I L P := fun h => by
    rw [if_neg h] at k
    exact k I L (fun _ _ => ⟨rfl, rfl⟩) hM
  refine sp_X10_player (ok10_in (y := 0) (z := 5) rfl rfl ⟨fun c => ?_, fun c => ok10_in (y := 0) (z := 3) rfl rfl ⟨fun c2 => ?_, fun c2 => ok10_in (y := 0) (z := 8) rfl rfl ⟨fun c3 => ?_, fun c3 => ok10_in (y := 0) (z := 99) rfl rfl ⟨fun c4 => ?_, fun c4 => ⟨by decide, ok10_hasSeed hP hg ⟨fun c5 => ?_, fun c5 => ?_⟩⟩⟩⟩⟩⟩)
  · exact out fun q => b01_0.mp c (by rw [ti_0, ti_5]; exact m0.mp q.1)
  · exact out fun q => b01_0.mp c2 (by rw [ti_0, ti_3]; exact m1.mp q.2.1)
  · exact out fun q => b01_0.mp c3 (by rw [ti_0, ti_8]; exact (m2.mp q.2.2.1).1)
  · exact out fun q => b01_0.mp c4 (by rw [ti_0, ti_99]; exact m3.mp q.2.2.2)
  · have c := b01_n0.mp c
    have c2 := b01_n0.mp c2
    have c3 := b01_n0.mp c3
    have c4 := b01_n0.mp c4
    have c5 := Classical.byContradiction fun z => b01_0.mp c5 z
    rw [ti_0, ti_5] at c
    rw [ti_0, ti_3] at c2
    rw [ti_0, ti_8] at c3
    rw [ti_0, ti_99] at c4
    have n0 := m0.mpr c
    have n1 := m1.mpr c2
    have n2 := m2.mpr ⟨c3, c5⟩
    have n3 := m3.mpr c4
    rw [if_pos ⟨n0, n1, n2, n3⟩] at k
    obtain ⟨a, rfl, ea, la⟩ := may_nat (w := 0) (by decide) rfl n0
    obtain ⟨b, rfl, eb, lb⟩ := may_nat (w := 1) (by decide) rfl n1
    obtain ⟨g, rfl, eg, lg⟩ := may_nat (w := 2) (by decide) rfl n2
    obtain ⟨t, rfl, et, lt⟩ := may_nat (w := 3) (by decide) rfl n3
    rw [g0, cl_0, hg.2.1]
    refine ⟨by decide, v145 0 (by decide), fun c6 => ?_, fun c6 => ?_⟩
    · have c6 : W.1 0 0 ≠ 10 := fun q => c6 (by rw [q]; rfl)
      rw [if_pos (by omega), ea, eb, eg, et] at k
      refine ok10_comes hP hg (by omega) fun I' f' j' h4 h5 h17 G' => ?_
      rw [g0]
      refine ⟨by decide, v145 0 (by decide), kI (k I' L (fun r hr => ⟨f' r (by omega) (by omega), rfl⟩) ⟨G', ⟨h4, h5, fun i hi => absurd hi (Nat.not_lt_zero i), fun i hi => absurd hi (Nat.not_lt_zero i)⟩, hI.congr (j' 6 (by decide) (by decide) (by decide)) (f' 146 (by decide) (by decide)), hT.congr (j' 10 (by decide) (by decide) (by decide)) (f' 149 (by decide) (by decide)), Or.inl h17⟩) ?_⟩
      rw [G'.1.2.1, dropS_lo _ _ _ (by decide), addS_e.1, nI_pred]
    · have c6 : W.1 0 0 = 10 := nI_inj (by omega) (by decide) c6
      rw [if_neg (by omega)] at k
      exact k I L (fun _ _ => ⟨rfl, rfl⟩) hM
  · exact out fun q => b01_n0.mp c5 (m2.mp q.2.2.1).2
theorem GE.tell {v v' : Nat → Int32} {p w a : Nat} (h : GE v s) (hp : p < s 0 0) (hw : w < 4) (q : ∀ k, v' k = if k = 5 + 10 * w + p then nI a else v k) : GE v' (up s (1 + w) p a) := by
  obtain ⟨hn, v0, v1, v2, vp⟩ := h
  have lo : ∀ x y, (x = 0 ∨ 5 ≤ x) → up s (1 + w) p a x y = s x y := fun x y h => up_ne (by omega)
  unfold GE
  rw [lo 0 0 (by omega), lo 5 0 (by omega), lo 6 0 (by omega)]
  refine ⟨hn, by rw [q, if_neg (by omega)]; exact v0, by rw [q, if_neg (by omega)]; exact v1, by rw [q, if_neg (by omega)]; exact v2, fun r x hr hx => ?_⟩
  rw [q]
  by_cases c : x = w ∧ r = p
  · obtain ⟨rfl, rfl⟩ := c
    rw [if_pos rfl, up_at]
  · rw [if_neg (by omega), up_ne (by omega)]
    exact vp r x hr hx
theorem GD_cg {v : Nat → Int32} {s t : Sit} (h : GD v s) (q : ∀ x y, (x = 0 ∨ x = 9 ∨ 11 ≤ x) → t x y = s x y) : GD v t := by
  have e0 : t 0 0 = s 0 0 := q 0 0 (by omega)
  have e9 : t 9 0 = s 9 0 := q 9 0 (by omega)
  have e11 : t 11 = s 11 := funext fun y => q 11 y (by omega)
  have e20 : t 20 = s 20 := funext fun y => q 20 y (by omega)
  have er : ∀ r, t (20 + r) = s (20 + r) := fun r => funext fun y => q _ y (by omega)
  unfold GD
  rw [e0, e9, e11, e20]
  simp only [er]
  exact h
theorem ok10_tell {x y z : Int32} {f : Int32 → qMI → qML → qMP → Prop} (hP : LAY P) (hM : MR I L W) (hO : OKW W) (k : ∀ I' L', FR I I' L L' → MR I' L' (tellR W x y z).2 → f (tellR W x y z).1 I' L' P) : Sq (d + 3) mX10_tell SH0 [.ref 144, .int x, .int y, .int z] I L P (KI f) := by
  obtain ⟨g0, -⟩ := ref_P hP
  obtain ⟨hG, hH, hI, hT, hC⟩ := id hM
  have hg := hG.1
  have hn := hg.1
  unfold tellR at k
  have out : ¬ (isP (W.1 0 0) x ∧ mayS W.1 x y z) → f (-1) I L P := fun h => by
    rw [if_neg h] at k
    exact k I L (fun _ _ => ⟨rfl, rfl⟩) hM
  refine sp_X10_tell ⟨by decide, ok10_isPlayer hP hg ⟨fun c => out fun q => b01_0.mp c q.1, fun c => ok10_in (y := 0) (z := 3) rfl rfl ⟨fun c2 => out fun q => ?_, fun c2 => ?_⟩⟩⟩
  · have h4 : ¬ isP 4 y := fun h => b01_0.mp c2 (by unfold isP at h; rw [ti_0, ti_3]; omega)
    have q2 := q.2.1
    rw [lgst_4 h4] at q2
    have := q2.1
    have := q2.2
    simp only [Int32.le_iff_toInt_le, ti_0, show (-1 : Int32).toInt = -1 from by decide] at *
    omega
  · have c := b01_n0.mp c
    have c2 := b01_n0.mp c2
    rw [ti_0, ti_3] at c2
    obtain ⟨p, hp, rfl, hcp⟩ := cl_isP c (by omega)
    obtain ⟨w, hw, rfl, hcw⟩ := cl_isP (n := 4) (x := y) ⟨c2.1, by omega⟩ (by decide)
    have hb : bigW w ≤ 99 := by unfold bigW; split <;> (try split) <;> (try split) <;> omega
    have tail : mayS W.1 (nI p) (nI w) z → Sq (d + 2) mX10_changes SH0 [.ref 144] I L P (KV fun I22 L23 P24 => Sq (d + 2) mX10_placeOf SH0 [.int (nI w)] I22 L23 P24 (KI fun r25 I26 L27 P28 => ((shp SH0 (P28 144 0)).1 = 20) ∧ ((vp_in (r25 + nI p) (shp SH0 (P28 144 0)).2) ∧ (∀ I31 : qMI, I31 = uI I26 (P28 144 0) (Int32.toNatClampNeg (r25 + nI p)) z → (((3 ≤ nI w) → (KI f (some (.int (I26 (P28 144 0) (Int32.toNatClampNeg (r25 + nI p))))) I31 L27 P28)) ∧ ((¬ 3 ≤ nI w) → (Sq (d + 2) mX10_noDraw SH0 [.ref 144] I31 L27 P28 (KV fun I33 L34 P35 => KI f (some (.int (I26 (P28 144 0) (Int32.toNatClampNeg (r25 + nI p))))) I33 L34 P35)))))))) := by
      intro hm
      rw [if_pos ⟨c, hm⟩] at k
      obtain ⟨a, rfl, ha, la⟩ := may_nat hw rfl hm
      rw [hcp, hcw, ha] at k
      refine ok10_changes hP hM hO fun I22 f22 j22 h22 => ok10_placeOf hw ?_
      rw [g0, nI_add, clN (by omega)]
      have v22 : I22 145 = I 145 := f22 145 (by decide) (by decide)
      rw [v22, hg.2.2.2.2 p w hp hw]
      refine ⟨by decide, v145 _ (by omega), fun I31 e31 => ?_⟩
      have f31 : ∀ r, r ≠ 145 → I31 r = I22 r := fun r q => by rw [e31, uI_ne r q]
      have v31 : ∀ j, I31 145 j = if j = 5 + 10 * w + p then nI a else I 145 j := fun j => by
        rw [e31, ← v22]; simp [uI]
      have hG31 : GE (I31 145) (up W.1 (1 + w) p a) := hg.tell hp hw v31
      refine ⟨fun c3 => ?_, fun c3 => ?_⟩
      · have c3 := (nI_leI (a := 3) (by decide) (by omega)).mp c3
        have : w = 3 := by omega
        subst this
        have et : tellS W.1 p 3 a = up W.1 4 p a := if_pos rfl
        rw [et] at k
        have us : ∀ x y, x ≠ 4 → up W.1 4 p a x y = W.1 x y := fun x y h => up_ne (by omega)
        refine k I31 L (fun r hr => ⟨by rw [f31 r (by omega), f22 r (by omega) (by omega)], rfl⟩) ⟨⟨hG31, ?_, ?_, fun z7 => ?_⟩, (h22 _).congr (by rw [f31 144 (by decide)]) (by rw [f31 144 (by decide)]) (by rw [f31 147 (by decide)]) (by rw [f31 148 (by decide)]), hI.congr (by rw [f31 144 (by decide), j22 6 (by decide) (by decide)]) (by rw [f31 146 (by decide), f22 146 (by decide) (by decide)]), hT.congr (by rw [f31 144 (by decide), j22 10 (by decide) (by decide)]) (by rw [f31 149 (by decide), f22 149 (by decide) (by decide)]), (hC.congr (by rw [f31 144 (by decide), j22 17 (by decide) (by decide)]) rfl).same fun x y hx => us x y (by omega)⟩
        · show I31 145 3 = nI (up W.1 4 p a 7 0)
          rw [us _ _ (by decide), v31, if_neg (by omega)]; exact hG.2.1
        · show I31 145 4 = nI (up W.1 4 p a 9 0)
          rw [us _ _ (by decide), v31, if_neg (by omega)]; exact hG.2.2.1
        · have z7 : up W.1 4 p a 7 0 = 1 := z7
          rw [us _ _ (by decide)] at z7
          refine GD_cg ((hG.2.2.2 z7).congr fun q h1 h2 => ?_) fun x y hx => us x y (by omega)
          rw [v31, if_neg (by omega)]
      · have c3 : ¬ 3 ≤ w := fun q => c3 ((nI_leI (a := 3) (by decide) (by omega)).mpr q)
        have et : tellS W.1 p w a = dropS (up W.1 (1 + w) p a) := if_neg (by omega)
        rw [et] at k
        refine ok10_noDraw hP hG31 fun I33 f33 j33 h33 G33 => k I33 L (fun r hr => ⟨by rw [f33 r (by omega) (by omega), f31 r (by omega), f22 r (by omega) (by omega)], rfl⟩) ⟨G33, (h22 _).congr (by rw [j33 4 (by decide), f31 144 (by decide)]) (by rw [j33 5 (by decide), f31 144 (by decide)]) (by rw [f33 147 (by decide) (by decide), f31 147 (by decide)]) (by rw [f33 148 (by decide) (by decide), f31 148 (by decide)]), hI.congr (by rw [j33 6 (by decide), f31 144 (by decide), j22 6 (by decide) (by decide)]) (by rw [f33 146 (by decide) (by decide), f31 146 (by decide), f22 146 (by decide) (by decide)]), hT.congr (by rw [j33 10 (by decide), f31 144 (by decide), j22 10 (by decide) (by decide)]) (by rw [f33 149 (by decide) (by decide), f31 149 (by decide), f22 149 (by decide) (by decide)]), Or.inl h33⟩
    refine ok10_mostOf hw (ok10_in (y := 0) rfl rfl ⟨fun c3 => out fun q => ?_, fun c3 => ⟨fun c4 => ?_, fun c4 => ok10_hasSeed hP hg ⟨fun c5 => ?_, fun c5 => out fun q => ?_⟩⟩⟩)
    · refine b01_0.mp c3 ?_
      have q2 := q.2.1
      rw [lgst_w w hw, Int32.le_iff_toInt_le, Int32.le_iff_toInt_le] at q2
      exact q2
    · have c3 := b01_n0.mp c3
      rw [ti_0, show (nI (bigW w)).toInt = (bigW w : Int) from nI_toInt (by omega)] at c3
      exact tail ((may_in hw (fun q => c4 (by rw [q]; rfl))).mpr c3)
    · have c3 := b01_n0.mp c3
      have c4 : w = 2 := nI_inj (by omega) (by decide) c4
      subst c4
      have c5 := Classical.byContradiction fun z => b01_0.mp c5 z
      exact tail ((may_sd (y := nI p) fun o ho => Iff.rfl).mpr ⟨c3, c5⟩)
    · have c4 : w = 2 := nI_inj (by omega) (by decide) c4
      subst c4
      exact b01_n0.mp c5 ((may_sd (y := nI p) fun o ho => Iff.rfl).mp q.2).2
theorem GE.lev {v v' : Nat → Int32} {w a : Nat} (h : GE v s) (hw : w < 2) (q : ∀ k, v' k = if k = 1 + w then nI a else v k) : GE v' (up s (5 + w) 0 a) := by
  obtain ⟨hn, v0, v1, v2, vp⟩ := h
  unfold GE
  rw [up_ne (x := 0) (by omega)]
  refine ⟨hn, by rw [q, if_neg (by omega)]; exact v0, ?_, ?_, fun r x hr hx => ?_⟩
  · rw [q]
    by_cases c : w = 0
    · subst c; rw [if_pos rfl, up_at]
    · rw [if_neg (by omega), up_ne (by omega)]; exact v1
  · rw [q]
    by_cases c : w = 1
    · subst c; rw [if_pos rfl, up_at]
    · rw [if_neg (by omega), up_ne (by omega)]; exact v2
  · rw [q, if_neg (by omega), up_ne (by omega)]
    exact vp r x hr hx
theorem ok10_level {x y : Int32} {f : Int32 → qMI → qML → qMP → Prop} (hP : LAY P) (hM : MR I L W) (hO : OKW W) (k : ∀ I' L', FR I I' L L' → MR I' L' (levelR W x y).2 → f (levelR W x y).1 I' L' P) : Sq (d + 3) mX10_level SH0 [.ref 144, .int x, .int y] I L P (KI f) := by
  obtain ⟨g0, -⟩ := ref_P hP
  obtain ⟨hG, hH, hI, hT, hC⟩ := id hM
  have hg := hG.1
  unfold levelR at k
  refine sp_X10_level (ok10_in (y := 0) (z := 1) rfl rfl ⟨fun c => ?_, fun c => ok10_in (y := 0) (z := 4) rfl rfl ⟨fun c2 => ?_, fun c2 => ?_⟩⟩)
  · rw [if_neg (fun q => b01_0.mp c (by have := q.1; unfold isP at this; rw [ti_0, ti_1]; omega))] at k
    exact k I L (fun _ _ => ⟨rfl, rfl⟩) hM
  · have c := b01_n0.mp c
    have c2 := b01_n0.mp c2
    rw [ti_0, ti_1] at c
    rw [ti_0, ti_4] at c2
    have hx : isP 2 x := ⟨c.1, by omega⟩
    have hy : isP 5 y := ⟨c2.1, by omega⟩
    rw [if_pos ⟨hx, hy⟩] at k
    obtain ⟨w, hw, rfl, hcw⟩ := cl_isP hx (by decide)
    obtain ⟨v, hv, rfl, hcv⟩ := cl_isP hy (by decide)
    rw [hcw, hcv] at k
    refine ⟨by decide, ok10_changes hP hM hO fun I12 f12 j12 h12 => ?_⟩
    rw [g0, cl_1, cl_2]
    have v12 : I12 145 = I 145 := f12 145 (by decide) (by decide)
    have fin : ∀ I18 : qMI, I18 = uI I12 145 (1 + w) (nI v) → ∀ q : Int32, q = nI (W.1 (5 + w) 0) → Sq (d + 2) mX10_noDraw SH0 [.ref 144] I18 L P (KV fun I33 L34 P35 => KI f (some (.int q)) I33 L34 P35) := by
      intro I18 e18 q hq
      subst hq
      have f31 : ∀ r, r ≠ 145 → I18 r = I12 r := fun r q => by rw [e18, uI_ne r q]
      have hG31 : GE (I18 145) (up W.1 (5 + w) 0 v) := hg.lev hw fun j => by rw [e18, ← v12]; simp [uI]
      exact ok10_noDraw hP hG31 fun I33 f33 j33 h33 G33 => k I33 L (fun r hr => ⟨by rw [f33 r (by omega) (by omega), f31 r (by omega), f12 r (by omega) (by omega)], rfl⟩) ⟨G33, (h12 _).congr (by rw [j33 4 (by decide), f31 144 (by decide)]) (by rw [j33 5 (by decide), f31 144 (by decide)]) (by rw [f33 147 (by decide) (by decide), f31 147 (by decide)]) (by rw [f33 148 (by decide) (by decide), f31 148 (by decide)]), hI.congr (by rw [j33 6 (by decide), f31 144 (by decide), j12 6 (by decide) (by decide)]) (by rw [f33 146 (by decide) (by decide), f31 146 (by decide), f12 146 (by decide) (by decide)]), hT.congr (by rw [j33 10 (by decide), f31 144 (by decide), j12 10 (by decide) (by decide)]) (by rw [f33 149 (by decide) (by decide), f31 149 (by decide), f12 149 (by decide) (by decide)]), Or.inl h33⟩
    refine ⟨fun c3 => ⟨by decide, v145 2 (by decide), fun I18 e18 => ?_⟩, fun c3 => ⟨by decide, v145 1 (by decide), fun I18 e18 => ?_⟩⟩
    · have : w ≠ 0 := fun q => c3 (by rw [q]; rfl)
      have : w = 1 := by omega
      subst this
      exact fin I18 e18 _ (by rw [v12]; exact hg.2.2.2.1)
    · have : w = 0 := nI_inj (by omega) (by decide) c3
      subst this
      exact fin I18 e18 _ (by rw [v12]; exact hg.2.2.1)
  · rw [if_neg (fun q => b01_0.mp c2 (by have := q.2; unfold isP at this; rw [ti_0, ti_4]; omega))] at k
    exact k I L (fun _ _ => ⟨rfl, rfl⟩) hM
/-! the seeds' slots -/
def rowT (m : Nat) : List Nat := if m = 1 then [1] else rowS m
theorem rowT_2 : ∀ m, m < 9 → (m = 1 ∨ m = 2 ∨ m = 4 ∨ m = 8) → ∀ j, j < m → (rowT (2 * m)).getD (2 * j) 0 = (rowT m).getD j 0 ∧ (rowT (2 * m)).getD (2 * j + 1) 0 = 2 * m + 1 - (rowT m).getD j 0 ∧ (rowT m).getD j 0 ≤ m := by decide
theorem rowT_c : ([2, 4, 8, 16].all fun S => (List.range 9).all fun z => z == 0 || decide (S < z) || (decide (seatS S z < S) && (rowT S).getD (seatS S z) 0 == z && (List.range (seatS S z)).all fun j => (rowT S).getD j 0 != z && decide ((rowT S).getD j 0 ≤ 16))) = true := by decide +kernel
theorem rowT_ix {S z : Nat} (hS : S = 2 ∨ S = 4 ∨ S = 8 ∨ S = 16) (h9 : z < 9) (h1 : 1 ≤ z) (h2 : z ≤ S) : seatS S z < S ∧ (rowT S).getD (seatS S z) 0 = z ∧ ∀ j, j < seatS S z → (rowT S).getD j 0 ≠ z ∧ (rowT S).getD j 0 ≤ 16 := by
  have q := List.all_eq_true.mp rowT_c S (by rcases hS with rfl | rfl | rfl | rfl <;> simp)
  have q := List.all_eq_true.mp q z (List.mem_range.mpr h9)
  simp only [Bool.or_eq_true, Bool.and_eq_true, beq_iff_eq, decide_eq_true_eq, List.all_eq_true, List.mem_range, bne_iff_ne] at q
  rcases q with (q | q) | ⟨⟨q1, q2⟩, q3⟩
  · omega
  · omega
  · exact ⟨q1, q2, q3⟩
theorem ok10_seedSlot {z : Nat} {f : Int32 → qMI → qML → qMP → Prop} (hP : LAY P) (hG : GE (I 145) s) (hz : z ≤ 8) (k : ∀ I', (∀ r, r ≠ 152 → r ≠ 153 → I' r = I r) → f (if 1 ≤ z ∧ z ≤ slotsS (s 0 0) then nI (seatS (slotsS (s 0 0)) z) else -2) I' L P) : Sq (d + 2) mX10_seedSlot SH0 [.ref 144, .int (nI z)] I L P (KI f) := by
  obtain ⟨g0, g1, g2, g3, g4, g5, g6, g7, g8, -⟩ := ref_P hP
  have hs := slotsS_in (s 0 0)
  have tz : (nI z).toInt = (z : Int) := nI_toInt (by omega)
  have tS : (nI (slotsS (s 0 0))).toInt = (slotsS (s 0 0) : Int) := nI_toInt (by omega)
  generalize hSe : slotsS (s 0 0) = S at *
  refine sp_X10_seedSlot
    (fun x2 x3 I' L' P' => L' = L ∧ P' = P ∧ 1 ≤ z ∧ z ≤ S ∧ x2 = nI S ∧ (∀ r, r ≠ 152 → r ≠ 153 → I' r = I r) ∧ ∃ m, (m = 1 ∨ m = 2 ∨ m = 4 ∨ m = 8 ∨ m = 16) ∧ m ≤ S ∧ x3 = nI m ∧ ∀ j, j < m → I' 152 j = nI ((rowT m).getD j 0))
    (fun _ x3 _ _ _ => (100 - x3.toNatClampNeg) * 100 + 90)
    (fun x2 x3 x4 I' L' P' => L' = L ∧ P' = P ∧ 1 ≤ z ∧ z ≤ S ∧ x2 = nI S ∧ (∀ r, r ≠ 152 → r ≠ 153 → I' r = I r) ∧ ∃ m o, (m = 1 ∨ m = 2 ∨ m = 4 ∨ m = 8) ∧ 2 * m ≤ S ∧ x3 = nI m ∧ x4 = nI o ∧ o ≤ m ∧ (∀ j, j < m → I' 152 j = nI ((rowT m).getD j 0)) ∧ ∀ j, j < 2 * o → I' 153 j = nI ((rowT (2 * m)).getD j 0))
    (fun _ x3 x4 _ _ _ => (100 - x3.toNatClampNeg) * 100 + 80 - x4.toNatClampNeg)
    (fun x2 x3 x4 I' L' P' => L' = L ∧ P' = P ∧ 1 ≤ z ∧ z ≤ S ∧ x2 = nI S ∧ (∀ r, r ≠ 152 → r ≠ 153 → I' r = I r) ∧ ∃ m o, (m = 1 ∨ m = 2 ∨ m = 4 ∨ m = 8) ∧ 2 * m ≤ S ∧ x3 = nI m ∧ x4 = nI o ∧ o ≤ 2 * m ∧ (∀ j, j < o → I' 152 j = nI ((rowT (2 * m)).getD j 0)) ∧ ∀ j, j < 2 * m → I' 153 j = nI ((rowT (2 * m)).getD j 0))
    (fun _ x3 x4 _ _ _ => (100 - x3.toNatClampNeg) * 100 + 40 - x4.toNatClampNeg)
    (fun x2 x3 I' L' P' => L' = L ∧ P' = P ∧ 1 ≤ z ∧ z ≤ S ∧ (∀ r, r ≠ 152 → r ≠ 153 → I' r = I r) ∧ ∃ o, o ≤ seatS S z ∧ x3 = nI o ∧ ∀ j, j < S → I' 152 j = nI ((rowT S).getD j 0))
    (fun _ x3 _ _ _ => 100 - x3.toNatClampNeg) ⟨by decide, ok10_slots hP hG ?_⟩ ?_ ?_ ?_ ?_
  · rw [hSe]
    refine ok10_in (y := 1) rfl rfl ⟨fun c => ?_, fun c => ?_⟩
    · have c := b01_n0.mp c
      rw [ti_1, tz, tS] at c
      rw [g7]
      exact ⟨by decide, vin 0 rfl (by decide) (by decide), fun I13 e13 => ⟨rfl, rfl, by omega, by omega, rfl, fun r q _ => by rw [e13, uI_ne r q], 1, Or.inl rfl, by omega, rfl, fun j hj => by
        have : j = 0 := by omega
        subst this
        rw [e13, cl_0]; exact if_pos ⟨rfl, rfl⟩⟩⟩
    · have c := b01_0.mp c
      rw [ti_1, tz, tS] at c
      have kk := k I (fun _ _ _ => rfl)
      rw [if_neg (by omega)] at kk
      exact kk
  · rintro x2 x3 I1 L1 P1 ⟨rfl, rfl, hz1, hz2, rfl, hF, m, hm, hmS, rfl, hR⟩
    refine ⟨fun c => ⟨⟨rfl, rfl, hz1, hz2, hF, 0, Nat.zero_le _, rfl, ?_⟩, ?_⟩, fun c => ⟨⟨rfl, rfl, hz1, hz2, rfl, hF, m, 0, ?_, ?_, rfl, rfl, Nat.zero_le _, hR, fun j hj => absurd hj (by omega)⟩, ?_⟩⟩
    · have c := (nI_leI (by omega) (by omega)).mp c
      have : m = S := by omega
      subst this
      exact hR
    · rw [show (0 : Int32).toNatClampNeg = 0 from cl_0, clN (by omega)]; omega
    · have c : ¬ S ≤ m := fun q => c ((nI_leI (by omega) (by omega)).mpr q)
      omega
    · have c : ¬ S ≤ m := fun q => c ((nI_leI (by omega) (by omega)).mpr q)
      omega
    · rw [show (0 : Int32).toNatClampNeg = 0 from cl_0, clN (by omega)]; omega
  · rintro x2 x3 x4 I1 L1 P1 ⟨rfl, rfl, hz1, hz2, rfl, hF, m, o, hm, hmS, rfl, rfl, ho, hR, hV⟩
    refine ⟨fun c => ⟨⟨rfl, rfl, hz1, hz2, rfl, hF, m, 0, hm, hmS, rfl, rfl, Nat.zero_le _, fun j hj => absurd hj (Nat.not_lt_zero j), ?_⟩, ?_⟩, fun c => ⟨by decide, ?_⟩⟩
    · have c := (nI_leI (by omega) (by omega)).mp c
      have : o = m := by omega
      subst this
      exact hV
    · rw [show (0 : Int32).toNatClampNeg = 0 from cl_0, clN (by omega), clN (by omega)]; omega
    · have c : o < m := Nat.lt_of_not_le fun q => c (nI_le q (by omega))
      obtain ⟨r1, r2, r3⟩ := rowT_2 m (by omega) hm o c
      rw [g7, g8, show (2 : Int32) * nI o = nI (2 * o) from pk_mul 2 o, show (2 : Int32) * nI m = nI (2 * m) from pk_mul 2 m, nI_1, nI_1, nI_1, clN (by omega), clN (by omega), clN (by omega)]
      refine ⟨by decide, vin _ rfl (show o < 16 by omega) (by decide), by decide, vin _ rfl (show 2 * o < 16 by omega) (by decide), fun I7 e7 => ⟨vin _ rfl (show 2 * o + 1 < 16 by omega) (by decide), fun I9 e9 => ?_⟩⟩
      have i7 : I7 152 o = nI ((rowT m).getD o 0) := by rw [e7, uI_ne 152 (by decide)]; exact hR o c
      rw [i7, pk_sub (by omega), ← r2] at e9
      rw [hR o c, ← r1] at e7
      have f9 : ∀ r, r ≠ 153 → I9 r = I1 r := fun r q => by rw [e9, uI_ne r q, e7, uI_ne r q]
      refine ⟨⟨rfl, rfl, hz1, hz2, rfl, fun r q1 q2 => by rw [f9 r q2]; exact hF r q1 q2, m, o + 1, hm, hmS, rfl, rfl, by omega, fun j hj => by rw [f9 152 (by decide)]; exact hR j hj, fun j hj => ?_⟩, ?_⟩
      · rw [e9, e7]
        show (if 153 = 153 ∧ j = 2 * o + 1 then _ else if 153 = 153 ∧ j = 2 * o then _ else I1 153 j) = _
        by_cases y1 : j = 2 * o + 1
        · rw [if_pos ⟨rfl, y1⟩, y1]
        · rw [if_neg (fun q => y1 q.2)]
          by_cases y2 : j = 2 * o
          · rw [if_pos ⟨rfl, y2⟩, y2]
          · rw [if_neg (fun q => y2 q.2)]
            exact hV j (by omega)
      · ((try simp only [nI_1]); (repeat rw [clN (by omega)]); omega)
  · rintro x2 x3 x4 I1 L1 P1 ⟨rfl, rfl, hz1, hz2, rfl, hF, m, o, hm, hmS, rfl, rfl, ho, hR, hV⟩
    unfold vc_X10_seedSlot_3
    rw [show (2 : Int32) * nI m = nI (2 * m) from pk_mul 2 m, show nI m * 2 = nI (2 * m) from (pk_mul m 2).trans (by rw [Nat.mul_comm])]
    refine ⟨fun c => ⟨⟨rfl, rfl, hz1, hz2, rfl, hF, 2 * m, by omega, hmS, rfl, ?_⟩, ?_⟩, fun c => ⟨by decide, ?_⟩⟩
    · have c := (nI_leI (by omega) (by omega)).mp c
      have : o = 2 * m := by omega
      subst this
      exact hR
    · have c := (nI_leI (by omega) (by omega)).mp c
      rw [clN (by omega), clN (by omega), clN (by omega)]; omega
    · have c : o < 2 * m := Nat.lt_of_not_le fun q => c (nI_le q (by omega))
      rw [g7, g8, nI_1, clN (by omega), hV o c]
      refine ⟨by decide, vin _ rfl (show o < 16 by omega) (by decide), by decide, vin _ rfl (show o < 16 by omega) (by decide), fun I7 e7 => ⟨⟨rfl, rfl, hz1, hz2, rfl, fun r q1 q2 => by rw [e7, uI_ne r q1]; exact hF r q1 q2, m, o + 1, hm, hmS, rfl, rfl, by omega, fun j hj => ?_, fun j hj => by rw [e7, uI_ne 153 (by decide)]; exact hV j hj⟩, ?_⟩⟩
      · rw [e7]
        show (if 152 = 152 ∧ j = o then _ else I1 152 j) = _
        by_cases y1 : j = o
        · rw [if_pos ⟨rfl, y1⟩, y1]
        · rw [if_neg (fun q => y1 q.2)]
          exact hR j (by omega)
      · ((try simp only [nI_1]); (repeat rw [clN (by omega)]); omega)
  · rintro x2 x3 I1 L1 P1 ⟨rfl, rfl, hz1, hz2, hF, o, ho, rfl, hR⟩
    obtain ⟨r1, r2, r3⟩ := rowT_ix hs (by omega) hz1 hz2
    refine ⟨by decide, ?_⟩
    rw [g7, clN (by omega), hR o (by omega)]
    refine ⟨by decide, vin _ rfl (show o < 16 by omega) (by decide), fun c => ?_, fun c => ?_⟩
    · have kk := k I1 hF
      rw [if_pos ⟨hz1, hz2⟩] at kk
      have : o = seatS S z := by
        rcases Nat.lt_or_ge o (seatS S z) with y | y
        · obtain ⟨q1, q2⟩ := r3 o y
          exact absurd (nI_inj (by omega) (by omega) c) q1
        · omega
      exact kI kk (by rw [this])
    · have : o ≠ seatS S z := fun q => c (by rw [q, r2])
      refine ⟨⟨rfl, rfl, hz1, hz2, hF, o + 1, by omega, nI_1 o, hR⟩, ?_⟩
      ((try simp only [nI_1]); (repeat rw [clN (by omega)]); omega)
theorem ok10_of {x y : Int32} {f : Int32 → qMI → qML → qMP → Prop} (hP : LAY P) (hM : MR I L W) (hO : OKW W) (k : ∀ I', KR I I' L L → f (ofV W.1 x y) I' L P) : Sq (d + 3) mX10_of SH0 [.ref 144, .int x, .int y] I L P (KI f) := by
  obtain ⟨g0, -⟩ := ref_P hP
  obtain ⟨hG, -⟩ := id hM
  have hg := hG.1
  have hn := hg.1
  have w4 := hO.1.1.2.2.2.1
  unfold ofV at k
  refine sp_X10_of ⟨by decide, ok10_isPlayer hP hg ⟨fun c => ?_, fun c => ok10_in (y := 0) (z := 4) rfl rfl ⟨fun c2 => ⟨fun c3 => ?_, fun c3 => ?_⟩, fun c2 => ?_⟩⟩⟩
  · rw [if_neg (fun q => b01_0.mp c q.1)] at k
    exact k I (KR.refl I L)
  · have c := b01_n0.mp c
    have c2 := b01_n0.mp c2
    rw [ti_0, ti_4] at c2
    rw [Int32.le_iff_toInt_le, ti_4] at c3
    have ey : y = 4 := Int32.toInt_inj.mp (by rw [ti_4]; omega)
    subst ey
    obtain ⟨p, hp, rfl, hcp⟩ := cl_isP c (by omega)
    rw [if_pos ⟨c, by decide⟩, if_pos rfl, hcp] at k
    have hv : I 145 (25 + p) = nI (W.1 3 p) := hg.2.2.2.2 p 2 hp (by decide)
    rw [g0, show (25 : Int32) + nI p = nI (25 + p) from nI_add 25 p, clN (by omega), hv]
    refine ⟨by decide, v145 _ (by omega), ok10_seedSlot hP hg ((w4 p hp).2.2.1) fun I' f' => ?_⟩
    exact k I' ⟨fun j _ => by rw [f' 144 (by decide) (by decide)], fun r _ h2 => f' r (by omega) (by omega), fun _ _ => rfl⟩
  · have c := b01_n0.mp c
    have c2 := b01_n0.mp c2
    rw [ti_0, ti_4] at c2
    rw [Int32.le_iff_toInt_le, ti_4] at c3
    obtain ⟨p, hp, rfl, hcp⟩ := cl_isP c (by omega)
    obtain ⟨w, hw, rfl, hcw⟩ := cl_isP (n := 4) (x := y) ⟨c2.1, by omega⟩ (by decide)
    rw [if_pos ⟨c, ⟨c2.1, by omega⟩⟩, if_neg (fun q => by have := nI_inj (b := 4) (by omega) (by decide) q; omega), hcp, hcw] at k
    refine ok10_placeOf hw ?_
    rw [g0, nI_add, clN (by omega), hg.2.2.2.2 p w hp hw]
    exact ⟨by decide, v145 _ (by omega), k I (KR.refl I L)⟩
  · rw [if_neg (fun q => b01_0.mp c2 (by have := q.2; unfold isP at this; rw [ti_0, ti_4]; omega))] at k
    exact k I (KR.refl I L)
end RP
