/-! ===== the reference: the draw ===== -/
theorem TB_b (n : Nat) : TB n 1 ≤ 8 ∧ TB n 2 ≤ 4 ∧ TB n 3 ≤ 2 ∧ TB n 4 ≤ 1 := by
  have hs := slotsS_in n
  unfold TB
  simp only [Nat.reducePow]
  omega
theorem thr_at : thr 1 = 61 ∧ thr 2 = 69 ∧ thr 3 = 73 ∧ thr 4 = 75 := ⟨rfl, rfl, rfl, rfl⟩
theorem thr_inj {n r q k j : Nat} (h1 : 1 ≤ r) (h2 : r ≤ 4) (h3 : 1 ≤ q) (h4 : q ≤ 4) (hk : k < TB n r) (hj : j < TB n q) (h : thr r + k = thr q + j) : r = q ∧ k = j := by
  obtain ⟨b1, b2, b3, b4⟩ := TB_b n
  obtain ⟨a1, a2, a3, a4⟩ := thr_at
  have hr : r = 1 ∨ r = 2 ∨ r = 3 ∨ r = 4 := by omega
  have hq : q = 1 ∨ q = 2 ∨ q = 3 ∨ q = 4 := by omega
  rcases hr with rfl | rfl | rfl | rfl <;> rcases hq with rfl | rfl | rfl | rfl <;> omega
section RD
variable {d : Nat} {I : qMI} {L : qML} {P : qMP} {W : Wd} {s : Sit}
theorem ok10_hasDraw {f : Int32 → qMI → qML → qMP → Prop} (hP : LAY P) (hG : GS (I 145) s) (hs : s 7 0 = 0 ∨ s 7 0 = 1) (k : f (b01 (s 7 0 = 1)) I L P) : Sq (d + 1) mX10_hasDraw SH0 [.ref 144] I L P (KI f) := by
  obtain ⟨g0, -⟩ := ref_P hP
  refine sp_X10_hasDraw ⟨by decide, ?_⟩
  rw [g0, cl_3, hG.2.1]
  refine ⟨by decide, v145 3 (by decide), fun c => kI k (b01_f fun q => c (by rw [q]; rfl)), fun c => kI k (b01_t ?_)⟩
  exact nI_inj (by omega) (by decide) c
theorem ok10_slotOf {p : Nat} {f : Int32 → qMI → qML → qMP → Prop} (hP : LAY P) (v : GD (I 145) s) (w : WD s) (hp : p < s 0 0) (k : f (nI (slotI s p)) I L P) : Sq (d + 1) mX10_slotOf SH0 [.ref 144, .int (nI p)] I L P (KI f) := by
  obtain ⟨g0, -⟩ := ref_P hP
  obtain ⟨j, hj, ej⟩ := w.2.2.2.2.1 p hp
  have e := slotI_eq w hp hj ej
  have hs := slotsS_in (s 0 0)
  have hn := w.2.2.1
  refine sp_X10_slotOf (fun x I' L' P' => I' = I ∧ L' = L ∧ P' = P ∧ ∃ o, o ≤ j ∧ x = nI o) (fun x _ _ _ => 20 - x.toNatClampNeg) ⟨rfl, rfl, rfl, 0, Nat.zero_le _, rfl⟩ ?_
  rintro x I' L' P' ⟨rfl, rfl, rfl, o, ho, rfl⟩
  refine ⟨by decide, ?_⟩
  rw [g0, show (45 : Int32) + nI o = nI (45 + o) from nI_add 45 o, clN (by omega), v.1 o (by omega)]
  have b := w.2.2.2.1 0 o (Nat.zero_le _) (by rw [TB_0]; omega)
  have b : s 20 o ≤ 10 := by
    rcases b with q | ⟨-, q⟩
    · have q : s 20 o < s 0 0 := q
      omega
    · have q : s 20 o = 10 := q
      omega
  refine ⟨by decide, v145 _ (by omega), fun c => kI k ?_, fun c => ⟨⟨rfl, rfl, rfl, o + 1, ?_, nI_1 o⟩, ?_⟩⟩
  · rw [slotI_eq w hp (j := o) (by omega) (nI_inj (by omega) (by omega) c)]
  · have : o ≠ j := fun q => c (by rw [q, ej])
    omega
  · rw [nI_1, clN (by omega), clN (by omega)]; omega
theorem sl_lt {p : Nat} (w : WD s) (hp : p < s 0 0) : slotI s p < slotsS (s 0 0) := by
  obtain ⟨j, hj, ej⟩ := w.2.2.2.2.1 p hp
  rw [slotI_eq w hp hj ej]; exact hj
theorem ok10_slot {x : Int32} {f : Int32 → qMI → qML → qMP → Prop} (hP : LAY P) (hG : GS (I 145) s) (hO : OKS s) (k : f (slotV s x) I L P) : Sq (d + 3) mX10_slot SH0 [.ref 144, .int x] I L P (KI f) := by
  obtain ⟨g0, -⟩ := ref_P hP
  have hs := slotsS_in (s 0 0)
  unfold slotV at k
  refine sp_X10_slot ⟨by decide, ok10_isSlot hP hG.1 ⟨fun c => ok10_hasDraw hP hG hO.2.1 ⟨fun c2 => ?_, fun c2 => ?_⟩, fun c => ?_⟩⟩
  · rw [if_pos (b01_n0.mp c), if_neg (b01_0.mp c2)] at k
    exact k
  · have c := b01_n0.mp c
    have c2 := b01_n0.mp c2
    rw [if_pos c, if_pos c2] at k
    obtain ⟨j, hj, rfl, hcj⟩ := cl_isP c (by omega)
    rw [hcj] at k
    rw [g0, show (45 : Int32) + nI j = nI (45 + j) from nI_add 45 j, clN (by omega), (hG.2.2.2 c2).1 j hj]
    exact ⟨by decide, v145 _ (by omega), k⟩
  · rw [if_neg (b01_0.mp c)] at k
    exact k
theorem ok10_where {x : Int32} {f : Int32 → qMI → qML → qMP → Prop} (hP : LAY P) (hG : GS (I 145) s) (hO : OKS s) (k : f (whereV s x) I L P) : Sq (d + 3) mX10_where SH0 [.ref 144, .int x] I L P (KI f) := by
  have hn := hG.1.1
  unfold whereV at k
  refine sp_X10_where ⟨by decide, ok10_isPlayer hP hG.1 ⟨fun c => ok10_hasDraw hP hG hO.2.1 ⟨fun c2 => ?_, fun c2 => ?_⟩, fun c => ?_⟩⟩
  · rw [if_pos (b01_n0.mp c), if_neg (b01_0.mp c2)] at k
    exact k
  · have c := b01_n0.mp c
    have c2 := b01_n0.mp c2
    rw [if_pos c, if_pos c2] at k
    obtain ⟨p, hp, rfl, hcp⟩ := cl_isP c (by omega)
    rw [hcp] at k
    exact ok10_slotOf hP (hG.2.2.2 c2) (hO.2.2.2 c2).1 hp k
  · rw [if_neg (b01_0.mp c)] at k
    exact k
theorem ok10_soonest {x y : Int32} {f : Int32 → qMI → qML → qMP → Prop} (hP : LAY P) (hG : GS (I 145) s) (hO : OKS s) (k : f (soonV s x y) I L P) : Sq (d + 3) mX10_soonest SH0 [.ref 144, .int x, .int y] I L P (KI f) := by
  have hn := hG.1.1
  unfold soonV at k
  refine sp_X10_soonest (fun z I' L' P' => I' = I ∧ L' = L ∧ P' = P ∧ (isP (s 0 0) x ∧ isP (s 0 0) y ∧ x ≠ y) ∧ s 7 0 = 1 ∧ ∃ r, z = nI r ∧ r ≤ fcr (slotI s x.toNatClampNeg) (slotI s y.toNatClampNeg)) (fun z _ _ _ => 20 - z.toNatClampNeg) ⟨by decide, ok10_isPlayer hP hG.1 ⟨fun c => ?_, fun c => ok10_isPlayer hP hG.1 ⟨fun c2 => ?_, fun c2 => ⟨fun c3 => ok10_hasDraw hP hG hO.2.1 ⟨fun c4 => ?_, fun c4 => ?_⟩, fun c3 => ?_⟩⟩⟩⟩ ?_
  · rw [if_neg (fun q => b01_0.mp c q.1)] at k
    exact k
  · rw [if_neg (fun q => b01_0.mp c2 q.2.1)] at k
    exact k
  · exact ⟨rfl, rfl, rfl, ⟨b01_n0.mp c, b01_n0.mp c2, c3⟩, b01_n0.mp c4, 0, rfl, Nat.zero_le _⟩
  · rw [if_pos ⟨b01_n0.mp c, b01_n0.mp c2, c3⟩, if_neg (b01_0.mp c4)] at k
    exact k
  · rw [if_neg (fun q => q.2.2 c3)] at k
    exact k
  · rintro z I' L' P' ⟨rfl, rfl, rfl, c, c4, r, rfl, hr⟩
    rw [if_pos c, if_pos c4] at k
    obtain ⟨p, hp, rfl, hcp⟩ := cl_isP c.1 (by omega)
    obtain ⟨o, ho, rfl, hco⟩ := cl_isP c.2.1 (by omega)
    rw [hcp, hco] at k hr
    have w := (hO.2.2.2 c4).1
    have v := hG.2.2.2 c4
    have lp := sl_lt w hp
    have lo := sl_lt w ho
    have hs := slotsS_in (s 0 0)
    have hl := lastS_le (s 0 0)
    obtain ⟨f1, f2, f3, f4, f5⟩ := fcr_spec hn lp lo
    refine ⟨by decide, ok10_slotOf hP v w hp (ok10_slotOf hP v w ho ?_)⟩
    rw [shrN (by omega) (by omega), shrN (by omega) (by omega)]
    have l1 : slotI s p / 2 ^ r < 2147483648 := Nat.lt_of_le_of_lt (Nat.div_le_self _ _) (by omega)
    have l2 : slotI s o / 2 ^ r < 2147483648 := Nat.lt_of_le_of_lt (Nat.div_le_self _ _) (by omega)
    refine ⟨fun q => kI k ?_, fun q => ⟨⟨rfl, rfl, rfl, ⟨c.1, c.2.1, c.2.2⟩, c4, r + 1, nI_1 r, ?_⟩, ?_⟩⟩
    · have q := nI_inj l1 l2 q
      rcases Nat.lt_or_ge r (fcr (slotI s p) (slotI s o)) with z | z
      · exact absurd q (f2 r z).2
      · rw [show r = fcr (slotI s p) (slotI s o) by omega]
    · rw [hcp, hco]
      have : r ≠ fcr (slotI s p) (slotI s o) := fun z => q (by rw [z, f4])
      omega
    · rw [nI_1, clN (by omega), clN (by omega)]; omega
theorem ok10_throughAt {r j : Nat} {f : Int32 → qMI → qML → qMP → Prop} (h1 : 1 ≤ r) (h4 : r ≤ 4) (k : f (nI (thr r + j)) I L P) : Sq (d + 1) mX10_throughAt SH0 [.int (nI r), .int (nI j)] I L P (KI f) := by
  have e : ∀ q, q < 5 → (nI r = nI q ↔ r = q) := fun q hq => nI_eq (by omega) (by omega)
  obtain ⟨a1, a2, a3, a4⟩ := thr_at
  refine sp_X10_throughAt ⟨fun c1 => ⟨fun c2 => ⟨fun c3 => kI k ?_, fun c3 => kI k ?_⟩, fun c2 => kI k ?_⟩, fun c1 => kI k ?_⟩
  · have c1 : r ≠ 1 := fun q => c1 ((e 1 (by decide)).mpr q)
    have c2 : r ≠ 2 := fun q => c2 ((e 2 (by decide)).mpr q)
    have c3 : r ≠ 3 := fun q => c3 ((e 3 (by decide)).mpr q)
    have : r = 4 := by omega
    subst this
    rw [a4]; exact (nI_add 75 j).symm
  · have := (e 3 (by decide)).mp c3
    subst this
    rw [a3]; exact (nI_add 73 j).symm
  · have := (e 2 (by decide)).mp c2
    subst this
    rw [a2]; exact (nI_add 69 j).symm
  · have := (e 1 (by decide)).mp c1
    subst this
    rw [a1]; exact (nI_add 61 j).symm
theorem raw10_cameTo {r j : Nat} {f : Int32 → qMI → qML → qMP → Prop} (hP : LAY P) (h4 : r ≤ 4) (hj : j < TB (s 0 0) r) (k : f (I 145 (if r = 0 then 45 + j else thr r + j)) I L P) : Sq (d + 2) mX10_cameTo SH0 [.ref 144, .int (nI r), .int (nI j)] I L P (KI f) := by
  obtain ⟨g0, -⟩ := ref_P hP
  have hs := slotsS_in (s 0 0)
  refine sp_X10_cameTo ⟨fun c => ⟨by decide, ?_⟩, fun c => ⟨by decide, ?_⟩⟩
  · have c : r ≠ 0 := fun q => c (by rw [q]; rfl)
    have t := thr_lt (show 1 ≤ r by omega) hj
    rw [if_neg c] at k
    refine ok10_throughAt (by omega) h4 ?_
    rw [g0, clN (by omega)]
    exact ⟨by decide, v145 _ (by omega), k⟩
  · have c : r = 0 := nI_inj (by omega) (by decide) c
    subst c
    rw [TB_0] at hj
    rw [if_pos rfl] at k
    rw [g0, show (45 : Int32) + nI j = nI (45 + j) from nI_add 45 j, clN (by omega)]
    exact ⟨by decide, v145 _ (by omega), k⟩
theorem ok10_cameTo {r j : Nat} {f : Int32 → qMI → qML → qMP → Prop} (hP : LAY P) (v : GD (I 145) s) (hr : r ≤ s 9 0) (h4 : r ≤ 4) (hj : j < TB (s 0 0) r) (k : f (nI (s (20 + r) j)) I L P) : Sq (d + 2) mX10_cameTo SH0 [.ref 144, .int (nI r), .int (nI j)] I L P (KI f) := by
  refine raw10_cameTo (s := s) hP h4 hj ?_
  by_cases c : r = 0
  · subst c
    rw [if_pos rfl, v.1 j (by rw [← TB_0]; exact hj)]; exact k
  · rw [if_neg c, v.2.1 r j (by omega) hr hj]; exact k
theorem ok10_isOver {f : Int32 → qMI → qML → qMP → Prop} (hP : LAY P) (hG : GS (I 145) s) (hO : OKS s) (k : f (b01 (¬ (s 7 0 = 1 ∧ s 9 0 < lastS (s 0 0)))) I L P) : Sq (d + 2) mX10_isOver SH0 [.ref 144] I L P (KI f) := by
  obtain ⟨g0, -⟩ := ref_P hP
  have hl := lastS_le (s 0 0)
  refine sp_X10_isOver ⟨by decide, ok10_hasDraw hP hG hO.2.1 ⟨fun c => kI k (b01_t fun q => b01_0.mp c q.1), fun c => ?_⟩⟩
  have c := b01_n0.mp c
  have w1 := (hO.2.2.2 c).1.1
  rw [g0, cl_4, hG.2.2.1]
  refine ⟨by decide, v145 4 (by decide), ok10_last hP hG.1 ⟨fun c2 => kI k (b01_f fun q => q ⟨c, ?_⟩), fun c2 => kI k (b01_t fun q => ?_)⟩⟩
  · have : s 9 0 ≠ lastS (s 0 0) := fun q => c2 (by rw [q])
    omega
  · have := nI_inj (by omega) (by omega) c2
    omega
theorem ok10_isThrough {p r : Nat} {f : Int32 → qMI → qML → qMP → Prop} (hP : LAY P) (v : GD (I 145) s) (w : WD s) (hp : p < s 0 0) (hr : r ≤ s 9 0) (k : f (b01 (s (20 + r) (slotI s p / 2 ^ r) = p)) I L P) : Sq (d + 3) mX10_isThrough SH0 [.ref 144, .int (nI p), .int (nI r)] I L P (KI f) := by
  have hl := lastS_le (s 0 0)
  have w1 := w.1
  have hn := w.2.2.1
  have hs := slotsS_in (s 0 0)
  have hsl := sl_lt w hp
  refine sp_X10_isThrough ⟨by decide, ok10_slotOf hP v w hp ?_⟩
  rw [shrN (by omega) (by omega)]
  have hb := (TB_blk _ hn r (by omega) _ hsl).2
  refine ok10_cameTo hP v hr (by omega) hb ?_
  have b := w.2.2.2.1 r _ hr hb
  have b : s (20 + r) (slotI s p / 2 ^ r) ≤ 10 := by
    rcases b with q | ⟨-, q⟩ <;> omega
  exact ⟨fun c => kI k (b01_f fun q => c (by rw [q])), fun c => kI k (b01_t (nI_inj (by omega) (by omega) c))⟩
theorem ok10_through {x y : Int32} {f : Int32 → qMI → qML → qMP → Prop} (hP : LAY P) (hG : GS (I 145) s) (hO : OKS s) (k : f (throughV s x y) I L P) : Sq (d + 3) mX10_through SH0 [.ref 144, .int x, .int y] I L P (KI f) := by
  obtain ⟨g0, -⟩ := ref_P hP
  have hn := hG.1.1
  have hl := lastS_le (s 0 0)
  have hs := slotsS_in (s 0 0)
  unfold throughV at k
  refine sp_X10_through ⟨by decide, ok10_isRound hP hG.1 ⟨fun c => ?_, fun c => ok10_last hP hG.1 ?_⟩⟩
  · rw [if_neg (fun q => b01_0.mp c q.1)] at k
    exact k
  · have c : isRd s x := b01_n0.mp c
    obtain ⟨r, hr1, hr2, rfl, hcr⟩ := cl_isRd c
    have tp := TB_pow _ hn r hr2
    have tt := TB_all _ hn r hr2
    rw [hcr] at k
    rw [pk_sub hr2, bitN (by omega), ← tp]
    refine ok10_in (y := 0) rfl rfl ⟨fun c2 => ok10_hasDraw hP hG hO.2.1 ⟨fun c3 => ?_, fun c3 => ?_⟩, fun c2 => ?_⟩
    · have c2 := b01_n0.mp c2
      have c3 := b01_n0.mp c3
      rw [ti_0, nm1 (by omega)] at c2
      have hy : isP (TB (s 0 0) r) y := ⟨c2.1, by omega⟩
      rw [if_pos ⟨c, hy⟩, if_pos c3] at k
      obtain ⟨j, hj, rfl, hcj⟩ := cl_isP hy (by omega)
      rw [hcj] at k
      have w1 := (hO.2.2.2 c3).1.1
      rw [g0, cl_4, hG.2.2.1]
      refine ⟨by decide, v145 4 (by decide), fun c4 => ?_, fun c4 => ?_⟩
      · have c4 := (nI_leI (by omega) (by omega)).mp c4
        rw [if_pos c4] at k
        exact ok10_cameTo hP (hG.2.2.2 c3) c4 (by omega) hj k
      · rw [if_neg (fun q => c4 (nI_le q (by omega)))] at k
        exact k
    · have c2 := b01_n0.mp c2
      rw [ti_0, nm1 (by omega)] at c2
      rw [if_pos ⟨c, c2.1, by omega⟩, if_neg (b01_0.mp c3)] at k
      exact k
    · rw [if_neg (fun q => b01_0.mp c2 (by have := q.2; unfold isP at this; rw [ti_0, nm1 (by omega)]; omega))] at k
      exact k
theorem x1_lt {n r j : Nat} (hn : n ≤ 10) (hr : r < lastS n) (hj : j < TB n r) : (j ^^^ 1) < TB n r := (TB_xor n hn r hr j hj).2
theorem ok10_met {x y : Int32} {f : Int32 → qMI → qML → qMP → Prop} (hP : LAY P) (hG : GS (I 145) s) (hO : OKS s) (k : f (metV s x y) I L P) : Sq (d + 4) mX10_met SH0 [.ref 144, .int x, .int y] I L P (KI f) := by
  obtain ⟨g0, -⟩ := ref_P hP
  have hn := hG.1.1
  have hl := lastS_le (s 0 0)
  have hs := slotsS_in (s 0 0)
  unfold metV at k
  refine sp_X10_met ⟨by decide, ok10_isPlayer hP hG.1 ⟨fun c => ?_, fun c => ok10_isRound hP hG.1 ⟨fun c2 => ok10_hasDraw hP hG hO.2.1 ⟨fun c3 => ?_, fun c3 => ?_⟩, fun c2 => ?_⟩⟩⟩
  · rw [if_neg (fun q => b01_0.mp c q.1)] at k
    exact k
  · have c := b01_n0.mp c
    have c2 : isRd s y := b01_n0.mp c2
    have c3 := b01_n0.mp c3
    rw [if_pos ⟨c, c2⟩, if_pos c3] at k
    obtain ⟨p, hp, rfl, hcp⟩ := cl_isP c (by omega)
    obtain ⟨r, hr1, hr2, rfl, hcr⟩ := cl_isRd c2
    rw [hcp, hcr] at k
    have w := (hO.2.2.2 c3).1
    have w1 := w.1
    have v := hG.2.2.2 c3
    obtain ⟨r0, rfl⟩ : ∃ r0, r = r0 + 1 := ⟨r - 1, by omega⟩
    rw [show r0 + 1 - 1 = r0 by omega] at k
    rw [g0, cl_4, hG.2.2.1, nI_pred]
    refine ⟨by decide, v145 4 (by decide), fun c4 => ?_, fun c4 => ?_⟩
    · have c4 := (nI_ltI (by omega) (by omega)).mp c4
      rw [if_neg (fun q => by omega)] at k
      exact k
    · have c4 : ¬ s 9 0 < r0 + 1 := fun q => c4 (nI_lt q (by omega))
      refine ok10_isThrough hP v w hp (by omega) ⟨fun c5 => ?_, fun c5 => ?_⟩
      · have c5 := b01_n0.mp c5
        rw [if_pos ⟨by omega, c5⟩] at k
        refine ok10_slotOf hP v w hp ?_
        have hsl := sl_lt w hp
        rw [shrN (by omega) (by omega), show (1 : Int32) = nI 1 from rfl, xorN]
        have hb := (TB_blk _ hn r0 (by omega) _ hsl).2
        exact ok10_cameTo hP v (by omega) (by omega) (x1_lt hn (by omega) hb) k
      · have c5 := b01_0.mp c5
        rw [if_neg (fun q => c5 q.2)] at k
        exact k
  · rw [if_pos ⟨b01_n0.mp c, b01_n0.mp c2⟩, if_neg (b01_0.mp c3)] at k
    exact k
  · rw [if_neg (fun q => b01_0.mp c2 q.2)] at k
    exact k
theorem ok10_letterOf {p : Nat} {f : Int32 → qMI → qML → qMP → Prop} (hp : p ≤ 10) (k : f (nI (if p = 10 then 45 else 48 + p)) I L P) : Sq (d + 1) mX10_letterOf SH0 [.int (nI p)] I L P (KI f) := by
  refine sp_X10_letterOf ⟨fun c => kI k ?_, fun c => kI k ?_⟩
  · rw [if_neg (fun q => c (by rw [q]; rfl))]; exact (nI_add 48 p).symm
  · rw [if_pos (nI_inj (by omega) (by decide) c)]; rfl
theorem ok10_print {x : Int32} {f : Int32 → qMI → qML → qMP → Prop} (hP : LAY P) (hG : GS (I 145) s) (hO : OKS s) (k : f (printV s x) I L P) : Sq (d + 3) mX10_print SH0 [.ref 144, .int x] I L P (KI f) := by
  obtain ⟨g0, -⟩ := ref_P hP
  have hn := hG.1.1
  have hs := slotsS_in (s 0 0)
  unfold printV at k
  refine sp_X10_print ⟨fun c => ⟨by decide, ok10_hasDraw hP hG hO.2.1 ⟨fun c2 => ?_, fun c2 => ?_⟩⟩, fun c => ?_⟩
  · have c2 := b01_n0.mp c2
    rw [if_pos c, if_pos c2] at k
    have w := (hO.2.2.2 c2).1
    have v := hG.2.2.2 c2
    refine ok10_slots hP hG.1 ?_
    rw [show (2 : Int32) * nI (slotsS (s 0 0)) - 1 = nI (2 * slotsS (s 0 0) - 1) from (congrArg (fun q => q - 1) (pk_mul 2 _)).trans (pk_sub (b := 1) (by omega))]
    have tS : (nI (2 * slotsS (s 0 0) - 1)).toInt = ((2 * slotsS (s 0 0) - 1 : Nat) : Int) := nI_toInt (by omega)
    have m1 : (-1 : Int32).toInt = -1 := by decide
    rw [Int32.le_iff_toInt_le, m1] at c
    refine ⟨fun c3 => ?_, fun c3 => ?_⟩
    · rw [Int32.lt_iff_toInt_lt, tS] at c3
      refine ⟨fun c4 => ?_, fun c4 => ?_⟩
      · have hx : isP (2 * slotsS (s 0 0) - 1) x := by
          have : x.toInt ≠ -1 := fun q => c4 (Int32.toInt_inj.mp (by rw [q, m1]))
          exact ⟨by omega, c3⟩
        obtain ⟨i, hi, rfl, hci⟩ := cl_isP hx (by omega)
        have e1 : prX s (nI i) = nI (prS s i) := by
          unfold prX
          rw [if_neg (nI_pos (by omega)), if_neg (nI_ge (by omega) (by omega)), clN (by omega)]
        rw [e1] at k
        rw [show nI i / 2 = nI (i / 2) from pk_div (by omega) (by decide) (by decide), show nI i - nI (i / 2) * 2 = nI (i % 2) from by rw [← pk_rem (show i < 2147483648 by omega) (show 0 < 2 by decide) (by decide), pk_div (by omega) (by decide) (by decide)]; rfl]
        rw [nI_1, show nI (i + 1) / 2 = nI ((i + 1) / 2) from pk_div (by omega) (by decide) (by decide), show nI ((i + 1) / 2) / 4 = nI ((i + 1) / 2 / 4) from pk_div (by omega) (by decide) (by decide), show nI ((i + 1) / 2) - nI ((i + 1) / 2 / 4) * 4 = nI ((i + 1) / 2 % 4) from by rw [← pk_rem (show (i + 1) / 2 < 2147483648 by omega) (show 0 < 4 by decide) (by decide), pk_div (by omega) (by decide) (by decide)]; rfl]
        unfold prS at k
        refine ⟨fun c5 => ?_, fun c5 => ?_⟩
        · have c5 : i % 2 ≠ 0 := fun q => c5 (by rw [q]; rfl)
          rw [if_neg c5, show i / 2 + 1 = (i + 1) / 2 by omega] at k
          refine ⟨fun c6 => kI k ?_, fun c6 => kI k ?_⟩
          · rw [if_neg (fun q => c6 (by rw [q]; rfl))]; rfl
          · rw [if_pos (nI_inj (by omega) (by decide) c6)]; rfl
        · have c5 : i % 2 = 0 := nI_inj (by omega) (by decide) c5
          rw [if_pos c5] at k
          have b := w.2.2.2.1 0 (i / 2) (Nat.zero_le _) (by rw [TB_0]; omega)
          have b : s 20 (i / 2) ≤ 10 := by
            rcases b with q | ⟨-, q⟩
            · have q : s 20 (i / 2) < s 0 0 := q
              omega
            · have q : s 20 (i / 2) = 10 := q
              omega
          rw [g0, show (45 : Int32) + nI (i / 2) = nI (45 + i / 2) from nI_add 45 _, clN (by omega), v.1 (i / 2) (by omega)]
          exact ⟨by decide, v145 _ (by omega), ok10_letterOf b k⟩
      · subst c4
        exact kI k (if_pos (by decide))
    · rw [Int32.lt_iff_toInt_lt, tS] at c3
      refine kI k ?_
      unfold prX
      rw [if_neg (fun q => by rw [Int32.lt_iff_toInt_lt, ti_0] at q; omega), if_pos (by rw [Int32.le_iff_toInt_le, tS]; omega)]
  · rw [if_pos c, if_neg (b01_0.mp c2)] at k
    exact k
  · rw [if_neg c] at k
    exact k
def fndS (s : Sit) (x : Int32) (m : Nat) : Int32 := if 0 ≤ x.toInt ∧ x.toInt < m then brS s x.toNatClampNeg else -2
theorem ok10_brackets {x : Int32} {f : Int32 → qMI → qML → qMP → Prop} (hP : LAY P) (hG : GS (I 145) s) (hO : OKS s) (k : f (brackV s x) I L P) : Sq (d + 3) mX10_brackets SH0 [.ref 144, .int x] I L P (KI f) := by
  obtain ⟨g0, -⟩ := ref_P hP
  have hn := hG.1.1
  have hs := slotsS_in (s 0 0)
  have hl := lastS_le (s 0 0)
  have oo := offS_all _ hn
  have m1 : (-1 : Int32).toInt = -1 := by decide
  unfold brackV at k
  refine sp_X10_brackets
    (fun x2 x3 x4 I' L' P' => I' = I ∧ L' = L ∧ P' = P ∧ -1 ≤ x.toInt ∧ s 7 0 = 1 ∧ ∃ r, r ≤ s 9 0 ∧ x2 = nI (offS (s 0 0) r) ∧ x3 = fndS s x (offS (s 0 0) r) ∧ x4 = nI (r + 1))
    (fun _ _ x4 _ _ _ => (10 - x4.toNatClampNeg) * 20 + 19)
    (fun x2 x3 x4 x5 x6 I' L' P' => I' = I ∧ L' = L ∧ P' = P ∧ -1 ≤ x.toInt ∧ s 7 0 = 1 ∧ ∃ r b, r < s 9 0 ∧ b ≤ TB (s 0 0) (r + 1) ∧ x2 = nI (offS (s 0 0) r + 2 * b) ∧ x3 = fndS s x (offS (s 0 0) r + 2 * b) ∧ x4 = nI (r + 1) ∧ x5 = nI (TB (s 0 0) (r + 1)) ∧ x6 = nI b)
    (fun _ _ x4 _ x6 _ _ _ => (10 - x4.toNatClampNeg) * 20 + 18 - x6.toNatClampNeg) ⟨fun c => ⟨by decide, ok10_hasDraw hP hG hO.2.1 ⟨fun c2 => ?_, fun c2 => ?_⟩⟩, fun c => ?_⟩ ?_ ?_
  · rw [Int32.le_iff_toInt_le, m1] at c
    refine ⟨rfl, rfl, rfl, c, b01_n0.mp c2, 0, Nat.zero_le _, by rw [oo.1]; rfl, ?_, rfl⟩
    rw [oo.1]
    unfold fndS
    rw [if_neg (by omega)]
  · rw [if_pos c, if_neg (b01_0.mp c2)] at k
    exact k
  · rw [if_neg c] at k
    exact k
  · rintro x2 x3 x4 I' L' P' ⟨rfl, rfl, rfl, hx, c7, r, hr, rfl, rfl, rfl⟩
    have w := (hO.2.2.2 c7).1
    have w1 := w.1
    have hof : offS (s 0 0) r ≤ 30 := by
      rcases Nat.eq_zero_or_pos r with z | z
      · rw [z, oo.1]; omega
      · have := (oo.2 (r - 1) (by omega)).2
        rwa [show r - 1 + 1 = r by omega] at this
    refine ⟨by decide, ?_⟩
    rw [g0, cl_4, hG.2.2.1]
    refine ⟨by decide, v145 4 (by decide), fun c => ?_, fun c => ok10_last hP hG.1 ?_⟩
    · have c := (nI_ltI (by omega) (by omega)).mp c
      have : r = s 9 0 := by omega
      subst this
      rw [if_pos (by rw [Int32.le_iff_toInt_le, m1]; exact hx), if_pos c7] at k
      unfold brX at k
      refine ⟨fun c2 => ?_, fun c2 => ?_⟩
      · have : x.toInt ≠ -1 := fun q => c2 (Int32.toInt_inj.mp (by rw [q, m1]))
        rw [if_neg (fun q => by rw [Int32.lt_iff_toInt_lt, ti_0] at q; omega)] at k
        refine kI k ?_
        unfold fndS
        by_cases z : 0 ≤ x.toInt ∧ x.toInt < offS (s 0 0) (s 9 0)
        · rw [if_pos z]
        · rw [if_neg z]
          obtain ⟨i, hi, rfl⟩ := nI_of (show ¬ x < 0 from fun q => by rw [Int32.lt_iff_toInt_lt, ti_0] at q; omega)
          rw [nI_toInt hi] at z
          rw [clN hi]
          exact brS_out w (by omega)
      · subst c2
        rw [if_pos (by decide)] at k
        exact k
    · have c : r < s 9 0 := Nat.lt_of_not_le fun q => c (nI_lt (by omega) (by omega))
      rw [pk_sub (show r + 1 ≤ lastS (s 0 0) by omega), bitN (by omega), ← TB_pow _ hn (r + 1) (by omega)]
      refine ⟨⟨rfl, rfl, rfl, hx, c7, r, 0, c, Nat.zero_le _, rfl, rfl, rfl, rfl, rfl⟩, ?_⟩
      rw [cl_0, clN (by omega)]; omega
  · rintro x2 x3 x4 x5 x6 I' L' P' ⟨rfl, rfl, rfl, hx, c7, r, b, hr, hb, rfl, rfl, rfl, rfl, rfl⟩
    have w := (hO.2.2.2 c7).1
    have w1 := w.1
    obtain ⟨o1, o2⟩ := oo.2 r (by omega)
    have tt := TB_all _ hn (r + 1) (by omega)
    have t8 := tt.2.2.2.2 (by omega)
    have tm : ∀ m, m < 100 → (nI m = x ↔ x.toInt = m) := fun m hm => by
      rw [← Int32.toInt_inj, nI_toInt (by omega)]
      exact ⟨fun q => q.symm, fun q => q.symm⟩
    unfold vc_X10_brackets_2
    rw [nI_1, nI_1, nI_1, show nI (offS (s 0 0) r + 2 * b) + 2 = nI (offS (s 0 0) r + 2 * (b + 1)) from nI_add _ 2]
    have T : ∀ v : Int32, v = fndS s x (offS (s 0 0) r + 2 * (b + 1)) → b < TB (s 0 0) (r + 1) → (I' = I' ∧ L' = L' ∧ P' = P' ∧ -1 ≤ x.toInt ∧ s 7 0 = 1 ∧ ∃ r_1 b_1, r_1 < s 9 0 ∧ b_1 ≤ TB (s 0 0) (r_1 + 1) ∧ nI (offS (s 0 0) r + 2 * (b + 1)) = nI (offS (s 0 0) r_1 + 2 * b_1) ∧ v = fndS s x (offS (s 0 0) r_1 + 2 * b_1) ∧ nI (r + 1) = nI (r_1 + 1) ∧ nI (TB (s 0 0) (r + 1)) = nI (TB (s 0 0) (r_1 + 1)) ∧ nI (b + 1) = nI b_1) ∧ (10 - (nI (r + 1)).toNatClampNeg) * 20 + 18 - (nI (b + 1)).toNatClampNeg < (10 - (nI (r + 1)).toNatClampNeg) * 20 + 18 - (nI b).toNatClampNeg := fun v hv hb2 => by
      refine ⟨⟨rfl, rfl, rfl, hx, c7, r, b + 1, hr, hb2, rfl, hv, rfl, rfl, rfl⟩, ?_⟩
      rw [clN (by omega), clN (by omega), clN (by omega)]; omega
    refine ⟨fun c => ⟨⟨rfl, rfl, rfl, hx, c7, r + 1, hr, ?_, ?_, rfl⟩, ?_⟩, fun c => ⟨fun c2 => ⟨fun c3 => ?_, fun c3 => ⟨fun c4 => ?_, fun c4 => ?_⟩⟩, fun c2 => ⟨by decide, ?_⟩⟩⟩
    · have c := (nI_leI (by omega) (by omega)).mp c
      rw [show b = TB (s 0 0) (r + 1) by omega, ← o1]
    · have c := (nI_leI (by omega) (by omega)).mp c
      rw [show b = TB (s 0 0) (r + 1) by omega, ← o1]
    · rw [clN (by omega), clN (by omega), clN (by omega)]; omega
    · have c : b < TB (s 0 0) (r + 1) := Nat.lt_of_not_le fun q => c (nI_le q (by omega))
      have c2 : ¬ x.toInt = _ := fun q => c2 ((tm _ (by omega)).mpr q)
      have c3 : ¬ x.toInt = _ := fun q => c3 ((tm _ (by omega)).mpr q)
      refine T _ ?_ c
      unfold fndS
      by_cases z : 0 ≤ x.toInt ∧ x.toInt < (offS (s 0 0) r + 2 * b : Nat)
      · rw [if_pos z, if_pos (by omega)]
      · rw [if_neg z, if_neg (by omega)]
    · have c : b < TB (s 0 0) (r + 1) := Nat.lt_of_not_le fun q => c (nI_le q (by omega))
      have c3 := (tm _ (by omega)).mp c3
      have c4 := (nI_leI (by omega) (by omega)).mp c4
      refine T _ ?_ c
      unfold fndS
      obtain ⟨i, hi, rfl⟩ := nI_of (show ¬ x < 0 from fun q => by rw [Int32.lt_iff_toInt_lt, ti_0] at q; omega)
      rw [nI_toInt hi] at c3 ⊢
      rw [if_pos (by omega), clN hi, brS_in w hr (by omega) (by omega)]
      unfold bbS
      rw [if_neg (by omega), if_pos (by omega)]
      rfl
    · have c : b < TB (s 0 0) (r + 1) := Nat.lt_of_not_le fun q => c (nI_le q (by omega))
      have c3 := (tm _ (by omega)).mp c3
      have c4 : ¬ TB (s 0 0) (r + 1) ≤ b + 1 := fun q => c4 (nI_le q (by omega))
      refine T _ ?_ c
      unfold fndS
      obtain ⟨i, hi, rfl⟩ := nI_of (show ¬ x < 0 from fun q => by rw [Int32.lt_iff_toInt_lt, ti_0] at q; omega)
      rw [nI_toInt hi] at c3 ⊢
      rw [if_pos (by omega), clN hi, brS_in w hr (by omega) (by omega)]
      unfold bbS
      rw [if_neg (by omega), if_neg (by omega)]
      rfl
    · have c : b < TB (s 0 0) (r + 1) := Nat.lt_of_not_le fun q => c (nI_le q (by omega))
      have c2 := (tm _ (by omega)).mp c2
      have bb := w.2.2.2.1 (r + 1) b (by omega) c
      have bb : s (20 + (r + 1)) b < 10 := by
        rcases bb with q | ⟨q, -⟩ <;> omega
      refine ok10_cameTo hP (hG.2.2.2 c7) (by omega) (by omega) c (ok10_letterOf (by omega) (T _ ?_ c))
      unfold fndS
      obtain ⟨i, hi, rfl⟩ := nI_of (show ¬ x < 0 from fun q => by rw [Int32.lt_iff_toInt_lt, ti_0] at q; omega)
      rw [nI_toInt hi] at c2 ⊢
      rw [if_neg (show ¬ s (20 + (r + 1)) b = 10 by omega), if_pos (by omega), clN hi, brS_in w hr (by omega) (by omega)]
      unfold bbS
      rw [if_pos (by omega), show (i - offS (s 0 0) r) / 2 = b by omega]
end RD
