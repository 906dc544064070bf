section RN
variable {d : Nat} {I : qMI} {L : qML} {P : qMP} {W : Wd} {s : Sit}
theorem mA_True {mo : Nat → Nat → Nat → Prop} (h : ∀ r b set, mo r b set) : mA s mo = mS s := by
  funext r b set
  exact bo_congr ⟨fun q => ⟨q.1, trivial⟩, fun q => ⟨q.1, h r b set⟩⟩
theorem pc_00 (x : Nat) : pc (x &&& 0) ≤ 1 := by rw [Nat.and_zero]; decide
theorem ok10_all {f : Int64 → qMI → qML → qMP → Prop} (hP : LAY P) (hG : GE (I 145) s) (we : WE s) (hC : MC I L s) (k : ∀ I' L', (∀ r, r ≠ 144 → (r < 152 ∨ 160 ≤ r) → I' r = I r) → (∀ j, (j < 17 ∨ 17 < j ∧ j < 22 ∨ 25 < j) → I' 144 j = I 144 j) → (∀ r, r ≠ 154 → L' r = L r) → I' 144 17 = 1 → RW L' 154 (mS s) (s 0 0) → f (lN (allS s)) I' L' P) : Sq (d + 5) mX10_all SH0 [.ref 144] I L P (KL f) := by
  obtain ⟨g0, g1, g2, g3, g4, g5, g6, g7, g8, g9, -⟩ := ref_P hP
  have hn := hG.1
  have hl := lastS_le (s 0 0)
  have h10 := pow10 hn
  have hp0 := Nat.two_pow_pos (s 0 0)
  have t1 := TB_last _ hn
  have x1 := bo4_lt (n := s 0 0) (r := lastS (s 0 0)) (b := 0) (by omega) (by omega)
  have ix : nI (1024 * (bo4 (lastS (s 0 0)) + 0) + 2 ^ s 0 0) - 1 = nI (1024 * (bo4 (lastS (s 0 0)) + 0) + (2 ^ s 0 0 - 1)) := (pk_sub (b := 1) (by omega)).trans (by congr 1; omega)
  have hin : vp_in (nI (1024 * (bo4 (lastS (s 0 0)) + 0) + (2 ^ s 0 0 - 1))) (shp SH0 154).2 := vin _ rfl (show _ < 31744 by omega) (by decide)
  refine sp_X10_all ⟨by decide, fun c => ?_, fun c I15 e15 I16 e16 I17 e17 => ?_⟩
  · rcases hC with q | ⟨q1, q2⟩
    · exact absurd q c
    · refine ok10_last hP hG (ok10_blockAt (b := 0) (by omega) ?_)
      rw [g0, g9, cl_0, hG.2.1, bitN (by omega), nI_add, ix, clN (by omega)]
      refine ⟨by decide, v145 0 (by decide), by decide, hin, kL (k I L (fun _ _ _ => rfl) (fun _ _ => rfl) (fun _ _ => rfl) q1 q2) ?_⟩
      rw [q2 (lastS (s 0 0)) 0 (2 ^ s 0 0 - 1) (Nat.le_refl _) (by omega) (by omega)]
      rfl
  · have f17 : ∀ r, r ≠ 144 → I17 r = I r := fun r q => by rw [e17, uI_ne r q, e16, uI_ne r q, e15, uI_ne r q]
    have v17 : ∀ j, I17 144 j = if j = 25 then -2 else if j = 24 then 0 else if j = 23 then -2 else I 144 j := fun j => by
      rw [e17, e16, e15]; simp [uI]
    have hG17 : GE (I17 145) s := by rw [f17 145 (by decide)]; exact hG
    rw [g9]
    refine ok10_reckons (c := 154) (mo := fun r b set => nI r = -2 → pc (set &&& 0) ≤ 1) hP hG17 we (by decide) (fun d I' L' f r b set hR hV h4 hb hs k => ok10_moreA (w := 0) hP hn hR hs (by rw [hV 23 (by decide), v17]; rfl) (by rw [hV 24 (by decide), v17]; rfl) (by rw [hV 25 (by decide), v17]; rfl) k) fun I19 L20 f19 j19 l19 R19 I22 e22 => ?_
    rw [mA_True (fun r b set _ => pc_00 set)] at R19
    have f22 : ∀ r, r ≠ 144 → I22 r = I19 r := fun r q => by rw [e22, uI_ne r q]
    have hG22 : GE (I22 145) s := by rw [f22 145 (by decide), f19 145 (by decide) (by decide)]; exact hG17
    refine ok10_last hP hG22 (ok10_blockAt (b := 0) (by omega) ?_)
    rw [g0, g9, cl_0, hG22.2.1, bitN (by omega), nI_add, ix, clN (by omega)]
    refine ⟨by decide, v145 0 (by decide), by decide, hin, kL (k I22 L20 (fun r q1 q2 => by rw [f22 r q1, f19 r q1 q2, f17 r q1]) (fun j hj => ?_) l19 (by rw [e22]; exact if_pos ⟨rfl, rfl⟩) R19) ?_⟩
    · rw [e22]
      refine (if_neg (by omega)).trans ?_
      rw [j19 j (by omega), v17, if_neg (by omega), if_neg (by omega), if_neg (by omega)]
    · rw [R19 (lastS (s 0 0)) 0 (2 ^ s 0 0 - 1) (Nat.le_refl _) (by omega) (by omega)]
      rfl
theorem MR.all {I' : qMI} {L' : qML} (h : MR I L W) (f1 : ∀ r, r ≠ 144 → (r < 152 ∨ 160 ≤ r) → I' r = I r) (f2 : ∀ j, (j < 17 ∨ 17 < j ∧ j < 22 ∨ 25 < j) → I' 144 j = I 144 j) (h17 : I' 144 17 = 1) (hR : RW L' 154 (mS W.1) (W.1 0 0)) : MR I' L' W := by
  obtain ⟨a, b, c, e, f⟩ := h
  exact ⟨by rw [f1 145 (by decide) (by decide)]; exact a, b.congr (f2 4 (by omega)) (f2 5 (by omega)) (f1 147 (by decide) (by decide)) (f1 148 (by decide) (by decide)), c.congr (f2 6 (by omega)) (f1 146 (by decide) (by decide)), e.congr (f2 10 (by omega)) (f1 149 (by decide) (by decide)), Or.inr ⟨h17, hR⟩⟩
theorem ok10_allM {f : Int64 → qMI → qML → qMP → Prop} (hP : LAY P) (hM : MR I L W) (hO : OKW W) (k : ∀ I' L', FR I I' L L' → MR I' L' W → I' 144 17 = 1 → RW L' 154 (mS W.1) (W.1 0 0) → f (lN (allS W.1)) I' L' P) : Sq (d + 5) mX10_all SH0 [.ref 144] I L P (KL f) :=
  ok10_all hP hM.1.1 hO.1.1 hM.2.2.2.2 fun I' L' f1 f2 f3 h17 hR => k I' L' (fun r hr => ⟨f1 r (by omega) (by omega), f3 r (by omega)⟩) (hM.all f1 f2 h17 hR) h17 hR
theorem ok10_howMany {f : Int64 → qMI → qML → qMP → Prop} (hP : LAY P) (hM : MR I L W) (hO : OKW W) (k : ∀ I' L', FR I I' L L' → MR I' L' W → f (if 2 ≤ W.1 0 0 then lN (allS W.1) else -5) I' L' P) : Sq (d + 6) mX10_howMany SH0 [.ref 144] I L P (KL f) := by
  refine sp_X10_howMany ⟨by decide, ok10_areFew hP hM.1.1 ⟨fun c => ?_, fun c => ?_⟩⟩
  · have c := b01_0.mp c
    rw [if_pos (by omega)] at k
    exact ok10_allM hP hM hO fun I' L' h1 h2 _ _ => k I' L' h1 h2
  · have c := b01_n0.mp c
    rw [if_neg (by omega)] at k
    exact k I L (fun _ _ => ⟨rfl, rfl⟩) hM
theorem MR.oth {I' : qMI} {L' : qML} (h : MR I L W) (f1 : ∀ r, r ≠ 144 → (r < 152 ∨ 160 ≤ r) → I' r = I r) (f2 : ∀ j, j < 22 → I' 144 j = I 144 j) (f3 : ∀ r, r ≠ 155 → L' r = L r) : MR I' L' W :=
  h.keep ⟨fun j hj => f2 j (by omega), fun r q1 q2 => f1 r q1 (by omega), f3⟩
theorem ok10_apartIn {w : Nat} {x : Int32} {mo : Nat → Nat → Nat → Prop} {f : Int64 → qMI → qML → qMP → Prop} (hP : LAY P) (hM : MR I L W) (hO : OKW W) (hmo : ∀ r b set, r ≤ 4 → (mo r b set ↔ (nI r = x → pc (set &&& w) ≤ 1))) (k : ∀ I' L', FR I I' L L' → MR I' L' W → f (lN (cntM W.1 mo (lastS (W.1 0 0)) 0 (2 ^ W.1 0 0 - 1))) I' L' P) : Sq (d + 5) mX10_apartIn SH0 [.ref 144, .int (nI w), .int x] I L P (KL f) := by
  obtain ⟨g0, g1, g2, g3, g4, g5, g6, g7, g8, g9, g10, -⟩ := ref_P hP
  have hG := hM.1.1
  have hn := hG.1
  refine sp_X10_apartIn ⟨by decide, fun I2 e2 I3 e3 I4 e4 => ?_⟩
  have f4 : ∀ r, r ≠ 144 → I4 r = I r := fun r q => by rw [e4, uI_ne r q, e3, uI_ne r q, e2, uI_ne r q]
  have v4 : ∀ j, I4 144 j = if j = 25 then x else if j = 24 then nI w else if j = 23 then -2 else I 144 j := fun j => by
    rw [e4, e3, e2]; simp [uI]
  have hG4 : GE (I4 145) W.1 := by rw [f4 145 (by decide)]; exact hG
  rw [g10]
  refine ok10_reckons (c := 155) (mo := mo) hP hG4 hO.1.1 (by decide) (fun d I' L' f r b set hR hV h4 hb hs k => ok10_moreA (w := w) (x := x) hP hn hR hs (by rw [hV 23 (by decide), v4]; rfl) (by rw [hV 24 (by decide), v4]; rfl) (by rw [hV 25 (by decide), v4]; rfl) (by rw [← bz_cg (hmo r b set h4)]; exact k)) fun I19 L20 f19 j19 l19 R19 => k I19 L20 (fun r hr => ⟨by rw [f19 r (by omega) (by omega), f4 r (by omega)], l19 r (by omega)⟩) (hM.oth (fun r q1 q2 => by rw [f19 r q1 q2, f4 r q1]) (fun j hj => ?_) l19)
  rw [j19 j (by omega), v4, if_neg (by omega), if_neg (by omega), if_neg (by omega)]
theorem moA_iff {w rd r b set : Nat} (hr : r ≤ 4) (hrd : rd ≤ 4) : moA w rd r b set ↔ (nI r = nI rd → pc (set &&& w) ≤ 1) := by
  unfold moA
  constructor
  · rintro (q | q) h
    · exact absurd (nI_inj (by omega) (by omega) h) q
    · omega
  · intro h
    by_cases z : r = rd
    · exact Or.inr (by have := h (by rw [z]); omega)
    · exact Or.inl z
theorem ok10_meets {x y z : Int32} {f : Int64 → qMI → qML → qMP → Prop} (hP : LAY P) (hM : MR I L W) (hO : OKW W) (k : ∀ I' L', FR I I' L L' → MR I' L' W → f (meetsV W.1 x y z) I' L' P) : Sq (d + 6) mX10_meets SH0 [.ref 144, .int x, .int y, .int z] I L P (KL f) := by
  have hG := hM.1.1
  have hn := hG.1
  have hl := lastS_le (W.1 0 0)
  have me := k I L (fun _ _ => ⟨rfl, rfl⟩) hM
  unfold meetsV at k me
  refine sp_X10_meets ⟨by decide, ok10_isPlayer hP hG ⟨fun c => ?_, fun c => ok10_isPlayer hP hG ⟨fun c2 => ?_, fun c2 => ⟨fun c3 => ?_, fun c3 => ok10_isRound hP hG ⟨fun c4 => ok10_areFew hP hG ⟨fun c5 => ?_, fun c5 => ?_⟩, fun c4 => ?_⟩⟩⟩⟩⟩
  · rw [if_neg (fun q => b01_0.mp c q.1.1)] at me
    exact me
  · rw [if_neg (fun q => b01_0.mp c2 q.1.2.1)] at me
    exact me
  · rw [if_neg (fun q => q.1.2.2 c3)] at me
    exact me
  · have c := b01_n0.mp c
    have c2 := b01_n0.mp c2
    have c4 : isRd W.1 z := b01_n0.mp c4
    have c5 := b01_0.mp c5
    rw [if_pos ⟨⟨c, c2, c3⟩, c4⟩, if_pos (by omega)] at k
    obtain ⟨p, hp, rfl, hcp⟩ := cl_isP c (by omega)
    obtain ⟨o, ho, rfl, hco⟩ := cl_isP c2 (by omega)
    obtain ⟨r, hr1, hr2, rfl, hcr⟩ := cl_isRd c4
    rw [hcp, hco, hcr] at k
    rw [bitN (by omega), bitN (by omega), orN, show nI r - 1 = nI (r - 1) from pk_sub (b := 1) hr1]
    refine ok10_apartIn hP hM hO (fun r' b set h4 => moA_iff (rd := r - 1) h4 (by omega)) fun I24 L25 h1 h2 => ok10_apartIn hP h2 hO (fun r' b set h4 => moA_iff (rd := r) h4 (by omega)) fun I28 L29 h3 h4 => k I28 L29 (fun r hr => ⟨by rw [(h3 r hr).1, (h1 r hr).1], by rw [(h3 r hr).2, (h1 r hr).2]⟩) h4
  · have c5 := b01_n0.mp c5
    rw [if_pos ⟨⟨b01_n0.mp c, b01_n0.mp c2, c3⟩, b01_n0.mp c4⟩, if_neg (by omega)] at me
    exact me
  · rw [if_neg (fun q => b01_0.mp c4 q.2)] at me
    exact me
theorem ok10_apart {x y : Int32} {f : Int64 → qMI → qML → qMP → Prop} (hP : LAY P) (hM : MR I L W) (hO : OKW W) (k : ∀ I' L', FR I I' L L' → MR I' L' W → f (apartV W.1 x y) I' L' P) : Sq (d + 6) mX10_apart SH0 [.ref 144, .int x, .int y] I L P (KL f) := by
  obtain ⟨g0, -⟩ := ref_P hP
  have hG := hM.1.1
  have hn := hG.1
  have hl := lastS_le (W.1 0 0)
  have h10 := pow10 hn
  have hp0 := Nat.two_pow_pos (W.1 0 0)
  have me := k I L (fun _ _ => ⟨rfl, rfl⟩) hM
  unfold apartV at k me
  refine sp_X10_apart ⟨by decide, ?_⟩
  rw [g0, cl_0, hG.2.1, bitN (by omega)]
  refine ⟨by decide, v145 0 (by decide), ok10_in (y := 0) rfl rfl ⟨fun c => ?_, fun c => ok10_isRound hP hG ⟨fun c2 => ok10_areFew hP hG ⟨fun c3 => ?_, fun c3 => ?_⟩, fun c2 => ?_⟩⟩⟩
  · rw [if_neg (fun q => b01_0.mp c (by have := q.1; unfold isP at this; rw [ti_0, nm1 (by omega)]; omega))] at me
    exact me
  · have c := b01_n0.mp c
    have c2 : isRd W.1 y := b01_n0.mp c2
    have c3 := b01_0.mp c3
    rw [ti_0, nm1 (by omega)] at c
    have hx : isP (2 ^ W.1 0 0) x := ⟨c.1, by omega⟩
    rw [if_pos ⟨hx, c2⟩, if_pos (by omega)] at k
    obtain ⟨w, hw, rfl, hcw⟩ := cl_isP hx (by omega)
    obtain ⟨r, hr1, hr2, rfl, hcr⟩ := cl_isRd c2
    rw [hcw, hcr] at k
    exact ok10_apartIn hP hM hO (fun r' b set h4 => moA_iff (rd := r) h4 (by omega)) k
  · have c := b01_n0.mp c
    have c3 := b01_n0.mp c3
    rw [ti_0, nm1 (by omega)] at c
    rw [if_pos ⟨⟨c.1, by omega⟩, b01_n0.mp c2⟩, if_neg (by omega)] at me
    exact me
  · rw [if_neg (fun q => b01_0.mp c2 q.2)] at me
    exact me
theorem ok10_stands {x y : Int32} {f : Int64 → qMI → qML → qMP → Prop} (hP : LAY P) (hM : MR I L W) (hO : OKW W) (k : ∀ I' L', FR I I' L L' → MR I' L' W → f (standsV W.1 x y) I' L' P) : Sq (d + 5) mX10_stands SH0 [.ref 144, .int x, .int y] I L P (KL f) := by
  obtain ⟨g0, g1, g2, g3, g4, g5, g6, g7, g8, g9, g10, -⟩ := ref_P hP
  have hG := hM.1.1
  have hn := hG.1
  have hs := slotsS_in (W.1 0 0)
  have me := k I L (fun _ _ => ⟨rfl, rfl⟩) hM
  unfold standsV at k me
  refine sp_X10_stands ⟨by decide, ok10_isPlayer hP hG ⟨fun c => ?_, fun c => ok10_isSlot hP hG ⟨fun c2 => ok10_areFew hP hG ⟨fun c3 I17 e17 I18 e18 => ?_, fun c3 => ?_⟩, fun c2 => ?_⟩⟩⟩
  · rw [if_neg (fun q => b01_0.mp c q.1)] at me
    exact me
  · have c := b01_n0.mp c
    have c2 := b01_n0.mp c2
    have c3 := b01_0.mp c3
    rw [if_pos ⟨c, c2⟩, if_pos (by omega)] at k
    obtain ⟨p, hp, rfl, hcp⟩ := cl_isP c (by omega)
    obtain ⟨t, ht, rfl, hct⟩ := cl_isP c2 (by omega)
    rw [hcp, hct] at k
    rw [bitN (by omega)] at e18
    have f18 : ∀ r, r ≠ 144 → I18 r = I r := fun r q => by rw [e18, uI_ne r q, e17, uI_ne r q]
    have v18 : ∀ j, I18 144 j = if j = 24 then nI (2 ^ p) else if j = 23 then nI t else I 144 j := fun j => by
      rw [e18, e17]; simp [uI]
    have hG18 : GE (I18 145) W.1 := by rw [f18 145 (by decide)]; exact hG
    rw [g10]
    refine ok10_reckons (c := 155) (mo := moP p t) hP hG18 hO.1.1 (by decide) (fun d I' L' f r b set hR hV h4 hb hs k => ok10_moreP (p := p) (t := t) hn h4 hb hs (by omega) (by omega) (by rw [hV 23 (by decide), v18]; rfl) (by rw [hV 24 (by decide), v18]; rfl) k) fun I19 L20 f19 j19 l19 R19 => k I19 L20 (fun r hr => ⟨by rw [f19 r (by omega) (by omega), f18 r (by omega)], l19 r (by omega)⟩) (hM.oth (fun r q1 q2 => by rw [f19 r q1 q2, f18 r q1]) (fun j hj => ?_) l19)
    rw [j19 j (by omega), v18, if_neg (by omega), if_neg (by omega)]
  · have c3 := b01_n0.mp c3
    rw [if_pos ⟨b01_n0.mp c, b01_n0.mp c2⟩, if_neg (by omega)] at me
    exact me
  · rw [if_neg (fun q => b01_0.mp c2 q.2)] at me
    exact me
theorem ok10_wins {x : Int32} {f : Int64 → qMI → qML → qMP → Prop} (hP : LAY P) (hM : MR I L W) (hO : OKW W) (k : ∀ I' L', FR I I' L L' → MR I' L' W → f (winsV W.1 x) I' L' P) : Sq (d + 6) mX10_wins SH0 [.ref 144, .int x] I L P (KL f) := by
  obtain ⟨g0, -⟩ := ref_P hP
  have hG := hM.1.1
  have hn := hG.1
  have me := k I L (fun _ _ => ⟨rfl, rfl⟩) hM
  unfold winsV at k me
  refine sp_X10_wins (fun x2 x3 I' L' P' => I' = I ∧ L' = L ∧ P' = P ∧ isP (W.1 0 0) x ∧ (2 ≤ W.1 0 0 ∧ W.1 0 0 ≤ 8) ∧ ∃ o, x3 = nI o ∧ o ≤ W.1 0 0 ∧ x2 = b01 (∀ q, q < o → q ≠ x.toNatClampNeg → beatsS W.1 x.toNatClampNeg q)) (fun _ x3 _ _ _ => 20 - x3.toNatClampNeg) ⟨by decide, ok10_isPlayer hP hG ⟨fun c => ok10_areFew hP hG ⟨fun c2 => ?_, fun c2 => ?_⟩, fun c => ?_⟩⟩ ?_
  · have c2 := b01_n0.mp c2
    rw [if_pos (b01_n0.mp c), if_neg (by omega)] at me
    exact me
  · have c2 := b01_0.mp c2
    rw [g0, cl_0, hG.2.1]
    refine ⟨by decide, v145 0 (by decide), fun c3 => ?_, fun c3 => ?_⟩
    · have c3 := (nI_leI (b := 8) (by omega) (by decide)).mp c3
      exact ⟨rfl, rfl, rfl, b01_n0.mp c, by omega, 0, rfl, Nat.zero_le _, (b01_t fun q hq => absurd hq (Nat.not_lt_zero q)).symm⟩
    · have c3 : ¬ W.1 0 0 ≤ 8 := fun q => c3 (nI_le q (by decide))
      rw [if_pos (b01_n0.mp c), if_neg (by omega)] at me
      exact me
  · rw [if_neg (b01_0.mp c)] at me
    exact me
  · rintro x2 x3 I' L' P' ⟨rfl, rfl, rfl, c, c2, o, rfl, ho, rfl⟩
    obtain ⟨p, hp, rfl, hcp⟩ := cl_isP c (by omega)
    rw [if_pos c, if_pos c2, hcp] at k
    rw [hcp]
    refine ⟨by decide, ?_⟩
    rw [g0, cl_0, hG.2.1]
    refine ⟨by decide, v145 0 (by decide), fun c3 => ?_, fun c3 => ?_⟩
    · have c3 := (nI_leI (by omega) (by omega)).mp c3
      have : o = W.1 0 0 := by omega
      subst this
      refine ⟨fun c4 => ?_, fun c4 => ok10_allM hP hM hO fun I' L' h1 h2 _ _ => ?_⟩
      · rw [if_neg (b01_0.mp c4)] at k
        exact k I' L' (fun _ _ => ⟨rfl, rfl⟩) hM
      · rw [if_pos (b01_n0.mp c4)] at k
        exact k I' L' h1 h2
    · have c3 : o < W.1 0 0 := Nat.lt_of_not_le fun q => c3 (nI_le q (by omega))
      have stp : ∀ v : Int32, v = b01 (∀ q, q < o + 1 → q ≠ p → beatsS W.1 p q) → (I' = I' ∧ L' = L' ∧ P' = P' ∧ isP (W.1 0 0) (nI p) ∧ (2 ≤ W.1 0 0 ∧ W.1 0 0 ≤ 8) ∧ ∃ o_1, nI o + 1 = nI o_1 ∧ o_1 ≤ W.1 0 0 ∧ v = b01 (∀ q, q < o_1 → q ≠ p → beatsS W.1 p q)) ∧ 20 - (nI o + 1).toNatClampNeg < 20 - (nI o).toNatClampNeg := fun v hv => by
        refine ⟨⟨rfl, rfl, rfl, c, c2, o + 1, nI_1 o, c3, hv⟩, ?_⟩
        rw [nI_1, clN (by omega), clN (by omega)]; omega
      have nb : ¬ beatsS W.1 p o → o ≠ p → (0 : Int32) = b01 (∀ q, q < o + 1 → q ≠ p → beatsS W.1 p q) := fun h1 h2 => (b01_f fun q => h1 (q o (by omega) h2)).symm
      refine ⟨fun c4 => stp 0 ?_, fun c4 => ok10_better hP hG hO.1.1 (Or.inl hp) (Or.inl c3) ⟨fun c5 => stp 0 ?_, fun c5 => stp 1 ?_⟩⟩
      · have c4 := b01_0.mp c4
        exact (b01_f fun q => c4 fun z hz => q z (by omega)).symm
      · unfold winV at c5
        rw [if_neg (by omega), if_neg (by decide)] at c5
        refine nb (fun q => c5 (by rw [if_pos q])) fun q => ?_
        subst q
        exact c5 (by split <;> rfl)
      · have c4 := b01_n0.mp c4
        unfold winV at c5
        rw [if_neg (by omega), if_neg (by decide)] at c5
        refine (b01_t fun q hq hne => ?_).symm
        rcases Nat.lt_succ_iff_lt_or_eq.mp hq with w | w
        · exact c4 q w hne
        · subst w
          refine Classical.byContradiction fun z => ?_
          rw [if_neg z] at c5
          exact hne (nI_inj (by omega) (by omega) c5)
end RN
