/-! ===== the reference: counting ===== -/
def alwT (d : Nat) (K : Option Value → qMI → qML → qMP → Prop) (r b set : Nat) (I : qMI) (L : qML) (P : qMP) : Prop :=
  (((shp SH0 (P 144 0)).1 = 20) ∧ ((vp_in 1 (shp SH0 (P 144 0)).2) ∧ ((((I (P 144 0) (Int32.toNatClampNeg 1)) < (nI r)) → ((vp_in 2 (shp SH0 (P 144 0)).2) ∧ ((((I (P 144 0) (Int32.toNatClampNeg 2)) < (nI r)) → (Sq d mX10_isSeated SH0 [.ref 144, .int (nI r), .int (nI b), .int (nI set)] I L P (KI fun rz0 Iz1 Lz2 Pz3 => ((rz0 = 0) → (K (some (.int 0)) Iz1 Lz2 Pz3)) ∧ ((¬ rz0 = 0) → (K (some (.int 1)) Iz1 Lz2 Pz3))))) ∧ ((¬ (I (P 144 0) (Int32.toNatClampNeg 2)) < (nI r)) → (((shp SH0 (P 144 19)).1 = 22) ∧ ((vp_in (nI set) (shp SH0 (P 144 19)).2) ∧ ((((I (P 144 19) set) = 0) → (K (some (.int 0)) I L P)) ∧ ((¬ (I (P 144 19) set) = 0) → (Sq d mX10_isSeated SH0 [.ref 144, .int (nI r), .int (nI b), .int (nI set)] I L P (KI fun rz4 Iz5 Lz6 Pz7 => ((rz4 = 0) → (K (some (.int 0)) Iz5 Lz6 Pz7)) ∧ ((¬ rz4 = 0) → (K (some (.int 1)) Iz5 Lz6 Pz7)))))))))))) ∧ ((¬ (I (P 144 0) (Int32.toNatClampNeg 1)) < (nI r)) → (((shp SH0 (P 144 18)).1 = 22) ∧ ((vp_in (nI set) (shp SH0 (P 144 18)).2) ∧ ((((I (P 144 18) set) = 0) → (K (some (.int 0)) I L P)) ∧ ((¬ (I (P 144 18) set) = 0) → ((vp_in 2 (shp SH0 (P 144 0)).2) ∧ ((((I (P 144 0) (Int32.toNatClampNeg 2)) < (nI r)) → (Sq d mX10_isSeated SH0 [.ref 144, .int (nI r), .int (nI b), .int (nI set)] I L P (KI fun rz8 Iz9 Lz10 Pz11 => ((rz8 = 0) → (K (some (.int 0)) Iz9 Lz10 Pz11)) ∧ ((¬ rz8 = 0) → (K (some (.int 1)) Iz9 Lz10 Pz11))))) ∧ ((¬ (I (P 144 0) (Int32.toNatClampNeg 2)) < (nI r)) → (((shp SH0 (P 144 19)).1 = 22) ∧ ((vp_in (nI set) (shp SH0 (P 144 19)).2) ∧ ((((I (P 144 19) set) = 0) → (K (some (.int 0)) I L P)) ∧ ((¬ (I (P 144 19) set) = 0) → (Sq d mX10_isSeated SH0 [.ref 144, .int (nI r), .int (nI b), .int (nI set)] I L P (KI fun rz12 Iz13 Lz14 Pz15 => ((rz12 = 0) → (K (some (.int 0)) Iz13 Lz14 Pz15)) ∧ ((¬ rz12 = 0) → (K (some (.int 1)) Iz13 Lz14 Pz15)))))))))))))))))))
theorem m1bits {set h : Nat} (hs : set < 1024) (hk : subB set h = true) : nI set &&& (nI h ^^^ (-1)) = nI (set ^^^ h) := by
  rw [show (-1 : Int32) = nI (2 ^ 32 - 1) from by decide, xorN, andN]
  congr 1
  refine bits_eq fun i => ?_
  rw [and_bit, xor_bit, xor_bit, Nat.testBit_two_pow_sub_one, decide_eq_true_iff]
  have hb := subB_iff.mp hk i
  constructor
  · rintro ⟨h1, h2⟩
    have : i < 10 := bits_lt (n := 10) hs h1
    rcases h2 with ⟨_, h2⟩ | ⟨h2, _⟩
    · omega
    · exact Or.inl ⟨h1, h2⟩
  · rintro (⟨h1, h2⟩ | ⟨h1, h2⟩)
    · have : i < 10 := bits_lt (n := 10) hs h1
      exact ⟨h1, Or.inr ⟨h2, by omega⟩⟩
    · exact absurd (hb h2) h1
section RA
variable {d : Nat} {I : qMI} {L : qML} {P : qMP} {W : Wd} {s : Sit}
theorem alw_ok {r b set : Nat} {f : Int32 → qMI → qML → qMP → Prop} (hP : LAY P) (hG : GE (I 145) s) (we : WE s) (hR : PR I s) (h4 : r ≤ 4) (hb : b < 16) (hs : set < 2 ^ s 0 0) (h1 : pc set ≤ 2 ^ r ∧ (r = 1 → pc set ≠ 0) ∧ (r = 1 → pc set = 2 → ∀ p, p < s 0 0 → set.testBit p = true → ¬ earlyP s p)) (k : f (bz (okB s r b set)) I L P) : alwT (d + 1) (KI f) r b set I L P := by
  obtain ⟨g0, g1, g2, g3, g4, g5, g6, g7, g8, g9, g10, g11, g12, g13, g14, -⟩ := ref_P hP
  have hn := hG.1
  have h10 := p10 hn hs
  obtain ⟨r1, r2, r3⟩ := hR.2.2 set hs
  have w5 := we.2.1
  have w6 := we.2.2.1
  have hin8 : vp_in (nI set) (shp SH0 156).2 := vin set rfl (show set < 1024 by omega) (by decide)
  have hin9 : vp_in (nI set) (shp SH0 157).2 := vin set rfl (show set < 1024 by omega) (by decide)
  have e5 : nI (s 5 0) < nI r ↔ s 5 0 < r := nI_ltI (by omega) (by omega)
  have e6 : nI (s 6 0) < nI r ↔ s 6 0 < r := nI_ltI (by omega) (by omega)
  have st : (s 5 0 < r ∨ unl s 1 set) → (s 6 0 < r ∨ unl s 2 set) → Sq (d + 1) mX10_isSeated SH0 [.ref 144, .int (nI r), .int (nI b), .int (nI set)] I L P (KI fun r1 I' L' P' => ((r1 = 0) → (KI f (some (.int 0)) I' L' P')) ∧ ((¬ r1 = 0) → (KI f (some (.int 1)) I' L' P'))) := fun l1 l2 =>
    ok10_isSeated hP hG hR h4 hb hs ⟨fun c => kI k (bz_f fun q => bz_0.mp c q.2.2.2.2.2), fun c => kI k (bz_t ⟨h1.1, h1.2.1, h1.2.2, l1, l2, bz_n0.mp c⟩)⟩
  unfold alwT
  rw [g0, g11, g12, cl_1, cl_2, hG.2.2.1, hG.2.2.2.1, r2, r3]
  refine ⟨by decide, v145 1 (by decide), fun c => ⟨v145 2 (by decide), fun c2 => ?_, fun c2 => ⟨by decide, hin9, fun c3 => ?_, fun c3 => ?_⟩⟩, fun c => ⟨by decide, hin8, fun c3 => ?_, fun c3 => ⟨v145 2 (by decide), fun c2 => ?_, fun c2 => ⟨by decide, hin9, fun c4 => ?_, fun c4 => ?_⟩⟩⟩⟩
  · exact st (Or.inl (e5.mp c)) (Or.inl (e6.mp c2))
  · exact kI k (bz_f fun q => (q.2.2.2.2.1).elim (fun z => c2 (e6.mpr z)) (bz_0.mp c3))
  · exact st (Or.inl (e5.mp c)) (Or.inr (bz_n0.mp c3))
  · exact kI k (bz_f fun q => (q.2.2.2.1).elim (fun z => c (e5.mpr z)) (bz_0.mp c3))
  · exact st (Or.inr (bz_n0.mp c3)) (Or.inl (e6.mp c2))
  · exact kI k (bz_f fun q => (q.2.2.2.2.1).elim (fun z => c2 (e6.mpr z)) (bz_0.mp c4))
  · exact st (Or.inr (bz_n0.mp c3)) (Or.inr (bz_n0.mp c4))
theorem ok10_isAllowed {r b set : Nat} {f : Int32 → qMI → qML → qMP → Prop} (hP : LAY P) (hG : GE (I 145) s) (we : WE s) (hR : PR I s) (h4 : r ≤ 4) (hb : b < 16) (hs : set < 2 ^ s 0 0) (k : f (bz (okB s r b set)) I L P) : Sq (d + 2) mX10_isAllowed SH0 [.ref 144, .int (nI r), .int (nI b), .int (nI set)] I L P (KI f) := by
  obtain ⟨g0, g1, g2, g3, g4, g5, g6, g7, g8, g9, g10, g11, g12, g13, g14, -⟩ := ref_P hP
  have hn := hG.1
  have h10 := p10 hn hs
  obtain ⟨r1, -⟩ := hR.2.2 set hs
  obtain ⟨e, e1, e2, e3⟩ := hR.1
  have hpc := pc_le_n hn hs
  have hp2 : 2 ^ r ≤ 2 ^ 4 := Nat.pow_le_pow_right (by decide) h4
  refine sp_X10_isAllowed ⟨by decide, ?_⟩
  rw [g13, clN (p := set) (by omega), r1, bitN (o := r) (by omega), e1, andN]
  have er : nI r = 1 ↔ r = 1 := nI_eq (b := 1) (by omega) (by decide)
  have e20 : nI (pc set) = 0 ↔ pc set = 0 := nI_eq (b := 0) (by omega) (by decide)
  have e22 : nI (pc set) = 2 ↔ pc set = 2 := nI_eq (b := 2) (by omega) (by decide)
  have ee : nI (set &&& e) = 0 ↔ ∀ p, p < s 0 0 → set.testBit p = true → ¬ earlyP s p := by
    have : set &&& e < 1024 := Nat.lt_of_le_of_lt Nat.and_le_left h10
    refine (nI_eq (b := 0) (by omega) (by decide)).trans ⟨fun q p hp h1 h2 => ?_, fun q => ?_⟩
    · have : (set &&& e).testBit p = true := and_bit.mpr ⟨h1, (e3 p hp).mpr h2⟩
      rw [q, Nat.zero_testBit] at this
      cases this
    · refine bits_eq fun i => ?_
      rw [and_bit, Nat.zero_testBit]
      refine ⟨fun h => ?_, fun h => by cases h⟩
      have hi := bits_lt hs h.1
      exact absurd ((e3 i hi).mp h.2) (q i hi h.1)
  refine ⟨by decide, vin set rfl (show set < 1024 by omega) (by decide), fun c => ?_, fun c => ?_⟩
  · have c := (nI_ltI (by omega) (by omega)).mp c
    exact kI k (bz_f fun q => by have := q.1; omega)
  · have c : pc set ≤ 2 ^ r := Nat.le_of_not_lt fun q => c (nI_lt q (by omega))
    refine ⟨fun c1 => ⟨fun _ => ?_, fun c2 => absurd c2 c1⟩, fun c1 => ⟨fun c2 => ?_, fun c2 => ⟨fun c3 => absurd c1 c3, fun _ => ⟨fun c3 => ?_, fun c3 => ⟨fun c4 => ?_, fun c4 => ?_⟩⟩⟩⟩⟩
    · have c1 : r ≠ 1 := fun q => c1 (er.mpr q)
      exact alw_ok hP hG we hR h4 hb hs ⟨c, fun q => absurd q c1, fun q => absurd q c1⟩ k
    · exact kI k (bz_f fun q => q.2.1 (er.mp c1) (e20.mp c2))
    · exact alw_ok hP hG we hR h4 hb hs ⟨c, fun _ q => c2 (e20.mpr q), fun _ q => absurd q (fun z => c3 (e22.mpr z))⟩ k
    · exact alw_ok hP hG we hR h4 hb hs ⟨c, fun _ q => c2 (e20.mpr q), fun _ _ => ee.mp c4⟩ k
    · exact kI k (bz_f fun q => c4 (ee.mpr (q.2.2.1 (er.mp c1) (e22.mp c3))))
theorem ok10_moreA {r b set w : Nat} {x : Int32} {f : Int32 → qMI → qML → qMP → Prop} (hP : LAY P) (hn : s 0 0 ≤ 10) (hR : PR I s) (hs : set < 2 ^ s 0 0) (h23 : I 144 23 = -2) (h24 : I 144 24 = nI w) (h25 : I 144 25 = x) (k : f (bz (nI r = x → pc (set &&& w) ≤ 1)) I L P) : Sq (d + 1) mX10_isMore SH0 [.ref 144, .int (nI r), .int (nI b), .int (nI set)] I L P (KI f) := by
  obtain ⟨g0, g1, g2, g3, g4, g5, g6, g7, g8, g9, g10, g11, g12, g13, g14, -⟩ := ref_P hP
  have h10 := p10 hn hs
  have hw : set &&& w < 2 ^ s 0 0 := Nat.lt_of_le_of_lt Nat.and_le_left hs
  have hw10 := p10 hn hw
  have hpc := pc_le_n hn hw
  refine sp_X10_isMore ⟨by decide, ?_⟩
  rw [h23, h24, h25, g13, andN]
  refine ⟨fun _ => ⟨fun c => kI k (bz_t fun q => absurd q c), fun c => ⟨by decide, vin _ rfl (show set &&& w < 1024 from hw10) (by decide), ?_⟩⟩, fun c => absurd (by decide) c⟩
  rw [clN (by omega), (hR.2.2 _ hw).1]
  refine ⟨fun c2 => kI k (bz_f fun q => ?_), fun c2 => kI k (bz_t fun _ => ?_)⟩
  · have c2 := (nI_leI (a := 2) (by decide) (by omega)).mp c2
    have := q c
    omega
  · have c2 : ¬ 2 ≤ pc (set &&& w) := fun q => c2 ((nI_leI (a := 2) (by decide) (by omega)).mpr q)
    omega
theorem ok10_moreP {r b set p t : Nat} {f : Int32 → qMI → qML → qMP → Prop} (hn : s 0 0 ≤ 10) (h4 : r ≤ 4) (hb : b < 16) (hs : set < 2 ^ s 0 0) (hp : p < 10) (ht : t < 16) (h23 : I 144 23 = nI t) (h24 : I 144 24 = nI (2 ^ p)) (k : f (bz (moP p t r b set)) I L P) : Sq (d + 1) mX10_isMore SH0 [.ref 144, .int (nI r), .int (nI b), .int (nI set)] I L P (KI f) := by
  have h10 := p10 hn hs
  have p10 : 2 ^ p ≤ 2 ^ 10 := Nat.pow_le_pow_right (by decide) (by omega)
  unfold moP at k
  refine sp_X10_isMore ⟨by decide, ?_⟩
  rw [h23, h24]
  refine ⟨fun c => absurd c (nI_pos (by omega)), fun _ => ⟨fun c => kI k (bz_t ?_), fun c => ⟨fun c2 => kI k (bz_t ?_), fun c2 => ⟨fun c3 => kI k (bz_f ?_), fun c3 => kI k (bz_t ?_)⟩⟩⟩⟩
  · exact Or.inl ((nI_ltI (a := 0) (by decide) (by omega)).mp c)
  · exact Or.inr (Or.inl fun q => c2 (by rw [q]))
  · rintro (q | q | q)
    · exact c ((nI_ltI (a := 0) (by decide) (by omega)).mpr q)
    · exact q (nI_inj (by omega) (by omega) c2)
    · exact c3 (by rw [q])
  · exact Or.inr (Or.inr (nI_inj (by omega) (by omega) c3))
theorem ok10_sumOf {c r b set : Nat} {A : Nat → Nat → Nat → Bool} {f : Int64 → qMI → qML → qMP → Prop} (hn : s 0 0 ≤ 10) (hc : shp SH0 c = (21, 31744)) (hr : r + 1 ≤ lastS (s 0 0)) (hb : b < TB (s 0 0) (r + 1)) (hs : set < 2 ^ s 0 0) (hL : ∀ b' h, b' < TB (s 0 0) r → h < 2 ^ s 0 0 → L c (1024 * (bo4 r + b') + h) = lN (gc A r b' h)) (k : f (lN (su (subs set) (fun h => gc A r (2 * b) h * gc A r (2 * b + 1) (set ^^^ h)))) I L P) : Sq (d + 2) mX10_sumOf SH0 [.ref 144, .ref c, .int (nI (r + 1)), .int (nI b), .int (nI set)] I L P (KL f) := by
  have hl := lastS_le (s 0 0)
  have h10 := p10 hn hs
  have tb := TB_half hn hr
  have e2 : (2 : Int32) * nI b = nI (2 * b) := pk_mul 2 b
  have x1 := bo4_lt (n := s 0 0) (r := r) (b := 2 * b) (by omega) (by omega)
  have x2 := bo4_lt (n := s 0 0) (r := r) (b := 2 * b + 1) (by omega) (by omega)
  have hpos := Nat.two_pow_pos (pc set)
  have hp0 := Nat.two_pow_pos (s 0 0)
  have hall := ps_all h10 (fun h => gc A r (2 * b) h * gc A r (2 * b + 1) (set ^^^ h))
  rw [← hall] at k
  have mono : ∀ i, i ≤ 2 ^ pc set → ps set (fun h => gc A r (2 * b) h * gc A r (2 * b + 1) (set ^^^ h)) i ≤ ps set (fun h => gc A r (2 * b) h * gc A r (2 * b + 1) (set ^^^ h)) (2 ^ pc set) := by
    intro i hi
    have : ∀ e, i + e ≤ 2 ^ pc set → ps set (fun h => gc A r (2 * b) h * gc A r (2 * b + 1) (set ^^^ h)) i ≤ ps set (fun h => gc A r (2 * b) h * gc A r (2 * b + 1) (set ^^^ h)) (i + e) := by
      intro e
      induction e with
      | zero => exact fun _ => Nat.le_refl _
      | succ e ih =>
        intro he
        have := ps_succ set (fun h => gc A r (2 * b) h * gc A r (2 * b + 1) (set ^^^ h)) (i + e)
        have := ih (by omega)
        rw [show i + (e + 1) = i + e + 1 from rfl]
        omega
    have := this (2 ^ pc set - i) (by omega)
    rwa [show i + (2 ^ pc set - i) = 2 ^ pc set by omega] at this
  have ps1 : ps set (fun h => gc A r (2 * b) h * gc A r (2 * b + 1) (set ^^^ h)) (0 + 1) = gc A r (2 * b) 0 * gc A r (2 * b + 1) set := by
    rw [ps_succ, ps_0, Nat.zero_add]
    show gc A r (2 * b) 0 * gc A r (2 * b + 1) (set ^^^ 0) = _
    rw [Nat.xor_zero]
  refine sp_X10_sumOf (fun x5 x6 l7 x9 I' L' P' => I' = I ∧ L' = L ∧ P' = P ∧ x5 = nI (1024 * (bo4 r + 2 * b)) ∧ x6 = nI (1024 * (bo4 r + (2 * b + 1))) ∧ ∃ i, i < 2 ^ pc set ∧ x9 = nI (it set i) ∧ l7 = lN (gc A r (2 * b) 0 * gc A r (2 * b + 1) set + (ps set (fun h => gc A r (2 * b) h * gc A r (2 * b + 1) (set ^^^ h)) (2 ^ pc set) - ps set (fun h => gc A r (2 * b) h * gc A r (2 * b + 1) (set ^^^ h)) (i + 1)))) (fun _ _ _ x9 _ _ _ => x9.toNatClampNeg) ?_ ?_
  · unfold vc_X10_sumOf_0
    rw [nI_pred, e2, nI_1]
    refine ok10_blockAt (by omega) (ok10_blockAt (by omega) ?_)
    rw [hc, nI_add, clN (by omega), clN (by omega), hL (2 * b + 1) set (by omega) hs]
    have h0 := hL (2 * b) 0 (by omega) hp0
    rw [Nat.add_zero] at h0
    rw [h0, lN_mul]
    refine ⟨rfl, vin _ rfl (by show _ < 31744; omega) (by decide), vin _ rfl (by show _ < 31744; omega) (by decide), rfl, rfl, rfl, rfl, rfl, 2 ^ pc set - 1, by omega, by rw [it_last h10], ?_⟩
    rw [show 2 ^ pc set - 1 + 1 = 2 ^ pc set by omega, Nat.sub_self]
    rfl
  · rintro x5 x6 l7 x9 I' L' P' ⟨rfl, rfl, rfl, rfl, rfl, i, hi, rfl, rfl⟩
    obtain ⟨i1, i2⟩ := it_sub h10 hi
    have ile := sub_lt i1 hs
    have stp := ps_succ set (fun h => gc A r (2 * b) h * gc A r (2 * b + 1) (set ^^^ h)) i
    have m1 := mono (i + 1) (by omega)
    have m0 := mono (0 + 1) (by omega)
    refine ⟨fun c9 => kL k ?_, fun c9 => ?_⟩
    · have c9 := (nI_leI (b := 0) (by omega) (by decide)).mp c9
      have : i = 0 := Classical.byContradiction fun q => by
        have := it_lt h10 (show 0 < i by omega) hi
        omega
      subst this
      congr 1
      omega
    · have c9 : 1 ≤ it set i := Nat.lt_of_not_le fun q => c9 ((nI_leI (b := 0) (by omega) (by decide)).mpr q)
      have i0 : i ≠ 0 := fun q => by
        subst q
        have : it set 0 = 0 := rfl
        omega
      obtain ⟨j, rfl⟩ : ∃ j, i = j + 1 := ⟨i - 1, by omega⟩
      have dn := it_dn h10 hi
      have jlt := it_lt h10 (show j < j + 1 by omega) hi
      rw [hc, m1bits h10 i1, nI_add, nI_add, show nI (it set (j + 1)) - 1 = nI (it set (j + 1) - 1) from pk_sub (b := 1) c9, andN, dn, clN (p := 1024 * (bo4 r + 2 * b) + it set (j + 1)) (by omega), clN (p := 1024 * (bo4 r + (2 * b + 1)) + (set ^^^ it set (j + 1))) (by have := xor_lt (n := 10) i1 h10; omega), hL (2 * b) _ (by omega) ile, hL (2 * b + 1) _ (by omega) (xor_lt i1 hs)]
      have ix := xor_lt (n := 10) i1 h10
      have key : ∀ v : Int64, v = lN (gc A r (2 * b) (it set (j + 1)) * gc A r (2 * b + 1) (set ^^^ it set (j + 1))) → (I' = I' ∧ L' = L' ∧ P' = P' ∧ nI (1024 * (bo4 r + 2 * b)) = nI (1024 * (bo4 r + 2 * b)) ∧ nI (1024 * (bo4 r + (2 * b + 1))) = nI (1024 * (bo4 r + (2 * b + 1))) ∧ ∃ i, i < 2 ^ pc set ∧ nI (it set j) = nI (it set i) ∧ lN (gc A r (2 * b) 0 * gc A r (2 * b + 1) set + (ps set (fun h => gc A r (2 * b) h * gc A r (2 * b + 1) (set ^^^ h)) (2 ^ pc set) - ps set (fun h => gc A r (2 * b) h * gc A r (2 * b + 1) (set ^^^ h)) (j + 1 + 1))) + v = lN (gc A r (2 * b) 0 * gc A r (2 * b + 1) set + (ps set (fun h => gc A r (2 * b) h * gc A r (2 * b + 1) (set ^^^ h)) (2 ^ pc set) - ps set (fun h => gc A r (2 * b) h * gc A r (2 * b + 1) (set ^^^ h)) (i + 1)))) ∧ (nI (it set j)).toNatClampNeg < (nI (it set (j + 1))).toNatClampNeg := by
        intro v hv
        refine ⟨⟨rfl, rfl, rfl, rfl, rfl, j, by omega, rfl, ?_⟩, ?_⟩
        · rw [hv, lN_add]
          congr 1
          omega
        · rw [clN (by omega), clN (by omega)]; omega
      refine ⟨rfl, vin _ rfl (by show _ < 31744; omega) (by decide), fun _ => ⟨vin _ rfl (by show _ < 31744; omega) (by decide), key _ (lN_mul _ _)⟩, fun c10 => key _ ?_⟩
      have g := gcs (A := A) (r := r) (b := 2 * b) hn (by omega) ile
      have c10 := (pk_lEQ (b := 0) (by omega) (by decide)).mp c10
      show (0 : Int64) = lN (gc A r (2 * b) (it set (j + 1)) * gc A r (2 * b + 1) (set ^^^ it set (j + 1)))
      rw [c10, Nat.zero_mul]; rfl
end RA
