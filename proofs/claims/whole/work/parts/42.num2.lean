theorem TB_pow : ∀ n, n ≤ 10 → ∀ r, r ≤ lastS n → TB n r = 2 ^ (lastS n - r) := by decide
theorem TB_exB : ∀ n, n ≤ 10 → ((List.range (slotsS n)).all fun B => B == 0 || (List.range (lastS n)).any fun r => (List.range (TB n (r + 1))).any fun b => B == TB n (r + 1) + b) = true := by decide +kernel
theorem TB_ex {n B : Nat} (hn : n ≤ 10) (h1 : 1 ≤ B) (h2 : B < slotsS n) : ∃ r b, r + 1 ≤ lastS n ∧ b < TB n (r + 1) ∧ B = TB n (r + 1) + b := by
  have q := List.all_eq_true.mp (TB_exB n hn) B (List.mem_range.mpr h2)
  simp only [Bool.or_eq_true, beq_iff_eq, List.any_eq_true, List.mem_range] at q
  rcases q with q | ⟨r, hr, b, hb, e⟩
  · omega
  · exact ⟨r, b, by omega, hb, e⟩
/-- how the class counts -/
noncomputable def xS (s : Sit) : Nat → Nat → Nat → Bool := xA s (seated s) (seatF s) 0 (-1) (-1)
def CR (I : qMI) (L : qML) (P : qMP) (a : Nat) (s : Sit) : Prop := CB I P a s (seated s) (seatF s) 0 (-1) (-1) ∧ ∀ r b, 1 ≤ r → r ≤ lastS (s 0 0) → b < TB (s 0 0) r → RF L a (xS s) (s 0 0) (seated s) (seatF s) r b
theorem CR.congr {I I' : qMI} {L L' : qML} {P : qMP} {a : Nat} {s : Sit} (hP : LAY P) (ha : isCnt a) (hn : s 0 0 ≤ 10) (h : CR I L P a s) (q : ∀ r, a ≤ r → r < a + 8 → I' r = I r) (q2 : ∀ r, a + 8 ≤ r → r < a + 24 → L' r = L r) : CR I' L' P a s :=
  ⟨h.1.congr hP ha q, fun r b h1 h2 h3 set y1 y2 => by
    have tt := TB_all _ hn r h2
    have t8 := tt.2.2.2.2 h1
    rw [q2 _ (by omega) (by omega)]
    exact h.2 r b h1 h2 h3 set y1 y2⟩
noncomputable def whoA (A : Nat → Nat → Nat → Bool) (l all N t : Nat) : Nat := if (hq A l all N 0 t).1 = 0 then 10 else pc ((hq A l all N 0 t).1 - 1)
section N2
variable {d : Nat} {I : qMI} {L : qML} {P : qMP} {s : Sit}
theorem i1m : (-1 : Int32).toInt = (-1 : Int) := by decide
theorem ok_ways {r b B set : Nat} {f : Int64 → qMI → qML → qMP → Prop} (hP : LAY P) (h : CR I L P 88 s) (hn : s 0 0 ≤ 10) (hr : r ≤ lastS (s 0 0)) (hb : b < TB (s 0 0) r) (hB : B = TB (s 0 0) r + b) (hs : set < 2 ^ s 0 0) (k : f (lN (gc (xS s) r b set)) I L P) : Sq (d + 2) mX0_waysOf SH0 [.ref 88, .int (nI B), .int (nI set)] I L P (KL f) :=
  ok_waysOf hP (Or.inl rfl) h.1 hn hr hb hB hs (fun q => h.2 r b q hr hb) k
theorem gcs {A : Nat → Nat → Nat → Bool} {n r b set : Nat} (hn : n ≤ 10) (hr : r ≤ lastS n) (hs : set < 2 ^ n) : gc A r b set ≤ 1099511627776 := gc_small (by have := lastS_le n; omega) (p10 hn hs)
theorem ok_split {r b B set N : Nat} {f : qMI → qML → qMP → Prop} (hP : LAY P) (h : CR I L P 88 s) (hn : s 0 0 ≤ 10) (hr : r + 1 ≤ lastS (s 0 0)) (hb : b < TB (s 0 0) (r + 1)) (hB : B = TB (s 0 0) (r + 1) + b) (hs : set < 2 ^ s 0 0) (hI : I 137 B = nI set) (hL : L 138 B = lN N) (hN : N < gc (xS s) (r + 1) b set)
    (k : ∀ h, spl set (FA (xS s) r b set) N = h → f (uI (uI I 137 (2 * B) (nI h)) 137 (2 * B + 1) (nI (set ^^^ h))) (uL (uL L 138 (2 * B) (lN ((N - pre set (FA (xS s) r b set) h) / gc (xS s) r (2 * b + 1) (set ^^^ h)))) 138 (2 * B + 1) (lN ((N - pre set (FA (xS s) r b set) h) % gc (xS s) r (2 * b + 1) (set ^^^ h)))) P) : Sq (d + 3) mX4_split SH0 [.ref 136, .ref 88, .int (nI B)] I L P (KV f) := by
  have hl := lastS_le (s 0 0)
  have tb := TB_half hn hr
  have tt := TB_all _ hn (r + 1) hr
  have t8 := tt.2.2.2.2 (by omega)
  have hs10 := p10 hn hs
  have hpc := pc_le_n hn hs
  have hp10 := pow10 (k := pc set) (by omega)
  have hA : xS s (r + 1) b set = true := gc_node (fun z => by omega)
  have hgs := gcs (A := xS s) (b := b) hn hr hs
  have hN9 := hN
  rw [gc_FA hA, ← ps_all hs10] at hN
  have e2 : (2 : Int32) * nI B = nI (2 * B) := pk_mul 2 B
  have P0 : P 136 0 = 137 := ly_136_0 hP
  have P1 : P 136 1 = 138 := ly_136_1 hP
  refine sp_X4_split (fun x3 x4 x5 l6 x8 I' L' P' => I' = I ∧ L' = L ∧ P' = P ∧ x3 = nI set ∧ x4 = nI (2 ^ pc set) ∧ ∃ i, i ≤ 2 ^ pc set ∧ x5 = nI (it set i) ∧ x8 = nI i ∧ ps set (FA (xS s) r b set) i ≤ N ∧ l6 = lN (N - ps set (FA (xS s) r b set) i)) (fun _ _ _ _ x _ _ _ => 2000 - x.toNatClampNeg) ⟨by decide, ?_⟩ ?_
  · rw [P0, clN (by omega), hI]
    refine ⟨by decide, vin B rfl (show B < 32 by omega) (by decide), ok_bc hs10 ?_⟩
    rw [P1, hL]
    exact ⟨by decide, vin B rfl (show B < 32 by omega) (by decide), rfl, rfl, rfl, rfl, bitN (by omega), 0, Nat.zero_le _, rfl, rfl, Nat.zero_le _, rfl⟩
  · rintro x3 x4 x5 l6 x8 I' L' P' ⟨rfl, rfl, rfl, rfl, rfl, i, hi, rfl, rfl, h1, rfl⟩
    refine ⟨fun c => ?_, fun c => ⟨by decide, ?_⟩⟩
    · rw [nI_leI (by omega) (by omega)] at c
      have : i = 2 ^ pc set := by omega
      rw [this] at h1
      omega
    · rw [nI_leI (by omega) (by omega)] at c
      have hi2 : i < 2 ^ pc set := by omega
      obtain ⟨m1, m2⟩ := it_sub hs10 hi2
      have hmem := it_mem hs10 hi2
      have hpre := pre_it hs10 hi2 (FA (xS s) r b set)
      have hstep := ps_succ set (FA (xS s) r b set) i
      have hle : FA (xS s) r b set (it set i) ≤ gc (xS s) (r + 1) b set := by rw [gc_FA hA]; exact su_mem hmem
      have hFA : FA (xS s) r b set (it set i) = gc (xS s) r (2 * b) (it set i) * gc (xS s) r (2 * b + 1) (set ^^^ it set i) := rfl
      have g1 := gcs (A := xS s) (r := r) (b := 2 * b) hn (by omega) (sub_lt m1 hs)
      have g2 := gcs (A := xS s) (r := r) (b := 2 * b + 1) hn (by omega) (xor_lt m1 hs)
      have hm : 2000 - (nI i + 1).toNatClampNeg < 2000 - (nI i).toNatClampNeg := by
        rw [nI_1, clN (by omega), clN (by omega)]; omega
      rw [e2, nI_1, xorN, nxN hs10 m2, nx_it]
      refine ok_ways (r := r) (b := 2 * b + 1) hP h hn (by omega) (by omega) (by omega) (xor_lt m1 hs) ?_
      have key : ∀ h9, it set i = h9 → spl set (FA (xS s) r b set) N = h9 → _ := fun h9 _ e => k h9 e
      generalize hGR : gc (xS s) r (2 * b + 1) (set ^^^ it set i) = GR at *
      have q0 : lN GR = 0 ↔ GR = 0 := pk_lEQ (b := 0) (by omega) (by decide)
      have q1 : lN GR ≤ 0 ↔ GR ≤ 0 := pk_lLE (b := 0) (by omega) (by decide)
      refine ⟨fun c1 => ok_ways (r := r) (b := 2 * b) hP h hn (by omega) (by omega) (by omega) (sub_lt m1 hs) ⟨fun c2 => absurd (q0.mpr (by have := q1.mp c2; omega)) c1, fun c2 => ?_⟩, fun c1 => ⟨fun c2 => ⟨⟨rfl, rfl, rfl, rfl, rfl, i + 1, by omega, rfl, nI_1 i, ?_, ?_⟩, hm⟩, fun c2 => absurd (q1.mpr (by have := q0.mp c1; omega)) c2⟩⟩
      · generalize hGL : gc (xS s) r (2 * b) (it set i) = GL at *
        have hmul : GR * GL = FA (xS s) r b set (it set i) := by rw [hFA, Nat.mul_comm]
        rw [lN_mul, hmul]
        refine ⟨fun c3 => ?_, fun c3 => ?_⟩
        · rw [pk_lLE (by omega) (by omega)] at c3
          refine ⟨⟨rfl, rfl, rfl, rfl, rfl, i + 1, by omega, rfl, nI_1 i, by omega, ?_⟩, hm⟩
          rw [lN_sub c3, hstep]
          congr 1; omega
        · rw [pk_lLE (by omega) (by omega)] at c3
          have hspl : spl set (FA (xS s) r b set) N = it set i := spl_eq hmem (by omega) (by omega)
          have kk := k (it set i) hspl
          rw [hGR, hpre] at kk
          have c2' : 0 < GR := Nat.lt_of_not_le fun z => c2 (q1.mpr z)
          rw [P0, P1]
          refine ⟨by decide, by decide, vin _ rfl (show 2 * B < 32 by omega) (by decide), fun I17 e17 => ⟨vin _ rfl (show 2 * B + 1 < 32 by omega) (by decide), fun I19 e19 => ⟨c1, by decide, vin _ rfl (show 2 * B < 32 by omega) (by decide), fun L23 e23 => ⟨vin _ rfl (show 2 * B + 1 < 32 by omega) (by decide), fun L25 e25 => ?_⟩⟩⟩⟩
          rw [clN (by omega)] at e17 e19 e23 e25
          rw [pk_lDiv (by omega) c2' (by omega)] at e23
          rw [pk_lRem (by omega) c2' (by omega)] at e25
          rw [e25, e23, e19, e17]
          exact kk
      · have z := q0.mp c1
        rw [hstep, hFA, z, Nat.mul_zero]; exact h1
      · have z := q0.mp c1
        rw [hstep, hFA, z, Nat.mul_zero, Nat.add_zero]
        simp
theorem hq_lt {A : Nat → Nat → Nat → Bool} {n l N r b : Nat} (hN : N < gc A l 0 (2 ^ n - 1)) (hr : r ≤ l) (hb : b < 2 ^ (l - r)) : (hq A l (2 ^ n - 1) N r b).1 < 2 ^ n := by
  have := (hq_val hN hr hb).2
  exact sub_lt this (by have := Nat.two_pow_pos n; omega)
theorem ok_lay {N : Nat} {f : qMI → qML → qMP → Prop} (hP : LAY P) (h : CR I L P 88 s) (hn : s 0 0 ≤ 10) (hN : N < gc (xS s) (lastS (s 0 0)) 0 (2 ^ s 0 0 - 1))
    (k : ∀ I' L', (∀ r, r ≠ 137 → r ≠ 6 → I' r = I r) → (∀ r, r ≠ 138 → L' r = L r) → (∀ t, t < slotsS (s 0 0) → I' 6 (slotsS (s 0 0) + t) = nI (whoA (xS s) (lastS (s 0 0)) (2 ^ s 0 0 - 1) N t)) → f I' L' P) : Sq (d + 4) mX4_lay SH0 [.ref 136, .ref 88, .long (lN N), .ref 6] I L P (KV f) := by
  have hl := lastS_le (s 0 0)
  have hsl := slotsS_in (s 0 0)
  have a3 := h.1.2.2.1
  have a4 := h.1.2.2.2.1
  have P0 : P 136 0 = 137 := ly_136_0 hP
  have P1 : P 136 1 = 138 := ly_136_1 hP
  have tl := TB_last _ hn
  have rest : ∀ {I' : qMI} {L' : qML}, (∀ r, r ≠ 137 → r ≠ 6 → I' r = I r) → (∀ r, r ≠ 138 → L' r = L r) → CR I' L' P 88 s := fun q1 q2 => h.congr hP (Or.inl rfl) hn (fun r h1 h2 => q1 r (by omega) (by omega)) (fun r h1 h2 => q2 r (by omega))
  refine sp_X4_lay (fun x I' L' P' => P' = P ∧ (∀ r, r ≠ 137 → r ≠ 6 → I' r = I r) ∧ (∀ r, r ≠ 138 → L' r = L r) ∧ ∃ B, 1 ≤ B ∧ B ≤ slotsS (s 0 0) ∧ x = nI B ∧ ∀ r b, r ≤ lastS (s 0 0) → b < TB (s 0 0) r → TB (s 0 0) r + b < 2 * B → I' 137 (TB (s 0 0) r + b) = nI (hq (xS s) (lastS (s 0 0)) (2 ^ s 0 0 - 1) N r b).1 ∧ L' 138 (TB (s 0 0) r + b) = lN (hq (xS s) (lastS (s 0 0)) (2 ^ s 0 0 - 1) N r b).2) (fun x _ _ _ => (100 - x.toNatClampNeg) + 200) (fun x I' L' P' => P' = P ∧ (∀ r, r ≠ 137 → r ≠ 6 → I' r = I r) ∧ (∀ r, r ≠ 138 → L' r = L r) ∧ (∀ t, t < slotsS (s 0 0) → I' 137 (slotsS (s 0 0) + t) = nI (hq (xS s) (lastS (s 0 0)) (2 ^ s 0 0 - 1) N 0 t).1) ∧ ∃ o, o ≤ slotsS (s 0 0) ∧ x = nI (slotsS (s 0 0) + o) ∧ ∀ t, t < o → I' 6 (slotsS (s 0 0) + t) = nI (whoA (xS s) (lastS (s 0 0)) (2 ^ s 0 0 - 1) N t)) (fun x _ _ _ => 100 - x.toNatClampNeg) ?_ ?_ ?_
  · refine ⟨by decide, by decide, ?_⟩
    rw [P0, P1, a3, show Int32.toNatClampNeg 1 = 1 by decide]
    refine ⟨by decide, vin 1 rfl (show 1 < 32 by decide) (by decide), fun I5 e5 => ⟨by decide, vin 1 rfl (show 1 < 32 by decide) (by decide), fun L8 e8 => ⟨rfl, fun r q1 _ => by rw [e5, uI_ne r q1], fun r q1 => by rw [e8, uL_ne r q1], 1, Nat.le_refl 1, by omega, rfl, fun r b h1 h2 h3 => ?_⟩⟩⟩
    have e : r = lastS (s 0 0) ∧ b = 0 := by
      have t := TB_all _ hn r h1
      have := TB_inj hn h1 (Nat.le_refl _) h2 (show 0 < TB (s 0 0) (lastS (s 0 0)) by omega) (by omega)
      exact this
    obtain ⟨rfl, rfl⟩ := e
    rw [hq_top, tl, e5, e8]
    exact ⟨if_pos ⟨rfl, rfl⟩, if_pos ⟨rfl, rfl⟩⟩
  · rintro x I' L' P' ⟨rfl, hF, hG, B, hB1, hB2, rfl, hT⟩
    have hC := rest hF hG
    have e2 : (2 : Int32) * nI B = nI (2 * B) := pk_mul 2 B
    have toT2 : B = slotsS (s 0 0) → ∀ t, t < slotsS (s 0 0) → I' 137 (slotsS (s 0 0) + t) = nI (hq (xS s) (lastS (s 0 0)) (2 ^ s 0 0 - 1) N 0 t).1 := fun e t ht => by
      have := (hT 0 t (Nat.zero_le _) (by rw [TB_0]; exact ht) (by rw [TB_0]; omega)).1
      rw [TB_0] at this; exact this
    refine ⟨by decide, ?_⟩
    unfold vc_X4_lay_1 at *
    rw [hC.1.2.2.2.1, e2, nI_1]
    refine ⟨fun c => ?_, fun c => ⟨by decide, ?_⟩⟩
    · rw [nI_leI (by omega) (by omega)] at c
      have e : B = slotsS (s 0 0) := by omega
      refine ⟨⟨rfl, hF, hG, toT2 e, 0, Nat.zero_le _, rfl, fun t ht => absurd ht (Nat.not_lt_zero t)⟩, ?_⟩
      omega
    · rw [nI_leI (by omega) (by omega)] at c
      rw [P0]
      refine ⟨by decide, fun c2 => absurd c2 (nI_ge (show 2 * B + 1 < 32 by omega) (by decide)), fun c2 => ?_⟩
      obtain ⟨r, b, hr, hb, eB⟩ := TB_ex hn hB1 (by omega)
      have hp := TB_pow _ hn (r + 1) hr
      have tb := TB_half hn hr
      obtain ⟨t1, t2⟩ := hT (r + 1) b hr hb (by omega)
      rw [← eB] at t1 t2
      have hv := (hq_val hN hr (by rw [← hp]; exact hb)).1
      have hlt := hq_lt (n := s 0 0) hN hr (by rw [← hp]; exact hb)
      obtain ⟨h9, x9, y9, d1, d2, d3, d4, d5, d6, d7⟩ := hq_down (b := b) hr hv
      refine ok_split hP hC hn hr hb eB hlt t1 t2 hv fun h8 e8 => ?_
      rw [d1] at e8
      subst e8
      have hR : 0 < gc (xS s) r (2 * b + 1) ((hq (xS s) (lastS (s 0 0)) (2 ^ s 0 0 - 1) N (r + 1) b).1 ^^^ h9) := by omega
      have z1 : ((hq (xS s) (lastS (s 0 0)) (2 ^ s 0 0 - 1) N (r + 1) b).2 - pre (hq (xS s) (lastS (s 0 0)) (2 ^ s 0 0 - 1) N (r + 1) b).1 (FA (xS s) r b (hq (xS s) (lastS (s 0 0)) (2 ^ s 0 0 - 1) N (r + 1) b).1) h9) = x9 * gc (xS s) r (2 * b + 1) ((hq (xS s) (lastS (s 0 0)) (2 ^ s 0 0 - 1) N (r + 1) b).1 ^^^ h9) + y9 := by omega
      rw [z1]
      rw [show (x9 * gc (xS s) r (2 * b + 1) ((hq (xS s) (lastS (s 0 0)) (2 ^ s 0 0 - 1) N (r + 1) b).1 ^^^ h9) + y9) / gc (xS s) r (2 * b + 1) ((hq (xS s) (lastS (s 0 0)) (2 ^ s 0 0 - 1) N (r + 1) b).1 ^^^ h9) = x9 by
        rw [Nat.add_comm, Nat.add_mul_div_right _ _ hR, Nat.div_eq_of_lt d7, Nat.zero_add]]
      rw [show (x9 * gc (xS s) r (2 * b + 1) ((hq (xS s) (lastS (s 0 0)) (2 ^ s 0 0 - 1) N (r + 1) b).1 ^^^ h9) + y9) % gc (xS s) r (2 * b + 1) ((hq (xS s) (lastS (s 0 0)) (2 ^ s 0 0 - 1) N (r + 1) b).1 ^^^ h9) = y9 by
        rw [Nat.add_comm, Nat.add_mul_mod_self_right, Nat.mod_eq_of_lt d7]]
      refine ⟨⟨rfl, fun q g1 g2 => by rw [uI_ne q g1, uI_ne q g1]; exact hF q g1 g2, fun q g1 => by rw [uL_ne q g1, uL_ne q g1]; exact hG q g1, B + 1, by omega, by omega, nI_1 B, fun q c h1 h2 h3 => ?_⟩, ?_⟩
      · by_cases w1 : TB (s 0 0) q + c = 2 * B
        · obtain ⟨rfl, rfl⟩ := TB_inj hn h1 (show r ≤ lastS (s 0 0) by omega) h2 (show 2 * b < TB (s 0 0) r by omega) (by omega)
          rw [w1, d3]
          constructor
          · show (if _ then _ else (if _ then _ else _)) = _
            rw [if_neg (by omega), if_pos ⟨rfl, rfl⟩]
          · show (if _ then _ else (if _ then _ else _)) = _
            rw [if_neg (by omega), if_pos ⟨rfl, rfl⟩]
        · by_cases w2 : TB (s 0 0) q + c = 2 * B + 1
          · obtain ⟨rfl, rfl⟩ := TB_inj hn h1 (show r ≤ lastS (s 0 0) by omega) h2 (show 2 * b + 1 < TB (s 0 0) r by omega) (by omega)
            rw [w2, d4]
            exact ⟨if_pos ⟨rfl, rfl⟩, if_pos ⟨rfl, rfl⟩⟩
          · have := hT q c h1 h2 (by omega)
            constructor
            · show (if _ then _ else (if _ then _ else _)) = _
              rw [if_neg (fun v => w2 v.2), if_neg (fun v => w1 v.2)]
              exact this.1
            · show (if _ then _ else (if _ then _ else _)) = _
              rw [if_neg (fun v => w2 v.2), if_neg (fun v => w1 v.2)]
              exact this.2
      · have y1 : (nI B).toNatClampNeg = B := clN (by omega)
        have y2 : (nI B + 1).toNatClampNeg = B + 1 := by rw [nI_1, clN (by omega)]
        omega
  · rintro x I' L' P' ⟨rfl, hF, hG, hS, o, ho, rfl, hj⟩
    have hC := rest hF hG
    refine ⟨by decide, ?_⟩
    unfold vc_X4_lay_2 at *
    rw [hC.1.2.2.2.1, show (2 : Int32) * nI (slotsS (s 0 0)) = nI (2 * slotsS (s 0 0)) from pk_mul 2 _]
    refine ⟨fun c => ?_, fun c => ⟨by decide, fun c2 => absurd c2 (nI_ge (show slotsS (s 0 0) + o < 32 by rw [nI_leI (by omega) (by omega)] at c; omega) (by decide)), fun _ => ⟨by decide, ?_⟩⟩⟩
    · rw [nI_leI (by omega) (by omega)] at c
      have : o = slotsS (s 0 0) := by omega
      subst this
      exact k I' L' hF hG hj
    · rw [nI_leI (by omega) (by omega)] at c
      have hp := TB_pow _ hn 0 (Nat.zero_le _)
      rw [TB_0] at hp
      have hlt := hq_lt (n := s 0 0) hN (Nat.zero_le _) (show o < 2 ^ (lastS (s 0 0) - 0) by omega)
      have hlt10 := p10 hn hlt
      have hm : 100 - (nI (slotsS (s 0 0) + o) + 1).toNatClampNeg < 100 - (slotsS (s 0 0) + o) := by
        rw [nI_1, clN (by omega)]; omega
      have fin : ∀ v, v = nI (whoA (xS s) (lastS (s 0 0)) (2 ^ s 0 0 - 1) N o) → ∀ I9, I9 = uI I' 6 (slotsS (s 0 0) + o) v → (∀ r, r ≠ 137 → r ≠ 6 → I9 r = I r) ∧ (∀ t, t < slotsS (s 0 0) → I9 137 (slotsS (s 0 0) + t) = nI (hq (xS s) (lastS (s 0 0)) (2 ^ s 0 0 - 1) N 0 t).1) ∧ ∀ t, t < o + 1 → I9 6 (slotsS (s 0 0) + t) = nI (whoA (xS s) (lastS (s 0 0)) (2 ^ s 0 0 - 1) N t) := by
        intro v hv I9 e9
        refine ⟨fun r q1 q2 => by rw [e9, uI_ne r q2]; exact hF r q1 q2, fun t ht => by rw [e9, uI_ne 137 (by decide)]; exact hS t ht, fun t ht => ?_⟩
        rw [e9]
        show (if _ then _ else _) = _
        by_cases y : t = o
        · rw [if_pos ⟨rfl, by omega⟩, hv, y]
        · rw [if_neg (fun z => y (by omega))]; exact hj t (by omega)
      have w1 : (hq (xS s) (lastS (s 0 0)) (2 ^ s 0 0 - 1) N 0 o).1 = 0 → (10 : Int32) = nI (whoA (xS s) (lastS (s 0 0)) (2 ^ s 0 0 - 1) N o) := fun z => by unfold whoA; rw [if_pos z]; rfl
      have w2 : (hq (xS s) (lastS (s 0 0)) (2 ^ s 0 0 - 1) N 0 o).1 ≠ 0 → nI (pc ((hq (xS s) (lastS (s 0 0)) (2 ^ s 0 0 - 1) N 0 o).1 - 1)) = nI (whoA (xS s) (lastS (s 0 0)) (2 ^ s 0 0 - 1) N o) := fun z => by unfold whoA; rw [if_neg z]
      rw [P0, clN (by omega), hS o (by omega)]
      generalize (hq (xS s) (lastS (s 0 0)) (2 ^ s 0 0 - 1) N 0 o).1 = q at *
      have q0 : nI q = 0 ↔ q = 0 := nI_eq (by omega) (by decide)
      refine ⟨by decide, fun c2 => absurd c2 (nI_ge (show slotsS (s 0 0) + o < 32 by omega) (by decide)), fun _ => ⟨vin _ rfl (show slotsS (s 0 0) + o < 32 by omega) (by decide), fun c2 => ?_, fun c2 => ⟨vin _ rfl (show slotsS (s 0 0) + o < 32 by omega) (by decide), fun I17 e17 => ?_⟩⟩⟩
      · have hq1 : q ≠ 0 := fun z => c2 (q0.mpr z)
        rw [show nI q - 1 = nI (q - 1) from pk_sub (b := 1) (by omega)]
        refine ok_bc (show q - 1 < 1024 by omega) ⟨vin _ rfl (show slotsS (s 0 0) + o < 32 by omega) (by decide), fun I15 e15 => ?_⟩
        obtain ⟨f1, f2, f3⟩ := fin _ (w2 hq1) I15 e15
        exact ⟨⟨rfl, f1, hG, f2, o + 1, by omega, nI_1 _, f3⟩, hm⟩
      · obtain ⟨f1, f2, f3⟩ := fin _ (w1 (q0.mp c2)) I17 e17
        exact ⟨⟨rfl, f1, hG, f2, o + 1, by omega, nI_1 _, f3⟩, hm⟩
end N2
