/-! ===== the reference: a draw taken ===== -/
theorem bitF {set o : Nat} (hs : set < 2147483648) (ho : o < 32) : ((nI set >>> (nI o &&& 31)) &&& 1) = 0 ↔ ¬ set.testBit o = true := by
  rw [shrN hs ho, show (1 : Int32) = nI 1 from rfl, andN, Nat.and_one_is_mod, Nat.testBit_eq_decide_div_mod_eq, decide_eq_true_iff]
  refine (nI_eq (b := 0) (by omega) (by decide)).trans ?_
  omega
theorem sub0 {set h : Nat} (hh : h < 1024) : nI h &&& (nI set ^^^ (-1)) = 0 ↔ subB set h = true := by
  rw [show (-1 : Int32) = nI (2 ^ 32 - 1) from by decide, xorN, andN]
  have : h &&& (set ^^^ (2 ^ 32 - 1)) < 1024 := Nat.lt_of_le_of_lt Nat.and_le_left hh
  refine (nI_eq (b := 0) (by omega) (by decide)).trans ?_
  rw [subB_iff]
  constructor
  · intro q i hi
    refine Classical.byContradiction fun z => ?_
    have h32 : i < 10 := bits_lt (n := 10) hh hi
    have : (h &&& (set ^^^ (2 ^ 32 - 1))).testBit i = true := and_bit.mpr ⟨hi, xor_bit.mpr (Or.inr ⟨z, by rw [Nat.testBit_two_pow_sub_one]; exact decide_eq_true (by omega)⟩)⟩
    rw [q, Nat.zero_testBit] at this
    cases this
  · intro q
    refine bits_eq fun i => ?_
    rw [and_bit, xor_bit, Nat.zero_testBit, Nat.testBit_two_pow_sub_one, decide_eq_true_iff]
    refine ⟨fun h => ?_, fun h => by cases h⟩
    have h32 : i < 10 := bits_lt (n := 10) hh h.1
    rcases h.2 with ⟨_, z⟩ | ⟨z, _⟩
    · omega
    · exact absurd (q i h.1) z
section RT
variable {d : Nat} {I : qMI} {L : qML} {P : qMP} {W : Wd} {s : Sit}
theorem ok10_waysBy {r b set h : Nat} {A : Nat → Nat → Nat → Bool} {f : Int64 → qMI → qML → qMP → Prop} (hP : LAY P) (hn : s 0 0 ≤ 10) (hR : RW L 154 A (s 0 0)) (hr : r + 1 ≤ lastS (s 0 0)) (hb : b < TB (s 0 0) (r + 1)) (hs : set < 2 ^ s 0 0) (hh : h < 1024) (k : f (lN (if subB set h = true then FA A r b set h else 0)) I L P) : Sq (d + 2) mX10_waysBy SH0 [.ref 144, .int (nI (r + 1)), .int (nI b), .int (nI set), .int (nI h)] I L P (KL f) := by
  obtain ⟨g0, g1, g2, g3, g4, g5, g6, g7, g8, g9, -⟩ := ref_P hP
  have hl := lastS_le (s 0 0)
  have h10 := p10 hn hs
  have tb := TB_half hn hr
  have x1 := bo4_lt (n := s 0 0) (r := r) (b := 2 * b) (by omega) (by omega)
  have x2 := bo4_lt (n := s 0 0) (r := r) (b := 2 * b + 1) (by omega) (by omega)
  refine sp_X10_waysBy ⟨fun c => ⟨by decide, ?_⟩, fun c => kL k ?_⟩
  · have c := (sub0 hh).mp c
    have hhs := sub_lt c hs
    have hxs := xor_lt c hs
    have hx10 := xor_lt (n := 10) c h10
    rw [if_pos c] at k
    rw [nI_pred, show (2 : Int32) * nI b = nI (2 * b) from pk_mul 2 b, nI_1]
    refine ok10_blockAt (by omega) ?_
    rw [g9, m1bits h10 c, nI_add, clN (p := 1024 * (bo4 r + 2 * b) + h) (by omega), hR r (2 * b) h (by omega) (by omega) hhs]
    refine ⟨by decide, vin _ rfl (show _ < 31744 by omega) (by decide), ok10_blockAt (by omega) ?_⟩
    rw [nI_add, clN (by omega), hR r (2 * b + 1) _ (by omega) (by omega) hxs, lN_mul]
    exact ⟨by decide, vin _ rfl (show _ < 31744 by omega) (by decide), k⟩
  · rw [if_neg (fun q => c ((sub0 hh).mpr q))]
    rfl
theorem ok10_lays {N : Nat} (hP : LAY P) (hn : s 0 0 ≤ 10) (hR : RW L 154 (mS s) (s 0 0)) (hN : N < allS s) : ∀ (r d b : Nat) (I : qMI) (f : qMI → qML → qMP → Prop), r ≤ lastS (s 0 0) → b < TB (s 0 0) r → (∀ I', (∀ c, c ≠ 145 → I' c = I c) → (∀ j, (∀ t, t < slotsS (s 0 0) → t / 2 ^ r = b → j ≠ 45 + t) → I' 145 j = I 145 j) → (∀ t, t < slotsS (s 0 0) → t / 2 ^ r = b → I' 145 (45 + t) = nI (whoS s N t)) → f I' L P) → Sq (r + (d + 3)) mX10_lays SH0 [.ref 144, .int (nI r), .int (nI b), .int (nI (hq (mS s) (lastS (s 0 0)) (2 ^ s 0 0 - 1) N r b).1), .long (lN (hq (mS s) (lastS (s 0 0)) (2 ^ s 0 0 - 1) N r b).2)] I L P (KV f)
  | 0, d, b, I, f, hr, hb, k => by
    obtain ⟨g0, -⟩ := ref_P hP
    rw [TB_0] at hb
    have hs := slotsS_in (s 0 0)
    have hl := lastS_le (s 0 0)
    have lf := leaf_ok hn hN hb
    have ql := hq_lt (A := mS s) (n := s 0 0) hN (Nat.zero_le _) (show b < 2 ^ (lastS (s 0 0) - 0) by rw [Nat.sub_zero, ← slots_pow hn]; exact hb)
    have q10 := p10 hn ql
    generalize (hq (mS s) (lastS (s 0 0)) (2 ^ s 0 0 - 1) N 0 b).1 = set at *
    have fin : ∀ (o : Nat) (I5 : qMI), I5 = uI I 145 (45 + b) (nI o) → o = whoS s N b → f I5 L P := fun o I5 e5 ho => by
      refine k I5 (fun c q => by rw [e5, uI_ne c q]) (fun j hj => by rw [e5]; exact if_neg (fun q => hj b hb (by rw [Nat.pow_zero, Nat.div_one]) q.2)) fun t ht htb => ?_
      rw [Nat.pow_zero, Nat.div_one] at htb
      subst htb
      rw [e5, ← ho]; exact if_pos ⟨rfl, rfl⟩
    refine sp_X10_lays (fun x6 I' L' P' => I' = I ∧ L' = L ∧ P' = P ∧ ∃ o, x6 = nI o ∧ o ≤ 10 ∧ ∀ i, i < o → ¬ set.testBit i = true) (fun x6 _ _ _ => 20 - x6.toNatClampNeg) (fun _ _ _ _ _ => False) (fun _ _ _ _ _ => 0) ⟨fun c => absurd rfl c, fun _ => ⟨rfl, rfl, rfl, 0, rfl, Nat.zero_le _, fun i hi => absurd hi (Nat.not_lt_zero i)⟩⟩ ?_ (fun _ _ _ _ _ q => absurd q id)
    rintro x6 I' L' P' ⟨rfl, rfl, rfl, o, rfl, ho, hno⟩
    refine ⟨fun c => ⟨by decide, ?_⟩, fun c => ⟨fun c2 => ⟨by decide, ?_⟩, fun c2 => ⟨⟨rfl, rfl, rfl, o + 1, nI_1 o, ?_, fun i hi => ?_⟩, ?_⟩⟩⟩
    · have c := (nI_leI (a := 10) (by decide) (by omega)).mp c
      rw [g0, show (45 : Int32) + nI b = nI (45 + b) from nI_add 45 b, clN (by omega)]
      refine ⟨by decide, v145 _ (by omega), fun I5 e5 => fin o I5 e5 ?_⟩
      rcases lf with ⟨l1, l2⟩ | ⟨p, l1, l2, l3⟩
      · rw [l2]; omega
      · exfalso
        refine hno p (by omega) ?_
        rw [l2, Nat.testBit_two_pow_self]
    · have c2 : set.testBit o = true := Classical.byContradiction fun z => c2 ((bitF (by omega) (by omega)).mpr z)
      rw [g0, show (45 : Int32) + nI b = nI (45 + b) from nI_add 45 b, clN (by omega)]
      refine ⟨by decide, v145 _ (by omega), fun I5 e5 => fin o I5 e5 ?_⟩
      rcases lf with ⟨l1, l2⟩ | ⟨p, l1, l2, l3⟩
      · rw [l1, Nat.zero_testBit] at c2; cases c2
      · rw [l2, Nat.testBit_two_pow, decide_eq_true_iff] at c2
        rw [l3]; exact c2.symm
    · exact Nat.lt_of_not_le fun q => c (nI_le (a := 10) q (by omega))
    · have c2 := (bitF (by omega) (by omega)).mp c2
      rcases Nat.lt_succ_iff_lt_or_eq.mp hi with w | w
      · exact hno i w
      · subst w; exact c2
    · have : o < 10 := Nat.lt_of_not_le fun q => c (nI_le (a := 10) q (by omega))
      rw [nI_1, clN (by omega), clN (by omega)]; omega
  | r + 1, d, b, I, f, hr, hb, k => by
    obtain ⟨g0, g1, g2, g3, g4, g5, g6, g7, g8, g9, -⟩ := ref_P hP
    have hl := lastS_le (s 0 0)
    have tb := TB_half hn hr
    have tp := TB_pow _ hn (r + 1) hr
    have hv := hq_val (A := mS s) hN hr (show b < 2 ^ (lastS (s 0 0) - (r + 1)) by rw [← tp]; exact hb)
    have ql := hq_lt (A := mS s) (n := s 0 0) hN hr (show b < 2 ^ (lastS (s 0 0) - (r + 1)) by rw [← tp]; exact hb)
    obtain ⟨h9, x9, y9, d1, d2, d3, d4, d5, d6, d7⟩ := hq_down (A := mS s) (b := b) hr hv.1
    have la := fun I f => ok10_lays hP hn hR hN r d (2 * b) I f (by omega) (by omega)
    have lb := fun I f => ok10_lays hP hn hR hN r d (2 * b + 1) I f (by omega) (by omega)
    simp only [d3] at la
    simp only [d4] at lb
    rw [show r + 1 + (d + 3) = (r + (d + 3)) + 1 by omega]
    have hN2 := hv.1
    have hA : mS s (r + 1) b (hq (mS s) (lastS (s 0 0)) (2 ^ s 0 0 - 1) N (r + 1) b).1 = true := gc_node (fun z => by omega)
    rw [gc_FA hA] at hN2
    have gsm := gcs (A := mS s) (b := b) hn hr ql
    have hN3 := hv.1
    clear hv d3 d4
    generalize (hq (mS s) (lastS (s 0 0)) (2 ^ s 0 0 - 1) N (r + 1) b).1 = set at *
    generalize (hq (mS s) (lastS (s 0 0)) (2 ^ s 0 0 - 1) N (r + 1) b).2 = M at *
    have h10 := p10 hn ql
    obtain ⟨m1, m2⟩ := subs_mem.mp d2
    have hxs := xor_lt m2 ql
    have x2 := bo4_lt (n := s 0 0) (r := r) (b := 2 * b + 1) (by omega) (by omega)
    have hx10 := xor_lt (n := 10) m2 h10
    refine sp_X10_lays (fun _ _ _ _ => False) (fun _ _ _ _ => 0) (fun l6 x8 I' L' P' => I' = I ∧ L' = L ∧ P' = P ∧ ∃ h, x8 = nI h ∧ h ≤ 1024 ∧ smF (fun k => if subB set k = true then FA (mS s) r b set k else 0) h ≤ M ∧ l6 = lN (M - smF (fun k => if subB set k = true then FA (mS s) r b set k else 0) h)) (fun _ x8 _ _ _ => 2000 - x8.toNatClampNeg) ⟨fun _ => ⟨rfl, rfl, rfl, 0, rfl, Nat.zero_le _, Nat.zero_le _, rfl⟩, fun c => ?_⟩ (fun _ _ _ _ q => absurd q id) ?_
    · exact absurd (nI_inj (a := r + 1) (b := 0) (by omega) (by decide) c) (by omega)
    · rintro l6 x8 I' L' P' ⟨rfl, rfl, rfl, h, rfl, hh, hle, rfl⟩
      have hlt : h < 1024 := by
        rcases Nat.lt_or_ge h 1024 with z | z
        · exact z
        · have : h = 1024 := by omega
          subst this
          rw [smF_pre (Nat.le_refl _), pre_all] at hle
          omega
      have fle : (if subB set h = true then FA (mS s) r b set h else 0) ≤ 1099511627776 := by
        by_cases z : subB set h = true
        · rw [if_pos z]
          have := su_mem (f := FA (mS s) r b set) (subs_mem.mpr ⟨hlt, z⟩)
          rw [gc_FA hA] at gsm
          omega
        · rw [if_neg z]; exact Nat.zero_le _
      refine ⟨by decide, ok10_waysBy hP hn hR hr hb ql hlt ⟨fun c => ?_, fun c => ok10_waysBy hP hn hR hr hb ql hlt ?_⟩⟩
      · have c := (pk_lLT (by omega) (by omega)).mp c
        have hsub : subB set h = true := Classical.byContradiction fun z => by
          rw [if_neg z] at c; omega
        rw [if_pos hsub] at c
        rw [smF_pre hh] at hle c ⊢
        have hm : h ∈ subs set := subs_mem.mpr ⟨hlt, hsub⟩
        have hspl := spl_eq hm hle (by omega)
        rw [d1] at hspl
        subst hspl
        have z1 : M - pre set (FA (mS s) r b set) h9 = x9 * gc (mS s) r (2 * b + 1) (set ^^^ h9) + y9 := by omega
        rw [z1, nI_pred, show (2 : Int32) * nI b = nI (2 * b) from pk_mul 2 b, nI_1]
        have gR := gcs (A := mS s) (r := r) (b := 2 * b + 1) hn (by omega) hxs
        have hxy : x9 * gc (mS s) r (2 * b + 1) (set ^^^ h9) + y9 ≤ M := by omega
        refine ok10_blockAt (by omega) ?_
        rw [g9, m1bits h10 hsub, nI_add, clN (p := 1024 * (bo4 r + (2 * b + 1)) + (set ^^^ h9)) (by omega), hR r (2 * b + 1) _ (by omega) (by omega) hxs, pk_lRem (by omega) (by omega) (by omega), pk_lDiv (by omega) (by omega) (by omega)]
        rw [show (x9 * gc (mS s) r (2 * b + 1) (set ^^^ h9) + y9) / gc (mS s) r (2 * b + 1) (set ^^^ h9) = x9 by
          rw [Nat.add_comm, Nat.add_mul_div_right _ _ (by omega), Nat.div_eq_of_lt d7, Nat.zero_add]]
        rw [show (x9 * gc (mS s) r (2 * b + 1) (set ^^^ h9) + y9) % gc (mS s) r (2 * b + 1) (set ^^^ h9) = y9 by
          rw [Nat.add_comm, Nat.add_mul_mod_self_right, Nat.mod_eq_of_lt d7]]
        refine ⟨by decide, vin _ rfl (show _ < 31744 by omega) (by decide), fun q => ?_, la I' _ fun I1 f1 v1 w1 => lb I1 _ fun I2 f2 v2 w2 => k I2 (fun c q => by rw [f2 c q, f1 c q]) (fun j hj => ?_) fun t ht htb => ?_⟩
        · have := (pk_lEQ (b := 0) (by omega) (by decide)).mp q
          omega
        · rw [v2 j fun t ht htb => hj t ht (div_half.mpr (Or.inr htb)), v1 j fun t ht htb => hj t ht (div_half.mpr (Or.inl htb))]
        · rcases div_half.mp htb with z | z
          · rw [v2 _ fun u hu hub q => ?_]
            · exact w1 t ht z
            · have : t = u := by omega
              subst this
              omega
          · exact w2 t ht z
      · have c : ¬ M - smF (fun k => if subB set k = true then FA (mS s) r b set k else 0) h < (if subB set h = true then FA (mS s) r b set h else 0) := fun q => c ((pk_lLT (by omega) (by omega)).mpr q)
        have sc := smF_succ (fun k => if subB set k = true then FA (mS s) r b set k else 0) h
        have sc : smF (fun k => if subB set k = true then FA (mS s) r b set k else 0) (h + 1) = smF (fun k => if subB set k = true then FA (mS s) r b set k else 0) h + (if subB set h = true then FA (mS s) r b set h else 0) := sc
        refine ⟨⟨rfl, rfl, rfl, h + 1, nI_1 h, by omega, by omega, ?_⟩, ?_⟩
        · rw [lN_sub (by omega)]
          congr 1
          omega
        · rw [nI_1, clN (by omega), clN (by omega)]; omega
theorem ok10_takes {N : Nat} {f : qMI → qML → qMP → Prop} (hP : LAY P) (hM : MR I L W) (hO : OKW W) (hR : RW L 154 (mS W.1) (W.1 0 0)) (hn2 : 2 ≤ W.1 0 0) (hN : N < allS W.1) (k : ∀ I', FR I I' L L → MR I' L (remW W (takeS W.1 N)) → f I' L P) : Sq (d + 8) mX10_takes SH0 [.ref 144, .long (lN N)] I L P (KV f) := by
  obtain ⟨g0, -⟩ := ref_P hP
  obtain ⟨hG, hH, hI, hT, hC⟩ := id hM
  have hg := hG.1
  have hn := hg.1
  have hl := lastS_le (W.1 0 0)
  have hsl := slotsS_in (W.1 0 0)
  have h10 := pow10 hn
  have hp0 := Nat.two_pow_pos (W.1 0 0)
  obtain ⟨e0, e5, e6, e7, e8, e9, ep⟩ := takeS_e W.1 N
  refine sp_X10_takes (fun x3 I' L' P' => L' = L ∧ P' = P ∧ (∀ c, c < 144 ∨ 149 ≤ c ∨ c = 146 ∨ c = 148 → I' c = I c) ∧ (∀ j, j ≠ 4 → j ≠ 5 → I' 144 j = I 144 j) ∧ (∀ s', MH I' (remH W.2.2.1.1 W.2.2.1.2.1 s') (remA W.2.2.1.2.1) (remA W.2.2.1.2.1)) ∧ GE (I' 145) W.1 ∧ I' 145 3 = 1 ∧ I' 145 4 = 0 ∧ (∀ t, t < slotsS (W.1 0 0) → I' 145 (45 + t) = nI (whoS W.1 N t)) ∧ ∃ o, x3 = nI o ∧ o ≤ 8 ∧ ∀ i, i < o → I' 145 (76 + i) = -2) (fun x3 _ _ _ => 20 - x3.toNatClampNeg) ⟨by decide, ok10_changes hP hM hO fun I2 f2 j2 h2 => ok10_clears hP fun I5 f5 v5 => ?_⟩ ?_
  · rw [g0, cl_3]
    have v2 : I2 145 = I 145 := f2 145 (by decide) (by decide)
    refine ⟨by decide, v145 3 (by decide), fun I10 e10 => ?_⟩
    have w10 : ∀ j, j < 84 → I10 145 j = if j = 3 then 1 else if j = 4 ∨ 45 ≤ j then 0 else I 145 j := fun j hj => by
      rw [e10]
      show (if 145 = 145 ∧ j = 3 then 1 else I5 145 j) = _
      by_cases z : j = 3
      · rw [if_pos ⟨rfl, z⟩, if_pos z]
      · rw [if_neg (fun q => z q.2), if_neg z, v5 j hj, v2]
        by_cases z2 : j = 4 ∨ 45 ≤ j
        · rw [if_pos z2, if_pos (by omega)]
        · rw [if_neg z2, if_neg (by omega)]
    have hg10 : GE (I10 145) W.1 := hg.congr fun j hj => by rw [w10 j (by omega), if_neg (by omega), if_neg (by omega)]
    have f10 : ∀ c, c ≠ 145 → I10 c = I2 c := fun c q => by rw [e10, uI_ne c q, f5 c q]
    refine ok10_last hP hg10 ?_
    rw [g0, cl_0, hg10.2.1, bitN (by omega), show nI (2 ^ W.1 0 0) - 1 = nI (2 ^ W.1 0 0 - 1) from pk_sub (b := 1) (by omega)]
    have tq := hq_top (A := mS W.1) (l := lastS (W.1 0 0)) (all := 2 ^ W.1 0 0 - 1) (N := N) 0
    have la := ok10_lays hP hn hR hN (lastS (W.1 0 0)) (d + 7 - 3 - lastS (W.1 0 0)) 0 I10
    rw [tq, show lastS (W.1 0 0) + (d + 7 - 3 - lastS (W.1 0 0) + 3) = d + 7 by omega] at la
    refine ⟨by decide, v145 0 (by decide), la _ (Nat.le_refl _) (by rw [TB_last _ hn]; decide) fun I17 f17 v17 w17 => ?_⟩
    have old : ∀ j, j < 45 ∨ 61 ≤ j → I17 145 j = I10 145 j := fun j hj => v17 j fun t ht _ => by omega
    refine ⟨rfl, rfl, fun c hc => by rw [f17 c (by omega), f10 c (by omega), f2 c (by omega) (by omega)], fun j q1 q2 => by rw [f17 144 (by decide), f10 144 (by decide)]; exact j2 j q1 q2, fun s' => (h2 s').congr (by rw [f17 144 (by decide), f10 144 (by decide)]) (by rw [f17 144 (by decide), f10 144 (by decide)]) (by rw [f17 147 (by decide), f10 147 (by decide)]) (by rw [f17 148 (by decide), f10 148 (by decide)]), hg10.congr fun j hj => old j (by omega), by rw [old 3 (by omega), w10 3 (by decide)]; rfl, by rw [old 4 (by omega), w10 4 (by decide)]; rfl, fun t ht => w17 t ht (top_at hn ht), 0, rfl, Nat.zero_le _, fun i hi => absurd hi (Nat.not_lt_zero i)⟩
  · rintro x3 I1 L1 P1 ⟨rfl, rfl, hF, hV, hH1, hg1, i3, i4, hW, o, rfl, ho, hD⟩
    refine ⟨fun c => ?_, fun c => ⟨by decide, ?_⟩⟩
    · have c := (nI_leI (a := 8) (by decide) (by omega)).mp c
      have : o = 8 := by omega
      subst this
      refine k I1 (fun r hr => ⟨hF r (by omega), rfl⟩) ⟨⟨GE_cg hg1 fun x y hx => takeS_lo W.1 N x y hx, i3.trans (congrArg nI e7.symm), i4.trans (congrArg nI e9.symm), fun _ => ⟨fun j hj => ?_, fun r j q1 q2 => ?_, fun j q1 q2 => ?_⟩⟩, hH1 _, hI.congr (hV 6 (by decide) (by decide)) (hF 146 (by omega)), hT.congr (hV 10 (by decide) (by decide)) (hF 149 (by omega)), (hC.congr (hV 17 (by decide) (by decide)) rfl).same fun x y hx => takeS_lo W.1 N x y (by omega)⟩
      · have hj : j < slotsS (takeS W.1 N 0 0) := hj
        rw [e0] at hj
        exact (hW j hj).trans (congrArg nI (ep j).2.2.2.2.2.symm)
      · have q2 : r ≤ takeS W.1 N 9 0 := q2
        rw [e9] at q2
        omega
      · have q2 : j < TB (takeS W.1 N 0 0) (takeS W.1 N 9 0 + 1) := q2
        have := (TB_le8 (takeS W.1 N 0 0) (takeS W.1 N 9 0 + 1) (by omega)).1
        refine (hD j (by omega)).trans ?_
        show -2 = hnd (takeS W.1 N 11 j)
        rw [(ep j).2.2.2.2.1]; rfl
    · have c : o < 8 := Nat.lt_of_not_le fun q => c (nI_le (a := 8) q (by omega))
      rw [g0, show (76 : Int32) + nI o = nI (76 + o) from nI_add 76 o, nI_1, clN (p := 76 + o) (by omega)]
      have f5 : ∀ I5 : qMI, I5 = uI I1 145 (76 + o) (-2) → (∀ r, r ≠ 145 → I5 r = I1 r) ∧ ∀ j, j ≠ 76 + o → I5 145 j = I1 145 j := fun I5 e5 => ⟨fun r q => by rw [e5, uI_ne r q], fun j q => by rw [e5]; exact if_neg fun z => q z.2⟩
      refine ⟨by decide, v145 _ (by omega), fun I5 e5 => ⟨⟨rfl, rfl, fun c hc => by rw [(f5 I5 e5).1 c (by omega)]; exact hF c hc, fun j q1 q2 => by rw [(f5 I5 e5).1 144 (by decide)]; exact hV j q1 q2, fun s' => (hH1 s').congr (by rw [(f5 I5 e5).1 144 (by decide)]) (by rw [(f5 I5 e5).1 144 (by decide)]) ((f5 I5 e5).1 147 (by decide)) ((f5 I5 e5).1 148 (by decide)), hg1.congr fun j hj => (f5 I5 e5).2 j (by omega), by rw [(f5 I5 e5).2 3 (by omega)]; exact i3, by rw [(f5 I5 e5).2 4 (by omega)]; exact i4, fun t ht => by rw [(f5 I5 e5).2 _ (by omega)]; exact hW t ht, o + 1, rfl, c, fun i hi => ?_⟩, ?_⟩⟩
      · by_cases z : i = o
        · subst z; rw [e5]; exact if_pos ⟨rfl, rfl⟩
        · rw [(f5 I5 e5).2 _ (by omega)]; exact hD i (by omega)
      · rw [clN (by omega), clN (by omega)]; omega
theorem lm1 {a : Nat} (h : a ≤ 1099511627776) : (lN a - 1).toInt = (a : Int) - 1 := by
  rcases Nat.eq_zero_or_pos a with z | z
  · subst z; decide
  · rw [show lN a - 1 = lN (a - 1) from lN_sub (b := 1) z, pk_lT (by omega)]
    omega
theorem ok10_take {x : Int64} {f : Int32 → qMI → qML → qMP → Prop} (hP : LAY P) (hM : MR I L W) (hO : OKW W) (k : ∀ I' L', FR I I' L L' → MR I' L' (takeR W x).2 → f (takeR W x).1 I' L' P) : Sq (d + 9) mX10_take SH0 [.ref 144, .long x] I L P (KI f) := by
  have hn := hM.1.1.1
  have ha := allS_le hn
  unfold takeR at k
  refine sp_X10_take ⟨by decide, ok10_areFew hP hM.1.1 ⟨fun c => ok10_allM hP hM hO fun I8 L9 h1 h2 h17 hR => ok10_inL ⟨fun c2 => ?_, fun c2 => ?_⟩, fun c => ?_⟩⟩
  · have c := b01_0.mp c
    have c2 := b01_n0.mp c2
    rw [show (0 : Int64).toInt = 0 from by decide, lm1 ha] at c2
    rw [if_pos (by omega), if_pos ⟨c2.1, by omega⟩] at k
    obtain ⟨N, hN, rfl⟩ := pk_lOf (x := x) (fun q => by rw [Int64.lt_iff_toInt_lt, show (0 : Int64).toInt = 0 from by decide] at q; omega)
    rw [pk_lT hN] at c2
    rw [pk_lT hN, Int.toNat_natCast] at k
    refine ok10_takes hP h2 hO hR (by omega) (show N < allS W.1 by omega) fun I16 f16 M16 => ok10_byes hP M16.1.1 (kI (k I16 L9 (fun r hr => ⟨by rw [(f16 r hr).1, (h1 r hr).1], (h1 r hr).2⟩) M16) ?_)
    have e : takeS W.1 N 0 0 = W.1 0 0 := (takeS_e W.1 N).1
    show nI (slotsS (W.1 0 0) - W.1 0 0) = nI (slotsS (takeS W.1 N 0 0) - takeS W.1 N 0 0)
    rw [e]
  · have c := b01_0.mp c
    have c2 := b01_0.mp c2
    rw [show (0 : Int64).toInt = 0 from by decide, lm1 ha] at c2
    rw [if_pos (by omega), if_neg (fun q => c2 ⟨q.1, by omega⟩)] at k
    exact k I8 L9 h1 h2
  · have c := b01_n0.mp c
    rw [if_neg (by omega)] at k
    exact k I L (fun _ _ => ⟨rfl, rfl⟩) hM
theorem ok10_drawn {x : Int32} {f : Int64 → qMI → qML → qMP → Prop} (hP : LAY P) (hM : MR I L W) (hO : OKW W) (k : ∀ I' L', FR I I' L L' → MR I' L' (drawnR W x).2 → f (drawnR W x).1 I' L' P) : Sq (d + 9) mX10_drawn SH0 [.ref 144, .int x] I L P (KL f) := by
  have hn := hM.1.1.1
  have ha := allS_le hn
  obtain ⟨m1, m2⟩ := mixN_eq x
  have e0 : lN (allS W.1) = 0 ↔ allS W.1 = 0 := pk_lEQ (b := 0) (by omega) (by decide)
  unfold drawnR at k
  refine sp_X10_drawn ⟨by decide, ok10_areFew hP hM.1.1 ⟨fun c => ok10_allM hP hM hO fun I8 L9 h1 h2 _ _ => ⟨fun c2 => ok10_allM hP h2 hO fun I13 L14 h3 h4 h17 hR => ⟨c2, ?_⟩, fun c2 => ?_⟩, fun c => ?_⟩⟩
  · have c := b01_0.mp c
    have c2 : allS W.1 ≠ 0 := fun q => c2 (e0.mpr q)
    rw [if_pos (by omega), if_neg c2] at k
    rw [m1, pk_lRem (by omega) (by omega) (by omega)]
    exact ok10_takes hP h4 hO hR (by omega) (Nat.mod_lt _ (by omega)) fun I17 f17 M17 => k I17 L14 (fun r hr => ⟨by rw [(f17 r hr).1, (h3 r hr).1, (h1 r hr).1], by rw [(h3 r hr).2, (h1 r hr).2]⟩) M17
  · have c := b01_0.mp c
    rw [if_pos (by omega), if_pos (e0.mp c2)] at k
    exact k I8 L9 h1 h2
  · have c := b01_n0.mp c
    rw [if_neg (by omega)] at k
    exact k I L (fun _ _ => ⟨rfl, rfl⟩) hM
end RT
