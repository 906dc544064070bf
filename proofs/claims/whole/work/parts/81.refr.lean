/-! ===== the reference: the number of a draw ===== -/
theorem blk_iff {t r b : Nat} : t / 2 ^ r = b ↔ b * 2 ^ r ≤ t ∧ t < (b + 1) * 2 ^ r := by
  have hp := Nat.two_pow_pos r
  rw [← Nat.le_div_iff_mul_le hp, ← Nat.div_lt_iff_lt_mul hp]
  omega
/-- the seats tell of sets -/
def SE (I : qMI) (n : Nat) (g : Nat → Nat) : Prop := ∀ t, t < slotsS n → ∃ w, I 160 t = nI w ∧ w ≤ 10 ∧ g t = bitW w
def idF (s : Sit) (t : Nat) : Nat := if slotsS (s 0 0) ≤ t then 0 else bitW (s 20 t)
theorem idF_FO {s : Sit} (w : WD s) : FO (s 0 0) (idF s) := by
  have hn := w.2.2.1
  have hv : ∀ t, t < slotsS (s 0 0) → s 20 t < s 0 0 ∨ s 20 t = 10 := fun t ht => by
    rcases w.2.2.2.1 0 t (Nat.zero_le _) (by rw [TB_0]; exact ht) with q | q
    · exact Or.inl q
    · exact Or.inr q.2
  have bit : ∀ t i, (idF s t).testBit i = true → t < slotsS (s 0 0) ∧ s 20 t = i ∧ i ≠ 10 := by
    intro t i h
    unfold idF at h
    by_cases c : slotsS (s 0 0) ≤ t
    · rw [if_pos c, Nat.zero_testBit] at h; cases h
    · rw [if_neg c, bitW_bit] at h
      exact ⟨by omega, h.1, by rw [← h.1]; exact h.2⟩
  refine ⟨fun t => lt_bits fun i hi => ?_, fun t u i h1 h2 => ?_⟩
  · obtain ⟨b1, b2, b3⟩ := bit t i hi
    have := hv t b1
    omega
  · obtain ⟨b1, b2, b3⟩ := bit t i h1
    obtain ⟨c1, c2, c3⟩ := bit u i h2
    exact w.2.2.2.2.2.1 t u b1 c1 (by omega) (by omega)
section RR
variable {d : Nat} {I : qMI} {L : qML} {P : qMP} {W : Wd} {s : Sit}
theorem ok10_sits {f : qMI → qML → qMP → Prop} (hP : LAY P) (k : ∀ I', (∀ r, r ≠ 160 → I' r = I r) → (∀ j, j < 16 → I' 160 j = I 145 (45 + j)) → f I' L P) : Sq (d + 1) mX10_sits SH0 [.ref 144] I L P (KV f) := by
  obtain ⟨g0, g1, g2, g3, g4, g5, g6, g7, g8, g9, g10, g11, g12, g13, g14, g15, g16⟩ := ref_P hP
  refine sp_X10_sits (fun x I' L' P' => L' = L ∧ P' = P ∧ (∀ r, r ≠ 160 → I' r = I r) ∧ ∃ o, x = nI o ∧ o ≤ 16 ∧ ∀ j, j < o → I' 160 j = I 145 (45 + j)) (fun x _ _ _ => 20 - x.toNatClampNeg) ⟨rfl, rfl, fun _ _ => rfl, 0, rfl, Nat.zero_le _, fun j hj => absurd hj (Nat.not_lt_zero j)⟩ ?_
  rintro x I1 L1 P1 ⟨rfl, rfl, hF, o, rfl, ho, hV⟩
  refine ⟨fun c => ?_, fun c => ⟨by decide, ?_⟩⟩
  · have c := (nI_leI (a := 16) (by decide) (by omega)).mp c
    have : o = 16 := by omega
    subst this
    exact k I1 hF hV
  · have c : o < 16 := Nat.lt_of_not_le fun q => c (nI_le (a := 16) q (by omega))
    rw [g0, g15, show (45 : Int32) + nI o = nI (45 + o) from nI_add 45 o, nI_1, clN (p := 45 + o) (by omega), clN (p := o) (by omega), hF 145 (by decide)]
    refine ⟨by decide, v145 _ (by omega), by decide, vin o rfl (show o < 16 from c) (by decide), fun I7 e7 => ⟨⟨rfl, rfl, fun r q => by rw [e7, uI_ne r q]; exact hF r q, o + 1, rfl, c, fun j hj => ?_⟩, ?_⟩⟩
    · rw [e7]
      show (if 160 = 160 ∧ j = o then _ else I1 160 j) = _
      by_cases z : j = o
      · subst z; rw [if_pos ⟨rfl, rfl⟩]
      · rw [if_neg (fun q => z q.2)]; exact hV j (by omega)
    · rw [clN (by omega)]; omega
theorem ok10_setOf {g : Nat → Nat} {r b : Nat} {f : Int32 → qMI → qML → qMP → Prop} (hP : LAY P) (hn : s 0 0 ≤ 10) (hI : SE I (s 0 0) g) (hout : ∀ t, slotsS (s 0 0) ≤ t → g t = 0) (hg : FO (s 0 0) g) (hr : r ≤ lastS (s 0 0)) (hb : b < TB (s 0 0) r) (k : f (nI (setR g r b)) I L P) : Sq (d + 1) mX10_setOf SH0 [.ref 144, .int (nI r), .int (nI b)] I L P (KI f) := by
  obtain ⟨g0, g1, g2, g3, g4, g5, g6, g7, g8, g9, g10, g11, g12, g13, g14, g15, g16⟩ := ref_P hP
  have tt := TB_all _ hn r hr
  have hs := slotsS_in (s 0 0)
  have hl := lastS_le (s 0 0)
  have hhi : (b + 1) * 2 ^ r ≤ slotsS (s 0 0) := by rw [← tt.2.2.1]; exact Nat.mul_le_mul_right _ hb
  have hlo : b * 2 ^ r ≤ (b + 1) * 2 ^ r := Nat.mul_le_mul_right _ (Nat.le_succ b)
  have hp16 : 2 ^ r ≤ 2 ^ 4 := Nat.pow_le_pow_right (by decide) (by omega)
  refine sp_X10_setOf (fun x3 x4 I' L' P' => I' = I ∧ L' = L ∧ P' = P ∧ ∃ m o, x3 = nI m ∧ x4 = nI o ∧ b * 2 ^ r ≤ o ∧ o ≤ (b + 1) * 2 ^ r ∧ ∀ i, m.testBit i = true ↔ ∃ t, b * 2 ^ r ≤ t ∧ t < o ∧ (g t).testBit i = true) (fun _ x4 _ _ _ => 20 - x4.toNatClampNeg) ?_ ?_
  · unfold vc_X10_setOf_0
    rw [shlN (by omega) (by omega)]
    refine ⟨rfl, rfl, rfl, 0, b * 2 ^ r, rfl, rfl, Nat.le_refl _, hlo, fun i => ?_⟩
    rw [Nat.zero_testBit]
    exact ⟨fun q => absurd q (by decide), fun ⟨t, h1, h2, _⟩ => by omega⟩
  · rintro x3 x4 I' L' P' ⟨rfl, rfl, rfl, m, o, rfl, rfl, ho1, ho2, hm⟩
    unfold vc_X10_setOf_1
    rw [nI_1, shlN (a := b + 1) (by omega) (by omega), g15, nI_1, clN (p := o) (by omega)]
    refine ⟨fun c => kI k ?_, fun c => ⟨by decide, by decide, vin o rfl (show o < 16 from ?_) (by decide), ?_⟩⟩
    · have c := (nI_leI (by omega) (by omega)).mp c
      congr 1
      refine bits_eq fun i => ?_
      rw [setR_bit, hm]
      constructor
      · rintro ⟨t, h1, h2⟩
        have := blk_iff.mp h1
        exact ⟨t, this.1, by omega, h2⟩
      · rintro ⟨t, h1, h2, h3⟩
        exact ⟨t, blk_iff.mpr ⟨h1, by omega⟩, h3⟩
    · have c : o < (b + 1) * 2 ^ r := Nat.lt_of_not_le fun q => c (nI_le q (by omega))
      omega
    · have c : o < (b + 1) * 2 ^ r := Nat.lt_of_not_le fun q => c (nI_le q (by omega))
      obtain ⟨w, w1, w2, w3⟩ := hI o (by omega)
      rw [w1]
      have e10 : nI w = 10 ↔ w = 10 := nI_eq (b := 10) (by omega) (by decide)
      have stp : ∀ m', (∀ i, m'.testBit i = true ↔ m.testBit i = true ∨ (g o).testBit i = true) → (I' = I' ∧ L' = L' ∧ P' = P' ∧ ∃ m_1 o_1, nI m' = nI m_1 ∧ nI (o + 1) = nI o_1 ∧ b * 2 ^ r ≤ o_1 ∧ o_1 ≤ (b + 1) * 2 ^ r ∧ ∀ i, m_1.testBit i = true ↔ ∃ t, b * 2 ^ r ≤ t ∧ t < o_1 ∧ (g t).testBit i = true) ∧ 20 - (nI (o + 1)).toNatClampNeg < 20 - o := by
        intro m' hm'
        refine ⟨⟨rfl, rfl, rfl, m', o + 1, rfl, rfl, by omega, c, fun i => ?_⟩, ?_⟩
        · rw [hm', hm]
          constructor
          · rintro (⟨t, h1, h2, h3⟩ | h)
            · exact ⟨t, h1, by omega, h3⟩
            · exact ⟨o, ho1, by omega, h⟩
          · rintro ⟨t, h1, h2, h3⟩
            rcases Nat.lt_succ_iff_lt_or_eq.mp h2 with z | z
            · exact Or.inl ⟨t, h1, z, h3⟩
            · subst z; exact Or.inr h3
        · rw [clN (by omega)]; omega
      refine ⟨fun c2 => ?_, fun c2 => ?_⟩
      · have c2 : w ≠ 10 := fun q => c2 (e10.mpr q)
        rw [bitN (by omega), orN]
        refine stp _ fun i => ?_
        rw [or_bit, w3]
        unfold bitW
        rw [if_neg c2]
      · have c2 := e10.mp c2
        rw [show (0 : Int32) = nI 0 from rfl, orN]
        refine stp _ fun i => ?_
        rw [or_bit, w3]
        unfold bitW
        rw [if_pos c2]
theorem ok10_rank {g : Nat → Nat} {A : Nat → Nat → Nat → Bool} (hP : LAY P) (hn : s 0 0 ≤ 10) (hI : SE I (s 0 0) g) (hout : ∀ t, slotsS (s 0 0) ≤ t → g t = 0) (hg : FO (s 0 0) g) (hR : RW L 154 A (s 0 0)) : ∀ (r d b : Nat) (f : Int64 → qMI → qML → qMP → Prop), r ≤ lastS (s 0 0) → b < TB (s 0 0) r → f (lN (rkS A g r b)) I L P → Sq (r + (d + 3)) mX10_rank SH0 [.ref 144, .int (nI r), .int (nI b)] I L P (KL f)
  | 0, d, b, f, hr, hb, k => sp_X10_rank (fun _ _ _ _ _ _ _ => False) (fun _ _ _ _ _ _ _ => 0) ⟨fun c => absurd rfl c, fun _ => k⟩ (fun _ _ _ _ _ _ _ q => absurd q id)
  | r + 1, d, b, f, hr, hb, k => by
    obtain ⟨g0, g1, g2, g3, g4, g5, g6, g7, g8, g9, -⟩ := ref_P hP
    have hl := lastS_le (s 0 0)
    have tb := TB_half hn hr
    have la := fun f => ok10_rank hP hn hI hout hg hR r d (2 * b) f (by omega) (by omega)
    have lb := fun f => ok10_rank hP hn hI hout hg hR r d (2 * b + 1) f (by omega) (by omega)
    rw [show r + 1 + (d + 3) = (r + (d + 3)) + 1 by omega]
    have hlt := setR_lt hg (r + 1) b
    have h10 := p10 hn hlt
    obtain ⟨x1, x2⟩ : setR g (r + 1) b ^^^ setR g r (2 * b) = setR g r (2 * b + 1) ∧ setR g r (2 * b) ∈ subs (setR g (r + 1) b) := by
      rcases setR_dis hg r b with q | q
      · exact q
      · omega
    obtain ⟨m1, m2⟩ := subs_mem.mp x2
    have hxs := xor_lt m2 hlt
    have hx10 := xor_lt (n := 10) m2 h10
    have y2 := bo4_lt (n := s 0 0) (r := r) (b := 2 * b + 1) (by omega) (by omega)
    have ke : lN (rkS A g (r + 1) b) = (lN (pre (setR g (r + 1) b) (FA A r b (setR g (r + 1) b)) (setR g r (2 * b))) + (lN (rkS A g r (2 * b)) * lN (gc A r (2 * b + 1) (setR g r (2 * b + 1))))) + lN (rkS A g r (2 * b + 1)) := by
      rw [lN_mul, lN_add, lN_add]
      congr 1
      show _ + (_ + _) = _
      omega
    refine sp_X10_rank (fun x3 x4 l5 x7 I' L' P' => I' = I ∧ L' = L ∧ P' = P ∧ x3 = nI (setR g (r + 1) b) ∧ x4 = nI (setR g r (2 * b)) ∧ ∃ o, x7 = nI o ∧ o ≤ setR g r (2 * b) ∧ l5 = lN (smF (fun k => if subB (setR g (r + 1) b) k = true then FA A r b (setR g (r + 1) b) k else 0) o)) (fun _ _ _ x7 _ _ _ => 2000 - x7.toNatClampNeg) ⟨fun _ => ⟨by decide, ?_⟩, fun c => ?_⟩ ?_
    · rw [nI_pred, show (2 : Int32) * nI b = nI (2 * b) from pk_mul 2 b]
      exact ok10_setOf hP hn hI hout hg hr hb (ok10_setOf hP hn hI hout hg (by omega) (by omega) ⟨rfl, rfl, rfl, rfl, rfl, 0, rfl, Nat.zero_le _, rfl⟩)
    · exact absurd (nI_inj (a := r + 1) (b := 0) (by omega) (by decide) c) (by omega)
    · rintro x3 x4 l5 x7 I' L' P' ⟨rfl, rfl, rfl, rfl, rfl, o, rfl, ho, rfl⟩
      refine ⟨fun c => ⟨by decide, ?_⟩, fun c => ⟨by decide, ?_⟩⟩
      · have c := (nI_leI (by omega) (by omega)).mp c
        have : o = setR g r (2 * b) := by omega
        subst this
        rw [smF_pre (by omega), nI_pred, show (2 : Int32) * nI b = nI (2 * b) from pk_mul 2 b, nI_1]
        refine la _ (ok10_blockAt (by omega) ?_)
        rw [g9, m1bits h10 m2, x1, nI_add]
        rw [x1] at hx10 hxs
        rw [clN (p := 1024 * (bo4 r + (2 * b + 1)) + setR g r (2 * b + 1)) (by omega), hR r (2 * b + 1) _ (by omega) (by omega) hxs]
        exact ⟨by decide, vin _ rfl (show _ < 31744 by omega) (by decide), lb _ (kL k ke)⟩
      · have c : o < setR g r (2 * b) := Nat.lt_of_not_le fun q => c (nI_le q (by omega))
        refine ok10_waysBy hP hn hR hr hb hlt (by omega) ⟨⟨rfl, rfl, rfl, rfl, rfl, o + 1, nI_1 o, c, ?_⟩, ?_⟩
        · rw [lN_add, smF_succ]
        · rw [nI_1, clN (by omega), clN (by omega)]; omega
theorem ok10_isDraw {g : Nat → Nat} {f : Int32 → qMI → qML → qMP → Prop} (hP : LAY P) (hG : GE (I 145) s) (we : WE s) (hPR : PR I s) (hI : SE I (s 0 0) g) (hout : ∀ t, slotsS (s 0 0) ≤ t → g t = 0) (hg : FO (s 0 0) g) (k : f (bz (∀ r b, r ≤ lastS (s 0 0) → b < TB (s 0 0) r → okB s r b (setR g r b))) I L P) : Sq (d + 3) mX10_isDraw SH0 [.ref 144] I L P (KI f) := by
  have hn := hG.1
  have hl := lastS_le (s 0 0)
  refine sp_X10_isDraw
    (fun x1 x2 x3 I' L' P' => I' = I ∧ L' = L ∧ P' = P ∧ x2 = nI (lastS (s 0 0)) ∧ ∃ r, x3 = nI r ∧ r ≤ lastS (s 0 0) + 1 ∧ x1 = bz (∀ r' b', r' ≤ lastS (s 0 0) → b' < TB (s 0 0) r' → r' < r → okB s r' b' (setR g r' b')))
    (fun _ _ x3 _ _ _ => (10 - x3.toNatClampNeg) * 100 + 90)
    (fun x1 x2 x3 x4 I' L' P' => I' = I ∧ L' = L ∧ P' = P ∧ x2 = nI (lastS (s 0 0)) ∧ ∃ r b, x3 = nI r ∧ x4 = nI b ∧ r ≤ lastS (s 0 0) ∧ b ≤ TB (s 0 0) r ∧ x1 = bz (∀ r' b', r' ≤ lastS (s 0 0) → b' < TB (s 0 0) r' → (r' < r ∨ (r' = r ∧ b' < b)) → okB s r' b' (setR g r' b')))
    (fun _ _ x3 x4 _ _ _ => (10 - x3.toNatClampNeg) * 100 + 80 - x4.toNatClampNeg) ⟨by decide, ok10_last hP hG ⟨rfl, rfl, rfl, rfl, 0, rfl, Nat.zero_le _, (bz_t fun r' b' _ _ h => absurd h (Nat.not_lt_zero r')).symm⟩⟩ ?_ ?_
  · rintro x1 x2 x3 I' L' P' ⟨rfl, rfl, rfl, rfl, r, rfl, hr, rfl⟩
    refine ⟨fun c => ⟨bz_or, kI k (bz_cg ?_)⟩, fun c => ⟨⟨rfl, rfl, rfl, rfl, r, 0, rfl, rfl, ?_, Nat.zero_le _, bz_cg ?_⟩, ?_⟩⟩
    · have c := (nI_ltI (by omega) (by omega)).mp c
      exact ⟨fun h r' b' h1 h2 _ => h r' b' h1 h2, fun h r' b' h1 h2 => h r' b' h1 h2 (by omega)⟩
    · exact Nat.le_of_not_lt fun q => c (nI_lt q (by omega))
    · exact ⟨fun h r' b' h1 h2 h3 => h r' b' h1 h2 (by omega), fun h r' b' h1 h2 h3 => h r' b' h1 h2 (by omega)⟩
    · rw [cl_0, clN (by omega)]; omega
  · rintro x1 x2 x3 x4 I' L' P' ⟨rfl, rfl, rfl, rfl, r, b, rfl, rfl, hr, hb, rfl⟩
    have tt := TB_all _ hn r hr
    unfold vc_X10_isDraw_2
    rw [pk_sub hr, bitN (by omega), ← TB_pow _ hn r hr, nI_1, nI_1]
    have stp : ∀ v : Int32, b < TB (s 0 0) r → v = bz (∀ r' b', r' ≤ lastS (s 0 0) → b' < TB (s 0 0) r' → (r' < r ∨ (r' = r ∧ b' < b + 1)) → okB s r' b' (setR g r' b')) → (I' = I' ∧ L' = L' ∧ P' = P' ∧ nI (lastS (s 0 0)) = nI (lastS (s 0 0)) ∧ ∃ r_1 b_1, nI r = nI r_1 ∧ nI (b + 1) = nI b_1 ∧ r_1 ≤ lastS (s 0 0) ∧ b_1 ≤ TB (s 0 0) r_1 ∧ v = bz (∀ r' b', r' ≤ lastS (s 0 0) → b' < TB (s 0 0) r' → (r' < r_1 ∨ (r' = r_1 ∧ b' < b_1)) → okB s r' b' (setR g r' b'))) ∧ (10 - (nI r).toNatClampNeg) * 100 + 80 - (nI (b + 1)).toNatClampNeg < (10 - (nI r).toNatClampNeg) * 100 + 80 - (nI b).toNatClampNeg := fun v hb2 hv => by
      refine ⟨⟨rfl, rfl, rfl, rfl, r, b + 1, rfl, rfl, hr, hb2, hv⟩, ?_⟩
      rw [clN (by omega), clN (by omega), clN (by omega)]; omega
    refine ⟨fun c => ⟨⟨rfl, rfl, rfl, rfl, r + 1, rfl, by omega, bz_cg ?_⟩, ?_⟩, fun c => ?_⟩
    · have c := (nI_leI (by omega) (by omega)).mp c
      refine ⟨fun h r' b' h1 h2 h3 => h r' b' h1 h2 ?_, fun h r' b' h1 h2 h3 => h r' b' h1 h2 (by omega)⟩
      by_cases z : r' = r
      · subst z; exact Or.inr ⟨rfl, by omega⟩
      · exact Or.inl (by omega)
    · rw [clN (by omega), clN (by omega), clN (by omega)]; omega
    · have c : b < TB (s 0 0) r := Nat.lt_of_not_le fun q => c (nI_le q (by omega))
      refine ⟨fun c2 => stp 0 c ?_, fun c2 => ⟨by decide, ok10_setOf hP hn hI hout hg hr c (ok10_isAllowed hP hG we hPR (by omega) (by omega) (setR_lt hg r b) ⟨fun c3 => stp 0 c ?_, fun c3 => stp 1 c ?_⟩)⟩⟩
      · have c2 := bz_0.mp c2
        exact (bz_f fun h => c2 fun r' b' h1 h2 h3 => h r' b' h1 h2 (by omega)).symm
      · have c3 := bz_0.mp c3
        exact (bz_f fun h => c3 (h r b hr c (Or.inr ⟨rfl, by omega⟩))).symm
      · have c2 := bz_n0.mp c2
        have c3 := bz_n0.mp c3
        refine (bz_t fun r' b' h1 h2 h3 => ?_).symm
        by_cases z : r' = r ∧ b' = b
        · rw [z.1, z.2]; exact c3
        · exact c2 r' b' h1 h2 (by omega)
end RR
