section RK
variable {d : Nat} {I : qMI} {L : qML} {P : qMP} {W : Wd} {s : Sit}
/-- the rows of the lower blocks, and of this round's up to a place -/
def FI (L : qML) (c : Nat) (A : Nat → Nat → Nat → Bool) (n r b o : Nat) : Prop := ∀ r' b' h, r' ≤ lastS n → b' < TB n r' → h < 2 ^ n → (r' < r ∨ (r' = r ∧ (b' < b ∨ (b' = b ∧ h < o)))) → L c (1024 * (bo4 r' + b') + h) = lN (gc A r' b' h)
def MOK (I : qMI) (P : qMP) (s : Sit) (mo : Nat → Nat → Nat → Prop) : Prop := ∀ (d : Nat) (I' : qMI) (L' : qML) (f : Int32 → qMI → qML → qMP → Prop) (r b set : Nat), PR I' s → (∀ j, j ≠ 22 → I' 144 j = I 144 j) → r ≤ 4 → b < 16 → set < 2 ^ s 0 0 → f (bz (mo r b set)) I' L' P → Sq (d + 1) mX10_isMore SH0 [.ref 144, .int (nI r), .int (nI b), .int (nI set)] I' L' P (KI f)
theorem ok10_reckons {c : Nat} {mo : Nat → Nat → Nat → Prop} {f : Int64 → qMI → qML → qMP → Prop} (hP : LAY P) (hG : GE (I 145) s) (we : WE s) (hc : shp SH0 c = (21, 31744)) (hmo : MOK I P s mo) (k : ∀ I' L', (∀ r, r ≠ 144 → (r < 152 ∨ 160 ≤ r) → I' r = I r) → (∀ j, j ≠ 22 → I' 144 j = I 144 j) → (∀ r, r ≠ c → L' r = L r) → RW L' c (mA s mo) (s 0 0) → f (lN (gc (mA s mo) (lastS (s 0 0)) 0 (2 ^ s 0 0 - 1))) I' L' P) : Sq (d + 4) mX10_reckons SH0 [.ref 144, .ref c] I L P (KL f) := by
  obtain ⟨g0, -⟩ := ref_P hP
  have hn := hG.1
  have hl := lastS_le (s 0 0)
  have h10 := pow10 hn
  have hp0 := Nat.two_pow_pos (s 0 0)
  refine sp_X10_reckons
    (fun x2 x3 I' L' P' => P' = P ∧ (∀ r, r ≠ 144 → (r < 152 ∨ 160 ≤ r) → I' r = I r) ∧ (∀ j, j ≠ 22 → I' 144 j = I 144 j) ∧ PR I' s ∧ (∀ r, r ≠ c → L' r = L r) ∧ x2 = nI (lastS (s 0 0)) ∧ ∃ r, x3 = nI r ∧ r ≤ lastS (s 0 0) + 1 ∧ FI L' c (mA s mo) (s 0 0) r 0 0)
    (fun _ x3 _ _ _ => (10 - x3.toNatClampNeg) * 100000 + 90000)
    (fun x2 x3 x4 I' L' P' => P' = P ∧ (∀ r, r ≠ 144 → (r < 152 ∨ 160 ≤ r) → I' r = I r) ∧ (∀ j, j ≠ 22 → I' 144 j = I 144 j) ∧ PR I' s ∧ (∀ r, r ≠ c → L' r = L r) ∧ x2 = nI (lastS (s 0 0)) ∧ ∃ r b, x3 = nI r ∧ x4 = nI b ∧ r ≤ lastS (s 0 0) ∧ b ≤ TB (s 0 0) r ∧ FI L' c (mA s mo) (s 0 0) r b 0)
    (fun _ x3 x4 _ _ _ => (10 - x3.toNatClampNeg) * 100000 + 80000 - x4.toNatClampNeg * 2000)
    (fun x2 x3 x4 x5 I' L' P' => P' = P ∧ (∀ r, r ≠ 144 → (r < 152 ∨ 160 ≤ r) → I' r = I r) ∧ (∀ j, j ≠ 22 → I' 144 j = I 144 j) ∧ PR I' s ∧ (∀ r, r ≠ c → L' r = L r) ∧ x2 = nI (lastS (s 0 0)) ∧ ∃ r b o, x3 = nI r ∧ x4 = nI b ∧ x5 = nI o ∧ r ≤ lastS (s 0 0) ∧ b < TB (s 0 0) r ∧ o ≤ 2 ^ s 0 0 ∧ FI L' c (mA s mo) (s 0 0) r b o)
    (fun _ x3 x4 x5 _ _ _ => (10 - x3.toNatClampNeg) * 100000 + 79999 - x4.toNatClampNeg * 2000 - x5.toNatClampNeg)
    ⟨by decide, ok10_prepares hP hG we fun I2 f2 j2 R2 => ok10_last hP (by rw [f2 145 (by decide) (by decide)]; exact hG) ⟨rfl, f2, j2, R2, fun _ _ => rfl, rfl, 0, rfl, Nat.zero_le _, fun r' b' h _ _ _ q => by omega⟩⟩ ?_ ?_ ?_
  · rintro x2 x3 I1 L1 P1 ⟨rfl, hF, hV, hR, hL, rfl, r, rfl, hr, hT⟩
    have hG1 : GE (I1 145) s := by rw [hF 145 (by decide) (by decide)]; exact hG
    refine ⟨fun c1 => ok10_blockAt (b := 0) (by omega) ⟨by decide, ?_⟩, fun c1 => ⟨⟨rfl, hF, hV, hR, hL, rfl, r, 0, rfl, rfl, ?_, Nat.zero_le _, hT⟩, ?_⟩⟩
    · have c1 := (nI_ltI (by omega) (by omega)).mp c1
      have t1 := TB_last _ hn
      have x1 := bo4_lt (n := s 0 0) (r := lastS (s 0 0)) (b := 0) (by omega) (by omega)
      rw [g0, cl_0, hG1.2.1, bitN (by omega), nI_add, show nI (1024 * (bo4 (lastS (s 0 0)) + 0) + 2 ^ s 0 0) - 1 = nI (1024 * (bo4 (lastS (s 0 0)) + 0) + 2 ^ s 0 0 - 1) from pk_sub (b := 1) (by omega), hc, clN (by omega)]
      refine ⟨by decide, v145 0 (by decide), rfl, vin _ rfl (by show _ < 31744; omega) (by decide), kL (k I1 L1 hF hV hL fun r' b' h q1 q2 q3 => hT r' b' h q1 q2 q3 (Or.inl (by omega))) ?_⟩
      rw [← hT (lastS (s 0 0)) 0 (2 ^ s 0 0 - 1) (Nat.le_refl _) (by omega) (by omega) (Or.inl (by omega))]
      congr 1
      omega
    · exact Nat.le_of_not_lt fun q => c1 (nI_lt q (by omega))
    · rw [cl_0, clN (by omega)]; omega
  · rintro x2 x3 x4 I1 L1 P1 ⟨rfl, hF, hV, hR, hL, rfl, r, b, rfl, rfl, hr, hb, hT⟩
    have tt := TB_all _ hn r hr
    unfold vc_X10_reckons_2
    rw [pk_sub hr, bitN (by omega), ← TB_pow _ hn r hr]
    refine ⟨fun c1 => ⟨⟨rfl, hF, hV, hR, hL, rfl, r + 1, nI_1 r, by omega, fun r' b' h q1 q2 q3 q => ?_⟩, ?_⟩, fun c1 => ⟨⟨rfl, hF, hV, hR, hL, rfl, r, b, 0, rfl, rfl, rfl, hr, ?_, Nat.zero_le _, hT⟩, ?_⟩⟩
    · have c1 := (nI_leI (by omega) (by omega)).mp c1
      refine hT r' b' h q1 q2 q3 ?_
      by_cases z : r' = r
      · subst z; exact Or.inr ⟨rfl, Or.inl (by omega)⟩
      · exact Or.inl (by omega)
    · rw [nI_1, clN (by omega), clN (by omega), clN (by omega)]; omega
    · exact Nat.lt_of_not_le fun q => c1 (nI_le q (by omega))
    · rw [cl_0, clN (by omega), clN (by omega)]; omega
  · rintro x2 x3 x4 x5 I1 L1 P1 ⟨rfl, hF, hV, hR, hL, rfl, r, b, o, rfl, rfl, rfl, hr, hb, ho, hT⟩
    have tt := TB_all _ hn r hr
    have hG1 : GE (I1 145) s := by rw [hF 145 (by decide) (by decide)]; exact hG
    refine ⟨by decide, ?_⟩
    rw [g0, cl_0, hG1.2.1, bitN (o := s 0 0) (by omega)]
    refine ⟨by decide, v145 0 (by decide), fun c1 => ⟨⟨rfl, hF, hV, hR, hL, rfl, r, b + 1, rfl, nI_1 b, hr, hb, fun r' b' h q1 q2 q3 q => ?_⟩, ?_⟩, fun c1 => ?_⟩
    · have c1 := (nI_leI (by omega) (by omega)).mp c1
      refine hT r' b' h q1 q2 q3 ?_
      rcases q with q | ⟨q, q4⟩
      · exact Or.inl q
      · right
        refine ⟨q, ?_⟩
        by_cases z : b' = b
        · exact Or.inr ⟨z, by omega⟩
        · exact Or.inl (by omega)
    · rw [nI_1, clN (by omega), clN (by omega), clN (by omega), clN (by omega)]; omega
    · have c1 : o < 2 ^ s 0 0 := Nat.lt_of_not_le fun q => c1 (nI_le q (by omega))
      have x1 := bo4_lt (n := s 0 0) (r := r) (b := b) (by omega) hb
      have fin : ∀ (v : Int64) (L16 : qML), L16 = uL L1 c (1024 * (bo4 r + b) + o) v → v = lN (gc (mA s mo) r b o) → (P1 = P1 ∧ (∀ r, r ≠ 144 → (r < 152 ∨ 160 ≤ r) → I1 r = I r) ∧ (∀ j, j ≠ 22 → I1 144 j = I 144 j) ∧ PR I1 s ∧ (∀ r, r ≠ c → L16 r = L r) ∧ nI (lastS (s 0 0)) = nI (lastS (s 0 0)) ∧ ∃ r_1 b_1 o_1, nI r = nI r_1 ∧ nI b = nI b_1 ∧ nI o + 1 = nI o_1 ∧ r_1 ≤ lastS (s 0 0) ∧ b_1 < TB (s 0 0) r_1 ∧ o_1 ≤ 2 ^ s 0 0 ∧ FI L16 c (mA s mo) (s 0 0) r_1 b_1 o_1) ∧ (10 - (nI r).toNatClampNeg) * 100000 + 79999 - (nI b).toNatClampNeg * 2000 - (nI o + 1).toNatClampNeg < (10 - (nI r).toNatClampNeg) * 100000 + 79999 - (nI b).toNatClampNeg * 2000 - (nI o).toNatClampNeg := by
        intro v L16 e16 hv
        refine ⟨⟨rfl, hF, hV, hR, fun r q => by rw [e16, uL_ne r q]; exact hL r q, rfl, r, b, o + 1, rfl, rfl, nI_1 o, hr, hb, c1, fun r' b' h q1 q2 q3 q => ?_⟩, ?_⟩
        · rw [e16]
          show (if c = c ∧ 1024 * (bo4 r' + b') + h = 1024 * (bo4 r + b) + o then v else L1 c _) = _
          by_cases z : 1024 * (bo4 r' + b') + h = 1024 * (bo4 r + b) + o
          · obtain ⟨z1, z2⟩ := bo4_inj (n := s 0 0) (r := r') (q := r) (b := b') (c := b) (by omega) (by omega) q2 hb (by omega)
            subst z1
            subst z2
            rw [if_pos ⟨rfl, z⟩, hv, show h = o by omega]
          · rw [if_neg (fun y => z y.2)]
            refine hT r' b' h q1 q2 q3 ?_
            rcases q with q | ⟨y1, q4⟩
            · exact Or.inl q
            · right
              refine ⟨y1, ?_⟩
              rcases q4 with q4 | ⟨y2, q4⟩
              · exact Or.inl q4
              · subst y1
                subst y2
                exact Or.inr ⟨rfl, by omega⟩
        · rw [nI_1, clN (by omega), clN (by omega), clN (by omega), clN (by omega)]; omega
      have hin : vp_in (nI (1024 * (bo4 r + b) + o)) 31744 := vin _ rfl (by omega) (by decide)
      refine ok10_isAllowed hP hG1 we hR (by omega) (by omega) c1 ⟨fun c2 => ok10_blockAt (by omega) ?_, fun c2 => hmo _ I1 L1 _ r b o hR hV (by omega) (by omega) c1 ⟨fun c3 => ok10_blockAt (by omega) ?_, fun c3 => ok10_blockAt (by omega) ⟨fun c4 => ?_, fun c4 => ?_⟩⟩⟩
      · rw [hc, nI_add, clN (p := 1024 * (bo4 r + b) + o) (by omega)]
        refine ⟨rfl, hin, fun L16 e16 => fin 0 L16 e16 ?_⟩
        rw [gc_0 (A := mA s mo) fun q => bz_0.mp c2 (bo_iff.mp q).1]; rfl
      · rw [hc, nI_add, clN (p := 1024 * (bo4 r + b) + o) (by omega)]
        refine ⟨rfl, hin, fun L16 e16 => fin 0 L16 e16 ?_⟩
        rw [gc_0 (A := mA s mo) fun q => bz_0.mp c3 (bo_iff.mp q).2]; rfl
      · have hA : mA s mo r b o = true := bo_iff.mpr ⟨bz_n0.mp c2, bz_n0.mp c3⟩
        have c4 : r ≠ 0 := fun q => c4 (by rw [q]; rfl)
        obtain ⟨r0, rfl⟩ : ∃ r0, r = r0 + 1 := ⟨r - 1, by omega⟩
        refine ok10_sumOf hn hc hr hb c1 (fun b' h q1 q2 => hT r0 b' h (by omega) q1 q2 (Or.inl (by omega))) ?_
        rw [hc, nI_add, clN (p := 1024 * (bo4 (r0 + 1) + b) + o) (by omega)]
        exact ⟨rfl, hin, fun L16 e16 => fin _ L16 e16 (by rw [gc_step hA])⟩
      · have hA : mA s mo r b o = true := bo_iff.mpr ⟨bz_n0.mp c2, bz_n0.mp c3⟩
        have c4 : r = 0 := nI_inj (by omega) (by decide) c4
        subst c4
        rw [hc, nI_add, clN (p := 1024 * (bo4 0 + b) + o) (by omega)]
        refine ⟨rfl, hin, fun L16 e16 => fin 1 L16 e16 ?_⟩
        unfold gc
        rw [if_pos hA]; rfl
end RK
