theorem pc_up : ∀ M, M < 16 → ∀ w, w < 4 → M.testBit w = false → pc (M ||| 2 ^ w) = pc M + 1 ∧ pc M ≤ 3 := by decide +kernel
theorem pc_16 : ∀ M, M < 16 → pc M ≤ 4 := by decide +kernel
section RY
variable {d : Nat} {I : qMI} {L : qML} {P : qMP} {W : Wd} {bt : Nat → Nat} {len : Nat} {s t : Sit}
/-- a fault at q -/
def RPF (I : qMI) (bt : Nat → Nat) (len : Nat) (t : Sit) (p : Nat) : Prop := ∃ q, I 144 12 = nI q ∧ q ≤ len ∧ ((10 ≤ t 0 0 ∧ q = p) ∨ (t 0 0 < 10 ∧ (pl0 bt len t p).2.1 = false ∧ q = (pl0 bt len t p).1))
/-- none so far -/
def RPN (I : qMI) (bt : Nat → Nat) (len : Nat) (t : Sit) (p : Nat) : Prop := I 144 12 = -2 ∧ I 144 11 = nI (pl0 bt len t p).1 ∧ t 0 0 < 10 ∧ (((pl0 bt len t p).2.1 = true ∧ (len ≤ (pl0 bt len t p).1 ∨ bt (pl0 bt len t p).1 = 59)) ∨ ((pl0 bt len t p).2.1 = false ∧ (pl0 bt len t p).1 < len ∧ bt (pl0 bt len t p).1 ≠ 59))
theorem ok10_readsPlayer {m p : Nat} {f : qMI → qML → qMP → Prop} (hP : LAY P) (hG : GE (I 145) s) (hT : MT I (bt, len)) (hlen : len ≤ 120) (hb : ∀ i, i < len → 32 ≤ bt i ∧ bt i ≤ 126) (hTO : TO I s t m) (we : WE t) (hp : p ≤ len) (h11 : I 144 11 = nI p) (h12 : I 144 12 = -2)
    (k : ∀ I', (∀ r, r ≠ 144 → r ≠ 150 → r ≠ 151 → I' r = I r) → (∀ j, j ≠ 11 → j ≠ 12 → I' 144 j = I 144 j) → (∀ j, j < 4 * m → I' 150 j = I 150 j) → (RPF I' bt len t p ∨ (RPN I' bt len t p ∧ ∀ x, x < 4 → I' 150 (4 * m + x) = nI ((pl0 bt len t p).2.2 x))) → f I' L P) : Sq (d + 4) mX10_readsPlayer SH0 [.ref 144, .int (nI m)] I L P (KV f) := by
  obtain ⟨g0, g1, g2, g3, g4, g5, g6, -⟩ := ref_P hP
  have hn := hG.1
  have w1 := we.1
  have t0 := hTO.1
  have hTO2 : ∀ I' : qMI, (∀ r, r ≠ 144 → r ≠ 151 → I' r = I r) → TO I' s t m := fun I' h => by
    unfold TO
    rw [h 150 (by decide) (by decide)]; exact hTO
  have nf : ∀ q, q ≤ 130 → ¬ nI q = -2 := fun q hq => m2ne (by omega)
  refine sp_X10_readsPlayer
    (fun x2 x3 I' L' P' => L' = L ∧ P' = P ∧ x2 = 0 ∧ (∀ r, r ≠ 151 → I' r = I r) ∧ ∃ o, x3 = nI o ∧ o ≤ 4 ∧ ∀ j, j < o → I' 151 j = 0)
    (fun _ x3 _ _ _ => 300 - x3.toNatClampNeg)
    (fun x2 x3 I' L' P' => L' = L ∧ P' = P ∧ (∀ r, r ≠ 144 → r ≠ 151 → I' r = I r) ∧ (∀ j, j ≠ 11 → j ≠ 12 → I' 144 j = I 144 j) ∧ ∃ M, x2 = nI M ∧ M < 16 ∧ (RPF I' bt len t p ∨ (I' 144 12 = -2 ∧ t 0 0 < 10 ∧ ∃ p' fst seen v g, p' ≤ len ∧ I' 144 11 = nI p' ∧ (∀ x, x < 4 → I' 151 x = nI (v x)) ∧ (∀ x, x < 4 → M.testBit x = seen x) ∧ g + pc M = 4 ∧ pl0 bt len t p = plR bt len t (g + 1) fst p' seen v ∧ (fst = true → whatR bt len p' ≠ none))))
    (fun x2 _ I' _ _ => 100 + 10 * (4 - pc x2.toNatClampNeg) + (if I' 144 12 = -2 then 1 else 0))
    (fun x2 x3 I' L' P' => L' = L ∧ P' = P ∧ (∀ r, r ≠ 144 → r ≠ 150 → r ≠ 151 → I' r = I r) ∧ (∀ j, j ≠ 11 → j ≠ 12 → I' 144 j = I 144 j) ∧ (∀ j, j < 4 * m → I' 150 j = I 150 j) ∧ ∃ o, x3 = nI o ∧ o ≤ 4 ∧ ((RPF I' bt len t p ∧ o = 0) ∨ (RPN I' bt len t p ∧ (∀ x, x < 4 → I' 151 x = nI ((pl0 bt len t p).2.2 x)) ∧ ∀ x, x < o → I' 150 (4 * m + x) = nI ((pl0 bt len t p).2.2 x))))
    (fun _ x3 _ _ _ => 20 - x3.toNatClampNeg) ⟨rfl, rfl, rfl, fun _ _ => rfl, 0, rfl, Nat.zero_le _, fun j hj => absurd hj (Nat.not_lt_zero j)⟩ ?_ ?_ ?_
  · rintro x2 x3 I1 L1 P1 ⟨rfl, rfl, rfl, hF, o, rfl, ho, hV⟩
    refine ⟨fun c => ⟨by decide, ?_⟩, fun c => ⟨by decide, ?_⟩⟩
    · have c := (nI_leI (a := 4) (by decide) (by omega)).mp c
      have : o = 4 := by omega
      subst this
      have v1 : I1 145 = I 145 := hF 145 (by decide)
      have h111 : I1 144 11 = nI p := by rw [hF 144 (by decide)]; exact h11
      have h112 : I1 144 12 = -2 := by rw [hF 144 (by decide)]; exact h12
      have hT1 : MT I1 (bt, len) := hT.congr (by rw [hF 144 (by decide)]) (hF 149 (by decide))
      have mu : ∀ I2 : qMI, 100 + 10 * (4 - pc (0 : Int32).toNatClampNeg) + (if I2 144 12 = -2 then 1 else 0) < 300 - 4 := fun I2 => by
        have : (if I2 144 12 = -2 then 1 else 0) ≤ 1 := by split <;> omega
        omega
      rw [g0, cl_0, v1, hG.2.1, nI_add, h111]
      refine ⟨by decide, v145 0 (by decide), fun c2 I6 e6 => ?_, fun c2 => ok10_here hP hT1 hlen h111 (by omega) (ok10_whatOf hb ?_)⟩
      · have c2 : s 0 0 + m = 10 := nI_inj (by omega) (by decide) c2
        refine ⟨⟨rfl, rfl, fun r q1 q2 => by rw [e6, uI_ne r q1]; exact hF r q2, fun j q1 q2 => by rw [e6]; exact (if_neg (fun z => q2 z.2)).trans (by rw [hF 144 (by decide)]), 0, rfl, by decide, Or.inl ⟨p, by rw [e6]; exact if_pos ⟨rfl, rfl⟩, hp, Or.inl ⟨by omega, rfl⟩⟩⟩, ?_⟩
        rw [clN (by omega)]; exact mu I6
      · have c2 : s 0 0 + m ≠ 10 := fun q => c2 (by rw [q]; rfl)
        cases hw : whatR bt len p with
        | none =>
          refine ⟨fun q => absurd q (by decide), fun _ I16 e16 => ⟨⟨rfl, rfl, fun r q1 q2 => by rw [e16, uI_ne r q1]; exact hF r q2, fun j q1 q2 => by rw [e16]; exact (if_neg (fun z => q2 z.2)).trans (by rw [hF 144 (by decide)]), 0, rfl, by decide, Or.inl ⟨p, by rw [e16, h111]; exact if_pos ⟨rfl, rfl⟩, hp, Or.inr ⟨by omega, ?_, ?_⟩⟩⟩, ?_⟩⟩
          · unfold pl0; rw [plR_step (by rintro ⟨q, -⟩; cases q), hw]
          · unfold pl0; rw [plR_step (by rintro ⟨q, -⟩; cases q), hw]
          · rw [clN (by omega)]; exact mu I16
        | some w =>
          have hw4 := (whatR_some hw).2.1
          refine ⟨fun _ => ⟨⟨rfl, rfl, fun r _ q2 => hF r q2, fun j _ _ => by rw [hF 144 (by decide)], 0, rfl, by decide, Or.inr ⟨h112, by omega, p, true, fun _ => false, fun _ => 0, 4, hp, h111, fun x hx => hV x hx, fun x _ => Nat.zero_testBit x, by decide, rfl, fun _ q => by rw [hw] at q; cases q⟩⟩, ?_⟩, fun q => absurd (nI_pos' (by omega)) q⟩
          rw [clN (by omega)]; exact mu I1
    · have c : o < 4 := Nat.lt_of_not_le fun q => c (nI_le (a := 4) q (by omega))
      rw [g6, nI_1, clN (p := o) (by omega)]
      refine ⟨by decide, vin o rfl (show o < 4 from c) (by decide), fun I20 e20 => ⟨⟨rfl, rfl, rfl, fun r q => by rw [e20, uI_ne r q]; exact hF r q, o + 1, rfl, c, fun j hj => ?_⟩, ?_⟩⟩
      · rw [e20]
        show (if 151 = 151 ∧ j = o then _ else I1 151 j) = _
        by_cases z : j = o
        · rw [if_pos ⟨rfl, z⟩]
        · rw [if_neg (fun q => z q.2)]; exact hV j (by omega)
      · rw [clN (by omega)]; omega
  · rintro x2 x3 I1 L1 P1 ⟨rfl, rfl, hF, hV, M, rfl, hM, hc⟩
    have v1 : I1 145 = I 145 := hF 145 (by decide) (by decide)
    have hT1 : MT I1 (bt, len) := hT.congr (hV 10 (by decide) (by decide)) (hF 149 (by decide) (by decide))
    have m34 : 20 - (0 : Int32).toNatClampNeg < 100 + 10 * (4 - pc (nI M).toNatClampNeg) + (if I1 144 12 = -2 then 1 else 0) := by rw [cl_0]; omega
    have toF : RPF I1 bt len t p → ((L1 = L1 ∧ P1 = P1 ∧ (∀ r, r ≠ 144 → r ≠ 150 → r ≠ 151 → I1 r = I r) ∧ (∀ j, j ≠ 11 → j ≠ 12 → I1 144 j = I 144 j) ∧ (∀ j, j < 4 * m → I1 150 j = I 150 j) ∧ ∃ o, (0 : Int32) = nI o ∧ o ≤ 4 ∧ ((RPF I1 bt len t p ∧ o = 0) ∨ (RPN I1 bt len t p ∧ (∀ x, x < 4 → I1 151 x = nI ((pl0 bt len t p).2.2 x)) ∧ ∀ x, x < o → I1 150 (4 * m + x) = nI ((pl0 bt len t p).2.2 x)))) ∧ 20 - (0 : Int32).toNatClampNeg < 100 + 10 * (4 - pc (nI M).toNatClampNeg) + (if I1 144 12 = -2 then 1 else 0)) := fun h => ⟨⟨rfl, rfl, fun r q1 _ q3 => hF r q1 q3, hV, fun j _ => by rw [hF 150 (by decide) (by decide)], 0, rfl, Nat.zero_le _, Or.inl ⟨h, rfl⟩⟩, m34⟩
    refine ⟨by decide, fun c => ?_, fun c => ?_⟩
    · rcases hc with h | ⟨h, -⟩
      · exact toF h
      · rw [h] at c
        exact absurd c (by decide)
    · rcases hc with ⟨q, q1, q2, -⟩ | ⟨h12', ht10, p', fst, seen, v, g, hp', h11', hv, hs, hg, hR, hfst⟩
      · rw [q1] at c
        exact absurd (nI_pos' (by omega)) c
      · refine ok10_here hP hT1 hlen h11' (by omega) (ok10_whatOf hb ?_)
        cases hw : whatR bt len p' with
        | none =>
          have hf : fst = false := by
            cases fst with
            | false => rfl
            | true => exact absurd hw (hfst rfl)
          subst hf
          have hN : RPN I1 bt len t p ∧ ∀ x, x < 4 → I1 151 x = nI ((pl0 bt len t p).2.2 x) := by
            by_cases e : len ≤ p' ∨ bt p' = 59
            · have r : pl0 bt len t p = (p', true, v) := by
                rw [hR]
                show (if false = false ∧ (len ≤ p' ∨ bt p' = 59) then _ else _) = _
                rw [if_pos ⟨rfl, e⟩]
              unfold RPN
              rw [r]
              exact ⟨⟨h12', h11', ht10, Or.inl ⟨rfl, e⟩⟩, hv⟩
            · have r : pl0 bt len t p = (p', false, v) := by
                rw [hR, plR_step (fun q => e q.2), hw]
              unfold RPN
              rw [r]
              exact ⟨⟨h12', h11', ht10, Or.inr ⟨rfl, by show p' < len; omega, fun q => e (Or.inr q)⟩⟩, hv⟩
          exact ⟨fun _ => ⟨⟨rfl, rfl, fun r q1 _ q3 => hF r q1 q3, hV, fun j _ => by rw [hF 150 (by decide) (by decide)], 0, rfl, Nat.zero_le _, Or.inr ⟨hN.1, hN.2, fun x hx => absurd hx (Nat.not_lt_zero x)⟩⟩, m34⟩, fun q => absurd (by decide) q⟩
        | some w =>
          obtain ⟨wl, w4, wn⟩ := whatR_some hw
          have ns : ¬ (fst = false ∧ (len ≤ p' ∨ bt p' = 59)) := by
            rintro ⟨-, q | q⟩
            · omega
            · rw [q, show whatN 59 = none from rfl] at wn; cases wn
          have hR2 := hR.trans (plR_step ns)
          rw [hw] at hR2
          have hR2 : pl0 bt len t p = if seen w = true then (p', false, v) else match numR bt len t (p' + 1) w with | none => (p' + 1, false, v) | some q => plR bt len t g false q.2 (fun x => x == w || seen x) (fun x => if x = w then q.1 else v x) := hR2
          refine ⟨fun q => absurd q (nI_pos (by omega)), fun _ => ok10_here hP hT1 hlen h11' (by omega) (ok10_whatOf hb ?_)⟩
          rw [hw]
          have bit := seen_key M hM w w4
          rw [hs w w4] at bit
          rw [h11', h12']
          refine ⟨fun c2 I21 e21 => ?_, fun c2 I25 e25 => ⟨⟨rfl, rfl, fun r q1 q2 => by rw [e25, uI_ne r q1]; exact hF r q1 q2, fun j q1 q2 => by rw [e25]; exact (if_neg (fun z => q2 z.2)).trans (hV j q1 q2), M, rfl, hM, Or.inl ⟨p', by rw [e25]; exact if_pos ⟨rfl, rfl⟩, hp', Or.inr ⟨ht10, ?_, ?_⟩⟩⟩, ?_⟩⟩
          · have c2 : ¬ seen w = true := fun q => c2 (bit.mpr q)
            rw [if_neg c2] at hR2
            have sb : M.testBit w = false := by rw [hs w w4]; exact Bool.eq_false_iff.mpr c2
            obtain ⟨pu, p3⟩ := pc_up M hM w w4 sb
            obtain ⟨su1, su2⟩ := seen_up hs hM w4
            have f21 : ∀ r, r ≠ 144 → I21 r = I1 r := fun r q => by rw [e21, uI_ne r q]
            have v21 : ∀ j, j ≠ 11 → I21 144 j = I1 144 j := fun j q => by rw [e21]; exact if_neg (fun z => q z.2)
            have hG21 : GE (I21 145) s := by rw [f21 145 (by decide), v1]; exact hG
            have hT21 : MT I21 (bt, len) := hT1.congr (v21 10 (by decide)) (f21 149 (by decide))
            rw [bitN (by omega), orN]
            have mm : ∀ I22 : qMI, 100 + 10 * (4 - pc (nI (M ||| 2 ^ w)).toNatClampNeg) + (if I22 144 12 = -2 then 1 else 0) < 100 + 10 * (4 - pc (nI M).toNatClampNeg) + (if (-2 : Int32) = -2 then 1 else 0) := fun I22 => by
              rw [clN (by omega), clN (by omega), pu, if_pos rfl]
              have : (if I22 144 12 = -2 then 1 else 0) ≤ 1 := by split <;> omega
              omega
            refine ok10_readsNumber hP hG21 hT21 hlen hb (hTO2 I21 fun r q1 q2 => by rw [f21 r q1]; exact hF r q1 q2) we w4 (show p' + 1 ≤ len by omega) (by rw [e21, nI_1]; exact if_pos ⟨rfl, rfl⟩) (fun hnum I22 f22 j22 h22 => ?_) (fun q hnum I22 f22 j22 h22 v22 => ?_)
            · rw [hnum] at hR2
              exact ⟨⟨rfl, rfl, fun r q1 q2 => by rw [f22 r q1 q2, f21 r q1]; exact hF r q1 q2, fun j q1 q2 => by rw [j22 j q1 q2, v21 j q1]; exact hV j q1 q2, M ||| 2 ^ w, rfl, su1, Or.inl ⟨p' + 1, h22, by omega, Or.inr ⟨ht10, by rw [hR2], by rw [hR2]⟩⟩⟩, mm I22⟩
            · rw [hnum] at hR2
              obtain ⟨n1, n2, n3⟩ := numR_some hnum
              obtain ⟨g', rfl⟩ : ∃ g', g = g' + 1 := ⟨g - 1, by omega⟩
              refine ⟨⟨rfl, rfl, fun r q1 q2 => by rw [f22 r q1 q2, f21 r q1]; exact hF r q1 q2, fun j q1 q2 => by rw [j22 j q1, v21 j q1]; exact hV j q1 q2, M ||| 2 ^ w, rfl, su1, Or.inr ⟨by rw [j22 12 (by decide), v21 12 (by decide)]; exact h12', ht10, q.2, false, (fun x => x == w || seen x), (fun x => if x = w then q.1 else v x), g', n3, h22, fun x hx => ?_, su2, by omega, hR2, fun z => by cases z⟩⟩, mm I22⟩
              show I22 151 x = nI (if x = w then q.1 else v x)
              rw [v22 x]
              by_cases z : x = w
              · rw [if_pos z, if_pos z]
              · rw [if_neg z, if_neg z, f21 151 (by decide)]; exact hv x hx
          · have c2 : seen w = true := bit.mp c2
            rw [if_pos c2] at hR2
            rw [hR2]
          · have c2 : seen w = true := bit.mp c2
            rw [if_pos c2] at hR2
            rw [hR2]
          · have : I25 144 12 = nI p' := by rw [e25]; exact if_pos ⟨rfl, rfl⟩
            rw [this, if_neg (nf p' (by omega)), if_pos rfl]
            omega
  · rintro x2 x3 I1 L1 P1 ⟨rfl, rfl, hF, hV, hW, o, rfl, ho, hc⟩
    refine ⟨fun c => ?_, fun c => ⟨by decide, fun c2 => ?_, fun c2 => ?_⟩⟩
    · have c := (nI_leI (a := 4) (by decide) (by omega)).mp c
      have : o = 4 := by omega
      subst this
      rcases hc with ⟨-, q⟩ | ⟨h1, -, h2⟩
      · cases q
      · exact k I1 hF hV hW (Or.inr ⟨h1, h2⟩)
    · rcases hc with ⟨h, -⟩ | ⟨h, -⟩
      · exact k I1 hF hV hW (Or.inl h)
      · rw [h.1] at c2
        exact absurd c2 (by decide)
    · have c : o < 4 := Nat.lt_of_not_le fun q => c (nI_le (a := 4) q (by omega))
      rcases hc with ⟨⟨q, q1, q2, -⟩, -⟩ | ⟨h, hv, hd⟩
      · rw [q1] at c2
        exact absurd (nI_pos' (by omega)) c2
      · have h10 := h.2.2.1
        rw [g5, g6, show (4 : Int32) * nI m + nI o = nI (4 * m + o) from (congrArg (fun q => q + nI o) (pk_mul 4 m)).trans (nI_add (4 * m) o), nI_1, clN (p := o) (by omega), clN (p := 4 * m + o) (by omega), hv o c]
        refine ⟨by decide, vin o rfl (show o < 4 from c) (by decide), by decide, vin _ rfl (show 4 * m + o < 40 by omega) (by decide), fun I8 e8 => ⟨⟨rfl, rfl, fun r q1 q2 q3 => by rw [e8, uI_ne r q2]; exact hF r q1 q2 q3, fun j q1 q2 => by rw [e8, uI_ne 144 (by decide)]; exact hV j q1 q2, fun j hj => by rw [e8]; exact (if_neg (by omega)).trans (hW j hj), o + 1, rfl, c, Or.inr ⟨?_, fun x hx => by rw [e8, uI_ne 151 (by decide)]; exact hv x hx, fun x hx => ?_⟩⟩, ?_⟩⟩
        · unfold RPN at h ⊢
          rw [e8, uI_ne 144 (by decide)]; exact h
        · rw [e8]
          show (if 150 = 150 ∧ 4 * m + x = 4 * m + o then _ else I1 150 _) = _
          by_cases z : x = o
          · subst z; rw [if_pos ⟨rfl, rfl⟩]
          · rw [if_neg (by omega)]; exact hd x (by omega)
        · rw [clN (by omega)]; omega
end RY
