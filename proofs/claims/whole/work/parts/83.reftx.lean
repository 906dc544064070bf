/-! ===== the reference: texts ===== -/
def finT (d : Nat) (K : Option Value → qMI → qML → qMP → Prop) (x1 x2 x3 x4 : Int32) (I : qMI) (L : qML) (P : qMP) : Prop :=
  ((((I 144 11) = x3) → (∀ Iz0 : qMI, Iz0 = uI I 144 12 x3 → (((shp SH0 (P 144 9)).1 = 20) ∧ ((vp_in x1 (shp SH0 (P 144 9)).2) ∧ (∀ Iz1 : qMI, Iz1 = uI Iz0 (P 144 9) (Int32.toNatClampNeg x1) x4 → (K none Iz1 L P)))))) ∧ ((¬ (I 144 11) = x3) → (Sq d mX10_mostOf SH0 [.int x1] I L P (KI fun rz2 Iz3 Lz4 Pz5 => ((rz2 < x4) → (∀ Iz6 : qMI, Iz6 = uI Iz3 144 12 x3 → (((shp SH0 (Pz5 144 9)).1 = 20) ∧ ((vp_in x1 (shp SH0 (Pz5 144 9)).2) ∧ (∀ Iz7 : qMI, Iz7 = uI Iz6 (Pz5 144 9) (Int32.toNatClampNeg x1) x4 → (K none Iz7 Lz4 Pz5)))))) ∧ ((¬ rz2 < x4) → (((¬ x1 = 2) → (((shp SH0 (Pz5 144 9)).1 = 20) ∧ ((vp_in x1 (shp SH0 (Pz5 144 9)).2) ∧ (∀ Iz8 : qMI, Iz8 = uI Iz3 (Pz5 144 9) (Int32.toNatClampNeg x1) x4 → (K none Iz8 Lz4 Pz5))))) ∧ ((x1 = 2) → (Sq d mX10_isTaken SH0 [.ref 144, .int x4, .int x2] Iz3 Lz4 Pz5 (KI fun rz9 Iz10 Lz11 Pz12 => ((rz9 = 0) → (((shp SH0 (Pz12 144 9)).1 = 20) ∧ ((vp_in x1 (shp SH0 (Pz12 144 9)).2) ∧ (∀ Iz13 : qMI, Iz13 = uI Iz10 (Pz12 144 9) (Int32.toNatClampNeg x1) x4 → (K none Iz13 Lz11 Pz12))))) ∧ ((¬ rz9 = 0) → (∀ Iz14 : qMI, Iz14 = uI Iz10 144 12 x3 → (((shp SH0 (Pz12 144 9)).1 = 20) ∧ ((vp_in x1 (shp SH0 (Pz12 144 9)).2) ∧ (∀ Iz15 : qMI, Iz15 = uI Iz14 (Pz12 144 9) (Int32.toNatClampNeg x1) x4 → (K none Iz15 Lz11 Pz12)))))))))))))))
/-- how the players told so far lie -/
def TO (I : qMI) (s t : Sit) (m : Nat) : Prop := t 0 0 = s 0 0 + m ∧ t 5 0 = s 5 0 ∧ t 6 0 = s 6 0 ∧ (∀ p x, p < s 0 0 → x < 4 → t (1 + x) p = s (1 + x) p) ∧ ∀ j x, j < m → x < 4 → I 150 (4 * j + x) = nI (t (1 + x) (s 0 0 + j))
section RX9
variable {d : Nat} {I : qMI} {L : qML} {P : qMP} {bt : Nat → Nat} {len : Nat} {s t : Sit}
theorem ok10_here {p : Nat} {f : Int32 → qMI → qML → qMP → Prop} (hP : LAY P) (hT : MT I (bt, len)) (hlen : len ≤ 120) (h11 : I 144 11 = nI p) (hp : p ≤ 200) (k : f (ltr bt len p) I L P) : Sq (d + 1) mX10_here SH0 [.ref 144] I L P (KI f) := by
  obtain ⟨g0, g1, g2, g3, g4, -⟩ := ref_P hP
  unfold ltr at k
  refine sp_X10_here ⟨by decide, ?_⟩
  rw [hT.1, h11, g4]
  refine ⟨fun c => kI k ?_, fun c => ⟨by decide, ?_⟩⟩
  · have c : len ≤ p := (nI_leI (by omega) (by omega)).mp c
    rw [if_neg (by omega)]
  · have c : p < len := Nat.lt_of_not_le fun q => c (nI_le (show len ≤ p from q) (by omega))
    rw [if_pos c] at k
    rw [clN (by omega), hT.2 p c]
    exact ⟨vin p rfl (show p < 120 by omega) (by decide), k⟩
theorem ltr_ge {p : Nat} (hb : ∀ i, i < len → 32 ≤ bt i ∧ bt i ≤ 126) : (48 ≤ (ltr bt len p).toInt ∧ (ltr bt len p).toInt ≤ 57) ↔ (p < len ∧ 48 ≤ bt p ∧ bt p ≤ 57) := by
  unfold ltr
  by_cases c : p < len
  · have b := hb p c
    rw [if_pos c, nI_toInt (by omega)]
    omega
  · rw [if_neg c, m1ti]
    omega
theorem ok10_isFigure {p : Nat} {f : Int32 → qMI → qML → qMP → Prop} (hP : LAY P) (hT : MT I (bt, len)) (hlen : len ≤ 120) (hb : ∀ i, i < len → 32 ≤ bt i ∧ bt i ≤ 126) (h11 : I 144 11 = nI p) (hp : p ≤ 200) (k : f (b01 (p < len ∧ 48 ≤ bt p ∧ bt p ≤ 57)) I L P) : Sq (d + 2) mX10_isFigure SH0 [.ref 144] I L P (KI f) := by
  refine sp_X10_isFigure ⟨by decide, ok10_here hP hT hlen h11 hp (ok10_in (y := 48) (z := 57) rfl rfl ⟨b01_or, kI k (b01_cg ?_)⟩)⟩
  rw [ti_48, ti_57]
  exact (ltr_ge hb).symm
theorem ok10_whatOf {p : Nat} {f : Int32 → qMI → qML → qMP → Prop} (hb : ∀ i, i < len → 32 ≤ bt i ∧ bt i ≤ 126) (k : f (match whatR bt len p with | none => -2 | some w => nI w) I L P) : Sq (d + 1) mX10_whatOf SH0 [.int (ltr bt len p)] I L P (KI f) := by
  have key : ∀ c, c < 128 → 1 ≤ c → (ltr bt len p = nI c ↔ p < len ∧ bt p = c) := by
    intro c hc h1
    unfold ltr
    by_cases q : p < len
    · have b := hb p q
      rw [if_pos q]
      constructor
      · intro z; exact ⟨q, nI_inj (by omega) (by omega) z⟩
      · intro z; rw [z.2]
    · rw [if_neg q]
      exact ⟨fun z => absurd z.symm (m1ne (by omega)), fun z => absurd z.1 q⟩
  have r : whatR bt len p = if p < len then whatN (bt p) else none := rfl
  refine sp_X10_whatOf ⟨fun c1 => ⟨fun c2 => ⟨fun c3 => ⟨fun c4 => kI k ?_, fun c4 => kI k ?_⟩, fun c3 => kI k ?_⟩, fun c2 => kI k ?_⟩, fun c1 => kI k ?_⟩
  · by_cases h1 : p < len
    · have n1 : bt p ≠ 99 := fun z => c1 ((key 99 (by decide) (by decide)).mpr ⟨h1, z⟩)
      have n2 : bt p ≠ 114 := fun z => c2 ((key 114 (by decide) (by decide)).mpr ⟨h1, z⟩)
      have n3 : bt p ≠ 115 := fun z => c3 ((key 115 (by decide) (by decide)).mpr ⟨h1, z⟩)
      have n4 : bt p ≠ 120 := fun z => c4 ((key 120 (by decide) (by decide)).mpr ⟨h1, z⟩)
      rw [r, if_pos h1]
      unfold whatN
      rw [if_neg n1, if_neg n2, if_neg n3, if_neg n4]
    · rw [r, if_neg h1]
  · obtain ⟨h1, h2⟩ := (key 120 (by decide) (by decide)).mp c4
    rw [r, if_pos h1, h2]; rfl
  · obtain ⟨h1, h2⟩ := (key 115 (by decide) (by decide)).mp c3
    rw [r, if_pos h1, h2]; rfl
  · obtain ⟨h1, h2⟩ := (key 114 (by decide) (by decide)).mp c2
    rw [r, if_pos h1, h2]; rfl
  · obtain ⟨h1, h2⟩ := (key 99 (by decide) (by decide)).mp c1
    rw [r, if_pos h1, h2]; rfl
theorem ok10_isTaken {z m : Nat} {f : Int32 → qMI → qML → qMP → Prop} (hP : LAY P) (hG : GE (I 145) s) (hTO : TO I s t m) (w : WE t) (hz : z ≤ 99) (k : f (b01 (¬ ∀ q, q < t 0 0 → (0 < z → t 3 q ≠ z))) I L P) : Sq (d + 2) mX10_isTaken SH0 [.ref 144, .int (nI z), .int (nI m)] I L P (KI f) := by
  obtain ⟨g0, g1, g2, g3, g4, g5, -⟩ := ref_P hP
  obtain ⟨t0, t5, t6, tp, tm⟩ := hTO
  have hn := hG.1
  have w1 := w.1
  have e0 : (0 : Int32) < nI z ↔ 0 < z := nI_ltI (a := 0) (by decide) (by omega)
  refine sp_X10_isTaken (fun x3 x4 I' L' P' => I' = I ∧ L' = L ∧ P' = P ∧ ∃ o, x4 = nI o ∧ o ≤ m ∧ x3 = b01 (¬ ∀ q, q < s 0 0 + o → (0 < z → t 3 q ≠ z))) (fun _ x4 _ _ _ => 20 - x4.toNatClampNeg) ⟨by decide, ok10_hasSeed hP hG ⟨rfl, rfl, rfl, 0, rfl, Nat.zero_le _, b01_cg (not_congr ⟨fun h q hq hz0 he => ?_, fun h q hq hz0 he => ?_⟩)⟩⟩ ?_
  · have e3 : t 3 q = s 3 q := tp q 2 (by omega) (by decide)
    exact h q (by omega) ⟨e0.mpr hz0, m2ne (by omega)⟩ (by rw [← e3, he])
  · have e3 : t 3 q = s 3 q := tp q 2 (by omega) (by decide)
    have b := (w.2.2.2.1 q (by omega)).2.2.1
    exact h q (by omega) (e0.mp hz0.1) (by rw [e3]; exact nI_inj (by omega) (by omega) he)
  · rintro x3 x4 I' L' P' ⟨rfl, rfl, rfl, o, rfl, ho, rfl⟩
    refine ⟨fun c => ⟨b01_or, ?_⟩, fun c => ?_⟩
    · have c := (nI_leI (by omega) (by omega)).mp c
      have : o = m := by omega
      subst this
      rw [t0] at k
      exact k
    · have c : o < m := Nat.lt_of_not_le fun q => c (nI_le q (by omega))
      have hm : 20 - (nI o + 1).toNatClampNeg < 20 - (nI o).toNatClampNeg := by
        rw [nI_1, clN (by omega), clN (by omega)]; omega
      have b := (w.2.2.2.1 (s 0 0 + o) (by omega)).2.2.1
      have yes : ((¬ ∀ q, q < s 0 0 + o → (0 < z → t 3 q ≠ z)) ∨ (0 < z ∧ t 3 (s 0 0 + o) = z)) → (1 : Int32) = b01 (¬ ∀ q, q < s 0 0 + (o + 1) → (0 < z → t 3 q ≠ z)) := fun h => by
        refine (b01_t (show ¬ (∀ q, q < s 0 0 + (o + 1) → (0 < z → t 3 q ≠ z)) from fun q => ?_)).symm
        rcases h with h | h
        · exact h fun p hp => q p (by omega)
        · exact q (s 0 0 + o) (by omega) h.1 h.2
      have no : (∀ q, q < s 0 0 + o → (0 < z → t 3 q ≠ z)) → (0 < z → t 3 (s 0 0 + o) ≠ z) → (0 : Int32) = b01 (¬ ∀ q, q < s 0 0 + (o + 1) → (0 < z → t 3 q ≠ z)) := fun h1 h2 => by
        refine (b01_f (show ¬ ¬ (∀ q, q < s 0 0 + (o + 1) → (0 < z → t 3 q ≠ z)) from fun q => q fun p hp => ?_)).symm
        by_cases y : p = s 0 0 + o
        · rw [y]; exact h2
        · exact h1 p (by omega)
      refine ⟨fun c2 => ⟨⟨rfl, rfl, rfl, o + 1, nI_1 o, c, yes (Or.inl (b01_n0.mp c2))⟩, hm⟩, fun c2 => ?_⟩
      have c2 := Classical.byContradiction fun y => b01_0.mp c2 y
      refine ⟨fun c3 => ⟨⟨rfl, rfl, rfl, o + 1, nI_1 o, c, no c2 fun y => ?_⟩, hm⟩, fun c3 => ⟨by decide, ?_⟩⟩
      · have c3 := (nI_leI (b := 0) (by omega) (by decide)).mp c3
        omega
      · have c3 : 0 < z := Nat.lt_of_not_le fun q => c3 ((nI_leI (b := 0) (by omega) (by decide)).mpr q)
        have hv : I' 150 (4 * o + 2) = nI (t 3 (s 0 0 + o)) := tm o 2 c (by decide)
        rw [g5, show (4 : Int32) * nI o + 2 = nI (4 * o + 2) from (congrArg (fun q => q + (2 : Int32)) (pk_mul 4 o)).trans (nI_add (4 * o) 2), clN (p := 4 * o + 2) (by omega), hv]
        refine ⟨by decide, vin _ rfl (show 4 * o + 2 < 40 by omega) (by decide), fun c4 => ⟨⟨rfl, rfl, rfl, o + 1, nI_1 o, c, no c2 fun _ y => c4 (by rw [y])⟩, hm⟩, fun c4 => ⟨⟨rfl, rfl, rfl, o + 1, nI_1 o, c, yes (Or.inr ⟨c3, nI_inj (by omega) (by omega) c4⟩)⟩, hm⟩⟩
/-- behind the figures of a number -/
theorem fin_ok {w m p a v : Nat} {f : qMI → qML → qMP → Prop} (hP : LAY P) (hG : GE (I 145) s) (hTO : TO I s t m) (we : WE t) (hw : w < 4) (hp : p ≤ 130) (ha : a ≤ 130) (hv : v ≤ 99) (h11 : I 144 11 = nI a)
    (k : ∀ I', (∀ r, r ≠ 144 → r ≠ 151 → I' r = I r) → (∀ j, j ≠ 12 → I' 144 j = I 144 j) → (∀ j, I' 151 j = if j = w then nI v else I 151 j) → I' 144 12 = (if a = p ∨ ¬ okV t w v then nI p else I 144 12) → f I' L P) : finT (d + 2) (KV f) (nI w) (nI m) (nI p) (nI v) I L P := by
  obtain ⟨g0, g1, g2, g3, g4, g5, g6, -⟩ := ref_P hP
  have hb : bigW w ≤ 99 := by unfold bigW; split <;> (try split) <;> (try split) <;> omega
  have hin : vp_in (nI w) (shp SH0 151).2 := vin w rfl (show w < 4 from hw) (by decide)
  have bad : (a = p ∨ ¬ okV t w v) → ∀ I5 : qMI, I5 = uI I 144 12 (nI p) → ∀ I8 : qMI, I8 = uI I5 151 w (nI v) → f I8 L P := fun hc I5 e5 I8 e8 => by
    refine k I8 (fun r q1 q2 => by rw [e8, uI_ne r q2, e5, uI_ne r q1]) (fun j q => by rw [e8, uI_ne 144 (by decide), e5]; exact if_neg (fun z => q z.2)) (fun j => ?_) ?_
    · rw [e8, e5]; simp [uI]
    · rw [if_pos hc, e8, uI_ne 144 (by decide), e5]; exact if_pos ⟨rfl, rfl⟩
  have good : ¬ (a = p ∨ ¬ okV t w v) → ∀ I8 : qMI, I8 = uI I 151 w (nI v) → f I8 L P := fun hc I8 e8 => by
    refine k I8 (fun r q1 q2 => by rw [e8, uI_ne r q2]) (fun j q => by rw [e8, uI_ne 144 (by decide)]) (fun j => ?_) ?_
    · rw [e8]; simp [uI]
    · rw [if_neg hc, e8, uI_ne 144 (by decide)]
  unfold finT
  rw [h11, g6, clN (p := w) (by omega)]
  refine ⟨fun c I5 e5 => ⟨by decide, hin, fun I8 e8 => bad (Or.inl (nI_inj (by omega) (by omega) c)) I5 e5 I8 e8⟩, fun c => ok10_mostOf hw ?_⟩
  have c : a ≠ p := fun q => c (by rw [q])
  rw [g6]
  refine ⟨fun c2 I14 e14 => ⟨by decide, hin, fun I17 e17 => bad (Or.inr fun q => ?_) I14 e14 I17 e17⟩, fun c2 => ⟨fun c3 => ⟨by decide, hin, fun I21 e21 => good (fun q => ?_) I21 e21⟩, fun c3 => ok10_isTaken hP hG hTO we hv ?_⟩⟩
  · have c2 := (nI_ltI (by omega) (by omega)).mp c2
    have := q.1
    omega
  · have c2 : ¬ bigW w < v := fun q => c2 (nI_lt q (by omega))
    have c3 : w ≠ 2 := fun q => c3 (by rw [q]; rfl)
    rcases q with q | q
    · exact c q
    · exact q ⟨by omega, fun y => absurd y.1 c3⟩
  · have c2 : ¬ bigW w < v := fun q => c2 (nI_lt q (by omega))
    have c3 : w = 2 := nI_inj (by omega) (by decide) c3
    rw [g6]
    refine ⟨fun c4 => ⟨by decide, hin, fun I29 e29 => good (fun q => ?_) I29 e29⟩, fun c4 I30 e30 => ⟨by decide, hin, fun I33 e33 => bad (Or.inr fun q => ?_) I30 e30 I33 e33⟩⟩
    · have c4 := Classical.byContradiction fun y => b01_0.mp c4 y
      rcases q with q | q
      · exact c q
      · exact q ⟨by omega, fun y q hq => c4 q hq y.2⟩
    · have c4 := b01_n0.mp c4
      exact c4 fun o ho hz => q.2 ⟨c3, hz⟩ o ho
theorem ok10_readsNumber {w m p : Nat} {f : qMI → qML → qMP → Prop} (hP : LAY P) (hG : GE (I 145) s) (hT : MT I (bt, len)) (hlen : len ≤ 120) (hb : ∀ i, i < len → 32 ≤ bt i ∧ bt i ≤ 126) (hTO : TO I s t m) (we : WE t) (hw : w < 4) (hp : p ≤ len) (h11 : I 144 11 = nI p)
    (k0 : numR bt len t p w = none → ∀ I', (∀ r, r ≠ 144 → r ≠ 151 → I' r = I r) → (∀ j, j ≠ 11 → j ≠ 12 → I' 144 j = I 144 j) → I' 144 12 = nI p → f I' L P)
    (k1 : ∀ q, numR bt len t p w = some q → ∀ I', (∀ r, r ≠ 144 → r ≠ 151 → I' r = I r) → (∀ j, j ≠ 11 → I' 144 j = I 144 j) → I' 144 11 = nI q.2 → (∀ j, I' 151 j = if j = w then nI q.1 else I 151 j) → f I' L P) : Sq (d + 3) mX10_readsNumber SH0 [.ref 144, .int (nI w), .int (nI m)] I L P (KV f) := by
  have e3 : nI w = 3 ↔ w = 3 := nI_eq (b := 3) (by omega) (by decide)
  have hTO2 : ∀ I' : qMI, (∀ r, r ≠ 144 → I' r = I r) → TO I' s t m := fun I' h => by
    unfold TO
    rw [h 150 (by decide)]; exact hTO
  -- the end, after j figures
  have stop : ∀ (I1 : qMI) (j v : Nat), (∀ r, r ≠ 144 → I1 r = I r) → (∀ i, i ≠ 11 → I1 144 i = I 144 i) → I1 144 11 = nI (p + j) → p + j ≤ 130 → v ≤ 99 → ((p + j = p ∨ ¬ okV t w v) → numR bt len t p w = none) → (¬ (p + j = p ∨ ¬ okV t w v) → numR bt len t p w = some (v, p + j)) → finT (d + 2) (KV f) (nI w) (nI m) (nI p) (nI v) I1 L P := by
    intro I1 j v hF hV h1 hj hv hno hyes
    refine fin_ok (a := p + j) hP (by rw [hF 145 (by decide)]; exact hG) (hTO2 I1 hF) we hw (by omega) hj hv h1 fun I' f' j' v' c' => ?_
    by_cases c : p + j = p ∨ ¬ okV t w v
    · rw [if_pos c] at c'
      exact k0 (hno c) I' (fun r q1 q2 => by rw [f' r q1 q2, hF r q1]) (fun i q1 q2 => by rw [j' i q2, hV i q1]) c'
    · rw [if_neg c] at c'
      refine k1 _ (hyes c) I' (fun r q1 q2 => by rw [f' r q1 q2, hF r q1]) (fun i q1 => ?_) (by rw [j' 11 (by decide)]; exact h1) (fun i => by rw [v' i, hF 151 (by decide)])
      by_cases z : i = 12
      · subst z; rw [c', hV 12 (by decide)]
      · rw [j' i z, hV i q1]
  refine sp_X10_readsNumber (fun x3 x4 x5 I' L' P' => L' = L ∧ P' = P ∧ x3 = nI p ∧ (∀ r, r ≠ 144 → I' r = I r) ∧ (∀ i, i ≠ 11 → I' 144 i = I 144 i) ∧ ∃ j v, x5 = nI j ∧ x4 = nI v ∧ I' 144 11 = nI (p + j) ∧ ((j = 0 ∧ v = 0) ∨ (j = 1 ∧ figR bt len p = some v) ∨ (j = 2 ∧ w = 3 ∧ ∃ a b, figR bt len p = some a ∧ figR bt len (p + 1) = some b ∧ v = 10 * a + b))) (fun _ _ x5 _ _ _ => 10 - x5.toNatClampNeg) ⟨by decide, ?_⟩ ?_
  · rw [h11]
    exact ⟨rfl, rfl, rfl, fun _ _ => rfl, fun _ _ => rfl, 0, 0, rfl, rfl, h11, Or.inl ⟨rfl, rfl⟩⟩
  · rintro x3 x4 x5 I1 L1 P1 ⟨rfl, rfl, rfl, hF, hV, j, v, rfl, rfl, h1, hc⟩
    have hj2 : j ≤ 2 := by rcases hc with ⟨q, -⟩ | ⟨q, -⟩ | ⟨q, -⟩ <;> omega
    have hv99 : v ≤ 99 := by
      rcases hc with ⟨-, q⟩ | ⟨-, q⟩ | ⟨-, -, a, b, q1, q2, q3⟩
      · omega
      · have := (figR_some q).2.2.2.2; omega
      · have := (figR_some q1).2.2.2.2
        have := (figR_some q2).2.2.2.2
        omega
    have hT1 : MT I1 (bt, len) := hT.congr (hV 10 (by decide)) (hF 149 (by decide))
    have fg : figR bt len (p + j) = if p + j < len ∧ 48 ≤ bt (p + j) ∧ bt (p + j) ≤ 57 then some (bt (p + j) - 48) else none := rfl
    -- a further figure
    have more : (p + j < len ∧ 48 ≤ bt (p + j) ∧ bt (p + j) ≤ 57) → (j = 0 ∨ (j = 1 ∧ w = 3)) → Sq (d + 2) mX10_here SH0 [.ref 144] I1 L1 P1 (KI fun r70 I71 L72 P73 => ∀ I74 : qMI, I74 = uI I71 144 11 ((I71 144 11) + 1) → ((L72 = L1 ∧ P73 = P1 ∧ nI p = nI p ∧ (∀ r, r ≠ 144 → I74 r = I r) ∧ (∀ i, i ≠ 11 → I74 144 i = I 144 i) ∧ ∃ j_1 v_1, nI j + 1 = nI j_1 ∧ ((10 * nI v) + r70) - 48 = nI v_1 ∧ I74 144 11 = nI (p + j_1) ∧ ((j_1 = 0 ∧ v_1 = 0) ∨ (j_1 = 1 ∧ figR bt len p = some v_1) ∨ (j_1 = 2 ∧ w = 3 ∧ ∃ a b, figR bt len p = some a ∧ figR bt len (p + 1) = some b ∧ v_1 = 10 * a + b))) ∧ 10 - (nI j + 1).toNatClampNeg < 10 - (nI j).toNatClampNeg)) := by
      intro hd hw3
      refine ok10_here hP hT1 hlen h1 (by omega) fun I74 e74 => ?_
      rw [h1, nI_1] at e74
      rw [if_pos hd] at fg
      have el : ltr bt len (p + j) = nI (bt (p + j)) := if_pos hd.1
      refine ⟨⟨rfl, rfl, rfl, fun r q => by rw [e74, uI_ne r q]; exact hF r q, fun i q => by rw [e74]; exact (if_neg (fun z => q z.2)).trans (hV i q), j + 1, 10 * v + (bt (p + j) - 48), nI_1 j, ?_, by rw [e74]; exact if_pos ⟨rfl, rfl⟩, ?_⟩, ?_⟩
      · rw [el, show (10 : Int32) * nI v = nI (10 * v) from pk_mul 10 v, nI_add, show nI (10 * v + bt (p + j)) - 48 = nI (10 * v + bt (p + j) - 48) from pk_sub (b := 48) (by omega)]
        congr 1; omega
      · rcases hw3 with q | ⟨q, q3⟩
        · subst q
          rcases hc with ⟨-, y⟩ | ⟨y, -⟩ | ⟨y, -⟩
          · subst y
            right; left
            exact ⟨rfl, by rw [show p = p + 0 from rfl, fg, Nat.mul_zero, Nat.zero_add]⟩
          · omega
          · omega
        · subst q
          rcases hc with ⟨y, -⟩ | ⟨-, y⟩ | ⟨y, -⟩
          · omega
          · right; right
            exact ⟨rfl, q3, v, bt (p + 1) - 48, y, fg, rfl⟩
          · omega
      · rw [nI_1, clN (by omega), clN (by omega)]; omega
    have num1 : ∀ a, figR bt len p = some a → numR bt len t p w = if okV t w a then (if w = 3 then (match figR bt len (p + 1) with | none => some (a, p + 1) | some b => some (10 * a + b, p + 2)) else some (a, p + 1)) else none := fun a ha => by
      unfold numR
      rw [ha]
      rfl
    have num0 : figR bt len p = none → numR bt len t p w = none := fun h => by
      unfold numR
      rw [h]
    have le9 : ∀ a, figR bt len p = some a → w = 3 → okV t w a := fun a ha h3 => by
      have := (figR_some ha).2.2.2.2
      refine ⟨?_, fun y => ?_⟩
      · subst h3
        show a ≤ 99
        omega
      · omega
    have p130 : p + j ≤ 130 := by omega
    refine ⟨fun c => ⟨fun c2 => ⟨by decide, ?_⟩, fun c2 => ⟨by decide, ok10_isFigure hP hT1 hlen hb h1 (by omega) ⟨fun c3 => ?_, fun c3 => more (b01_n0.mp c3) (Or.inl ?_)⟩⟩⟩, fun c => ⟨fun c2 => ⟨by decide, ?_⟩, fun c2 => ⟨by decide, ok10_isFigure hP hT1 hlen hb h1 (by omega) ⟨fun c3 => ?_, fun c3 => more (b01_n0.mp c3) ?_⟩⟩⟩⟩
    · have c : w ≠ 3 := fun q => c (e3.mpr q)
      have c2 := (nI_leI (a := 1) (by decide) (by omega)).mp c2
      rcases hc with ⟨q, -⟩ | ⟨q, y⟩ | ⟨-, q, -⟩
      · omega
      · subst q
        refine stop I1 1 v hF hV h1 p130 hv99 (fun z => ?_) (fun z => ?_)
        · rw [num1 v y, if_neg (by rcases z with z | z; omega; exact z)]
        · rw [num1 v y, if_pos (Classical.byContradiction fun y2 => z (Or.inr y2)), if_neg c]
      · exact absurd q c
    · have c : w ≠ 3 := fun q => c (e3.mpr q)
      have c2 : ¬ 1 ≤ j := fun q => c2 (nI_le (a := 1) q (by omega))
      have : j = 0 := by omega
      subst this
      rw [if_neg (b01_0.mp c3)] at fg
      exact stop I1 0 v hF hV h1 p130 hv99 (fun _ => num0 fg) (fun z => absurd (Or.inl rfl) z)
    · have c2 : ¬ 1 ≤ j := fun q => c2 (nI_le (a := 1) q (by omega))
      omega
    · have c := e3.mp c
      have c2 := (nI_leI (a := 2) (by decide) (by omega)).mp c2
      rcases hc with ⟨q, -⟩ | ⟨q, -⟩ | ⟨q, -, a, b, y1, y2, y3⟩
      · omega
      · omega
      · subst q
        have ok3 : okV t w v := ⟨by subst c; exact hv99, fun y => by omega⟩
        refine stop I1 2 v hF hV h1 p130 hv99 (fun z => ?_) (fun z => ?_)
        · rcases z with z | z
          · omega
          · exact absurd ok3 z
        · rw [num1 a y1, if_pos (le9 a y1 c), if_pos c, y2, y3]
    · have c := e3.mp c
      have c2 : ¬ 2 ≤ j := fun q => c2 (nI_le (a := 2) q (by omega))
      rw [if_neg (b01_0.mp c3)] at fg
      rcases hc with ⟨q, -⟩ | ⟨q, y⟩ | ⟨q, -⟩
      · subst q
        exact stop I1 0 v hF hV h1 p130 hv99 (fun _ => num0 fg) (fun z => absurd (Or.inl rfl) z)
      · subst q
        refine stop I1 1 v hF hV h1 p130 hv99 (fun z => ?_) (fun z => ?_)
        · rcases z with z | z
          · omega
          · exact absurd (le9 v y c) z
        · rw [num1 v y, if_pos (le9 v y c), if_pos c, fg]
      · omega
    · have c := e3.mp c
      have c2 : ¬ 2 ≤ j := fun q => c2 (nI_le (a := 2) q (by omega))
      omega
end RX9
