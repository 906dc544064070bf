theorem mk_t {f : Nat → Bool} {o : Nat} (h : f o = true) : mk f (o + 1) = mk f o ||| 2 ^ o := by
  show mk f o ||| (if f o = true then 2 ^ o else 0) = _
  rw [if_pos h]
theorem mk_f {f : Nat → Bool} {o : Nat} (h : f o = false) : mk f (o + 1) = mk f o := by
  show mk f o ||| (if f o = true then 2 ^ o else 0) = _
  rw [h, if_neg (by decide), Nat.or_zero]
theorem mkV_t {s : Sit} {a v o : Nat} (h : s a o = v) : mkV s a v (o + 1) = mkV s a v o ||| 2 ^ o := mk_t (decide_eq_true h)
theorem mkV_f {s : Sit} {a v o : Nat} (h : s a o ≠ v) : mkV s a v (o + 1) = mkV s a v o := mk_f (decide_eq_false h)
theorem bitN {o : Nat} (h : o < 16) : (1 : Int32) <<< (nI o &&& 31) = nI (2 ^ o) := by
  have e1 := shlN (a := 1) (k := o) (by omega) (by
    have : 2 ^ o ≤ 2 ^ 16 := Nat.pow_le_pow_right (by decide) (by omega)
    omega)
  rw [Nat.one_mul] at e1
  exact e1
section R2
variable {d : Nat} {sh : List qSh} {I : qMI} {L : qML} {P : qMP} {a e : Nat} {s : Sit}
/-- groups laid so far: those of values below v -/
def AG (I I' : qMI) (P : qMP) (a : Nat) (s : Sit) (wh lv c c' v : Nat) : Prop := (∀ r, r ≠ a → r ≠ P a 3 → r ≠ P a 4 → I' r = I r) ∧ (∀ j, j ≠ 5 → I' a j = I a j) ∧ c ≤ c' ∧ c' + 1 ≤ c + v ∧ I' a 5 = nI c' ∧ (∀ i, i < c → I' (P a 3) i = I (P a 3) i ∧ I' (P a 4) i = I (P a 4) i) ∧ (∀ i, c ≤ i → i < c' → 1 ≤ lv ∧ I' (P a 4) i = nI lv ∧ ∃ u, 1 ≤ u ∧ I' (P a 3) i = nI (mkV s (1 + wh) u (s 0 0))) ∧ (∀ u, 1 ≤ u → u < v → 1 ≤ lv → 2 ≤ pc (mkV s (1 + wh) u (s 0 0)) → ∃ i, c ≤ i ∧ i < c' ∧ I' (P a 3) i = nI (mkV s (1 + wh) u (s 0 0)))
theorem AG.more {I I' : qMI} {P : qMP} {wh lv c c' v : Nat} (h : AG I I' P a s wh lv c c' v) (q : 1 ≤ lv → 2 ≤ pc (mkV s (1 + wh) v (s 0 0)) → False) : AG I I' P a s wh lv c c' (v + 1) := by
  obtain ⟨b1, b2, b3, b4, b5, b6, b7, b8⟩ := h
  refine ⟨b1, b2, b3, by omega, b5, b6, b7, fun u u1 u2 u3 u4 => ?_⟩
  rcases Nat.lt_succ_iff_lt_or_eq.mp u2 with z | rfl
  · exact b8 u u1 z u3 u4
  · exact (q u3 u4).elim
def bigV (wh : Nat) : Nat := if wh = 0 then 5 else 3
theorem ES.shpne {I : qMI} {P : qMP} (h : ES sh I P e s) (ha : RSh sh P a) : e ≠ a ∧ e ≠ P a 3 ∧ e ≠ P a 4 ∧ P e 3 ≠ a ∧ P e 3 ≠ P a 3 ∧ P e 3 ≠ P a 4 ∧ P a 3 ≠ a ∧ P a 4 ≠ a := by
  obtain ⟨a1, a2, -⟩ := h
  obtain ⟨b1, b3, b4, b5⟩ := ha
  refine ⟨fun q => ?_, fun q => ?_, fun q => ?_, fun q => ?_, fun q => ?_, fun q => ?_, fun q => ?_, fun q => ?_⟩
  · rw [q, b1] at a1; exact absurd a1 (by decide)
  · rw [q, b3] at a1; exact absurd a1 (by decide)
  · rw [q, b4] at a1; exact absurd a1 (by decide)
  · rw [q] at a2; rw [a2] at b1; exact absurd b1 (by decide)
  · rw [q, b3] at a2; exact absurd a2 (by decide)
  · rw [q, b4] at a2; exact absurd a2 (by decide)
  · rw [q] at b3; rw [b3] at b1; exact absurd b1 (by decide)
  · rw [q] at b4; rw [b4] at b1; exact absurd b1 (by decide)
theorem ok_addGroups {wh lv c : Nat} {f : qMI → qML → qMP → Prop} (h : ES sh I P e s) (ha : RSh sh P a) (hw : wh < 2) (hlv : lv ≤ 4) (hc : I a 5 = nI c) (hc8 : c + bigV wh ≤ 8) (k : ∀ I' c', AG I I' P a s wh lv c c' (bigV wh + 1) → f I' L P) : Sq (d + 3) mX5_addGroups sh [.ref a, .ref e, .int (nI wh), .int (nI lv)] I L P (KV f) := by
  obtain ⟨n1, n2, n3, n4, n5, n6, n7, n8⟩ := h.shpne ha
  obtain ⟨b1, b3, b4, b5⟩ := id ha
  have hn : s 0 0 ≤ 10 := h.2.2.2.2.2.2.1
  have hb : bigV wh ≤ 5 := by unfold bigV; split <;> omega
  have hES : ∀ {I' : qMI} {c' v : Nat}, AG I I' P a s wh lv c c' v → ES sh I' P e s := fun q => h.congr (q.1 _ n1 n2 n3) (q.1 _ n4 n5 n6) rfl
  have hlg : lgst (nI wh) = nI (bigV wh) := by
    have : wh = 0 ∨ wh = 1 := by omega
    rcases this with rfl | rfl <;> decide
  refine sp_X5_addGroups (fun x I' L' P' => L' = L ∧ P' = P ∧ ∃ v c', 1 ≤ v ∧ v ≤ bigV wh + 1 ∧ x = nI v ∧ AG I I' P a s wh lv c c' v) (fun x _ _ _ => (20 - x.toNatClampNeg) * 20 + 19) (fun x y z I' L' P' => L' = L ∧ P' = P ∧ ∃ v c' o, 1 ≤ lv ∧ 1 ≤ v ∧ v ≤ bigV wh ∧ x = nI v ∧ AG I I' P a s wh lv c c' v ∧ o ≤ s 0 0 ∧ z = nI o ∧ y = nI (mkV s (1 + wh) v o)) (fun x _ z _ _ _ => (20 - x.toNatClampNeg) * 20 + (15 - z.toNatClampNeg)) ⟨rfl, rfl, 1, c, Nat.le_refl 1, by omega, rfl, fun _ _ _ _ => rfl, fun _ _ => rfl, Nat.le_refl c, Nat.le_refl _, hc, fun _ _ => ⟨rfl, rfl⟩, fun i i1 i2 => by omega, fun u u1 u2 => by omega⟩ ?_ ?_
  · rintro x I' L' P' ⟨rfl, rfl, v, c', hv1, hv2, rfl, hA⟩
    refine ⟨fun c1 => ?_, fun c1 => ok_largest ?_⟩
    · rw [show (0 : Int32) = nI 0 from rfl, nI_leI (by omega) (by omega)] at c1
      refine k I' c' ?_
      obtain ⟨g1, g2, g3, g4, g5, g6, g7, g8⟩ := hA
      exact ⟨g1, g2, g3, by omega, g5, g6, g7, fun u _ _ u3 => by omega⟩
    · rw [show (0 : Int32) = nI 0 from rfl, nI_leI (by omega) (by omega)] at c1
      rw [hlg]
      refine ⟨fun c2 => ?_, fun c2 => ⟨⟨rfl, rfl, v, c', 0, by omega, hv1, ?_, rfl, hA, Nat.zero_le _, rfl, rfl⟩, ?_⟩⟩
      · rw [nI_ltI (by omega) (by omega)] at c2
        have : v = bigV wh + 1 := by omega
        rw [this] at hA
        exact k I' c' hA
      · rw [nI_ltI (by omega) (by omega)] at c2
        omega
      · show _ + (15 - Int32.toNatClampNeg (nI 0)) < _
        rw [clN (by omega), clN (by omega)]
        omega
  · rintro x y z I' L' P' ⟨rfl, rfl, v, c', o, hl1, hv1, hv2, rfl, hA, ho, rfl, rfl⟩
    have hE := hES hA
    have hm1 : (20 - (nI v + 1).toNatClampNeg) * 20 + 19 < (20 - (nI v).toNatClampNeg) * 20 + (15 - (nI o).toNatClampNeg) := by
      rw [nI_1, clN (by omega), clN (by omega), clN (by omega)]
      omega
    have hm2 : (20 - (nI v).toNatClampNeg) * 20 + (15 - (nI o + 1).toNatClampNeg) < (20 - (nI v).toNatClampNeg) * 20 + (15 - (nI o).toNatClampNeg) := by
      rw [nI_1, clN (by omega), clN (by omega), clN (by omega)]
      omega
    have hmk : mkV s (1 + wh) v o < 1024 := mkV_lt (by omega)
    refine ⟨hE.1, fun c1 => ?_, fun c1 => ok_told hE ?_ (by omega) ⟨fun c2 => ?_, fun c2 => ?_⟩⟩
    · rw [hE.2.2.1, nI_leI (by omega) (by omega)] at c1
      have : o = s 0 0 := by omega
      subst this
      refine ok_sev hmk ⟨fun c2 => ⟨⟨rfl, rfl, v + 1, c', by omega, by omega, nI_1 v, hA.more fun _ q => b01_0.mp c2 q⟩, hm1⟩, fun c2 => ⟨b1, ?_⟩⟩
      have c2 := b01_n0.mp c2
      obtain ⟨g1, g2, g3, g4, g5, g6, g7, g8⟩ := hA
      rw [b3, g5]
      refine ⟨rfl, fun c3 => absurd c3 (nI_ge (by show c' < 8; omega) (by decide)), fun c3 => ⟨vin c' rfl (by show c' < 8; omega) (by decide), fun I12 e12 => ?_⟩⟩
      rw [clN (by omega)] at e12
      have q5 : I12 a 5 = nI c' := by rw [e12, uI_ne a (fun q => n7 q.symm)]; exact g5
      rw [b4, q5]
      refine ⟨rfl, vin c' rfl (by show c' < 8; omega) (by decide), fun I15 e15 I16 e16 => ?_⟩
      rw [clN (by omega)] at e15
      have q6 : I15 a 5 = nI c' := by rw [e15, uI_ne a (fun q => n8 q.symm)]; exact q5
      rw [q6, nI_1] at e16
      have r3 : ∀ i, I16 (P' a 3) i = if i = c' then nI (mkV s (1 + wh) v (s 0 0)) else I' (P' a 3) i := fun i => by
        rw [e16, uI_ne _ n7, e15, uI_ne _ b5, e12]
        show (if _ then _ else _) = _
        by_cases z : i = c'
        · rw [if_pos ⟨rfl, z⟩, if_pos z]
        · rw [if_neg (fun y => z y.2), if_neg z]
      have r4 : ∀ i, I16 (P' a 4) i = if i = c' then nI lv else I' (P' a 4) i := fun i => by
        rw [e16, uI_ne _ n8, e15]
        show (if _ then _ else _) = _
        by_cases z : i = c'
        · rw [if_pos ⟨rfl, z⟩, if_pos z]
        · rw [if_neg (fun y => z y.2), if_neg z, e12, uI_ne _ (fun q => b5 q.symm)]
      refine ⟨⟨rfl, rfl, v + 1, c' + 1, by omega, by omega, nI_1 v, fun r q1 q2 q3 => ?_, fun j hj => ?_, by omega, by omega, ?_, fun i hi => ?_, fun i i1 i2 => ?_, fun u u1 u2 u3 u4 => ?_⟩, hm1⟩
      · rw [e16, uI_ne r q1, e15, uI_ne r q3, e12, uI_ne r q2]; exact g1 r q1 q2 q3
      · rw [e16]
        show (if _ then _ else _) = _
        rw [if_neg (fun y => hj y.2), e15, uI_ne a (fun q => n8 q.symm), e12, uI_ne a (fun q => n7 q.symm)]
        exact g2 j hj
      · rw [e16]; exact if_pos ⟨rfl, rfl⟩
      · rw [r3, r4, if_neg (by omega), if_neg (by omega)]; exact g6 i hi
      · rw [r3, r4]
        by_cases z : i = c'
        · rw [if_pos z, if_pos z]; exact ⟨hl1, rfl, v, hv1, rfl⟩
        · rw [if_neg z, if_neg z]; exact g7 i i1 (by omega)
      · rcases Nat.lt_succ_iff_lt_or_eq.mp u2 with z | rfl
        · obtain ⟨i, i1, i2, i3⟩ := g8 u u1 z u3 u4
          exact ⟨i, i1, by omega, by rw [r3, if_neg (by omega)]; exact i3⟩
        · exact ⟨c', g3, by omega, by rw [r3, if_pos rfl]⟩
    · rw [hE.2.2.1, nI_leI (by omega) (by omega)] at c1; omega
    · rw [hE.2.2.1, nI_leI (by omega) (by omega)] at c1
      have hb := (h.2.2.2.2.2.2.2.2.2.1 o (by omega))
      have hne : s (1 + wh) o ≠ v := fun q => c2 (by rw [q])
      refine ⟨⟨rfl, rfl, v, c', o + 1, hl1, hv1, hv2, rfl, hA, by omega, nI_1 o, ?_⟩, hm2⟩
      rw [mkV_f hne]
    · rw [hE.2.2.1, nI_leI (by omega) (by omega)] at c1
      have hb9 := (h.2.2.2.2.2.2.2.2.2.1 o (by omega))
      have hwe : s (1 + wh) o ≤ 5 := by
        have : wh = 0 ∨ wh = 1 := by omega
        rcases this with rfl | rfl
        · exact hb9.1
        · exact Nat.le_trans hb9.2.1 (by decide : 3 ≤ 5)
      have hne : s (1 + wh) o = v := nI_inj (by omega) (by omega) c2
      refine ⟨⟨rfl, rfl, v, c', o + 1, hl1, hv1, hv2, rfl, hA, by omega, nI_1 o, ?_⟩, hm2⟩
      rw [bitN (by omega), orN, mkV_t hne]
theorem RG.congr {I I' : qMI} (h : RG I P a s) (h5 : I' a 5 = I a 5) (h3 : I' (P a 3) = I (P a 3)) (h4 : I' (P a 4) = I (P a 4)) : RG I' P a s := by
  obtain ⟨c, G, V, g1, g2, g3, g4⟩ := h
  exact ⟨c, G, V, g1, by rw [h5]; exact g2, by rw [h3, h4]; exact g3, g4⟩
theorem pc_and {x y : Nat} (h : 2 ≤ pc (x &&& y)) : 2 ≤ pc y := by
  obtain ⟨p, q, h1, h2, h3, h4⟩ := pc_two.mp h
  exact pc_two.mpr ⟨p, q, h1, h2, (and_bit.mp h3).2, (and_bit.mp h4).2⟩
theorem RG_of {I1 I2 : qMI} {c1 c2 : Nat} (w : WE s) (h1 : AG I I1 P a s 0 (s 5 0) 0 c1 6) (h2 : AG I1 I2 P a s 1 (s 6 0) c1 c2 4) : RG I2 P a s := by
  obtain ⟨a1, a2, a3, a4, a5, a6, a7, a8⟩ := h1
  obtain ⟨b1, b2, b3, b4, b5, b6, b7, b8⟩ := h2
  have hn := w.1
  have key : ∀ i, i < c2 → (i < c1 ∧ 1 ≤ s 5 0 ∧ I2 (P a 4) i = nI (s 5 0) ∧ ∃ u, 1 ≤ u ∧ I2 (P a 3) i = nI (mkV s 1 u (s 0 0))) ∨ (c1 ≤ i ∧ 1 ≤ s 6 0 ∧ I2 (P a 4) i = nI (s 6 0) ∧ ∃ u, 1 ≤ u ∧ I2 (P a 3) i = nI (mkV s 2 u (s 0 0))) := by
    intro i hi
    rcases Nat.lt_or_ge i c1 with z | z
    · left
      obtain ⟨q1, q2, q3⟩ := a7 i (Nat.zero_le _) z
      rw [(b6 i z).1, (b6 i z).2]
      exact ⟨z, q1, q2, q3⟩
    · right
      obtain ⟨q1, q2, q3⟩ := b7 i z hi
      exact ⟨z, q1, q2, q3⟩
  have val : ∀ {v : Nat} {x : Int32}, x = nI v → v < 2147483648 → x = nI x.toNatClampNeg ∧ x.toNatClampNeg = v := fun e hv => by rw [e, clN hv]; exact ⟨rfl, rfl⟩
  have hm : ∀ b u, mkV s b u (s 0 0) < 1024 := fun b u => mkV_lt hn
  refine ⟨c2, fun i => (I2 (P a 3) i).toNatClampNeg, fun i => (I2 (P a 4) i).toNatClampNeg, by omega, b5, fun i hi => ?_, fun r set hr hs => ⟨?_, fun hq => ?_⟩⟩
  · have w2 := w.2.1
    have w3 := w.2.2.1
    rcases key i hi with ⟨-, -, q3, u, q4, q5⟩ | ⟨-, -, q3, u, q4, q5⟩
    · have m := hm 1 u
      have v1 := val q5 (by omega)
      have v2 := val q3 (by omega)
      exact ⟨v1.1, v2.1, by show (I2 (P a 3) i).toNatClampNeg < _; rw [v1.2]; exact m, by show (I2 (P a 4) i).toNatClampNeg ≤ _; rw [v2.2]; exact w2⟩
    · have m := hm 2 u
      have v1 := val q5 (by omega)
      have v2 := val q3 (by omega)
      exact ⟨v1.1, v2.1, by show (I2 (P a 3) i).toNatClampNeg < _; rw [v1.2]; exact m, by show (I2 (P a 4) i).toNatClampNeg ≤ _; rw [v2.2]; exact w3⟩
  · rintro ⟨i, hi, h1, h2⟩ ⟨q1, q2⟩
    have w2 := w.2.1
    have w3 := w.2.2.1
    simp only [] at h1 h2
    rcases key i hi with ⟨-, -, q3, u, q4, q5⟩ | ⟨-, -, q3, u, q4, q5⟩
    · have m := hm 1 u
      rw [(val q5 (by omega)).2] at h2
      rw [(val q3 (by omega)).2] at h1
      rcases q1 with z | z
      · omega
      · exact (unl_iff hs hn).mpr ⟨u, q4, h2⟩ z
    · have m := hm 2 u
      rw [(val q5 (by omega)).2] at h2
      rw [(val q3 (by omega)).2] at h1
      rcases q2 with z | z
      · omega
      · exact (unl_iff hs hn).mpr ⟨u, q4, h2⟩ z
  · have big : ∀ b u, 2 ≤ pc (set &&& mkV s b u (s 0 0)) → ∃ p, p < s 0 0 ∧ s b p = u := fun b u h => by
      obtain ⟨p, q, h1, h2, h3, h4⟩ := pc_two.mp h
      exact ⟨p, mkV_bit.mp (and_bit.mp h3).2⟩
    have w2 := w.2.1
    have w3 := w.2.2.1
    rcases Classical.em (s 5 0 < r ∨ unl s 1 set) with z | z
    · have z2 : ¬ (s 6 0 < r ∨ unl s 2 set) := fun y => hq ⟨z, y⟩
      obtain ⟨u, u1, u2⟩ := (unl_iff hs hn).mp (fun y => z2 (Or.inr y))
      obtain ⟨p, p1, p2⟩ := big 2 u u2
      have hu := (w.2.2.2.1 p p1).2.1
      obtain ⟨i, i1, i2, i3⟩ := b8 u u1 (by omega) (by omega) (pc_and u2)
      have m := hm 2 u
      have q7 := (b7 i i1 i2).2.1
      refine ⟨i, i2, ?_, ?_⟩
      · show r ≤ (I2 (P a 4) i).toNatClampNeg
        rw [(val q7 (by omega)).2]; omega
      · show 2 ≤ pc (set &&& (I2 (P a 3) i).toNatClampNeg)
        rw [(val i3 (by have := hm (1 + 1) u; omega)).2]; exact u2
    · obtain ⟨u, u1, u2⟩ := (unl_iff hs hn).mp (fun y => z (Or.inr y))
      obtain ⟨p, p1, p2⟩ := big 1 u u2
      have hu := (w.2.2.2.1 p p1).1
      obtain ⟨i, i1, i2, i3⟩ := a8 u u1 (by omega) (by omega) (pc_and u2)
      have m := hm 1 u
      have q7 := (a7 i i1 i2).2.1
      rw [← (b6 i i2).2] at q7
      rw [← (b6 i i2).1] at i3
      refine ⟨i, by omega, ?_, ?_⟩
      · show r ≤ (I2 (P a 4) i).toNatClampNeg
        rw [(val q7 (by omega)).2]; omega
      · show 2 ≤ pc (set &&& (I2 (P a 3) i).toNatClampNeg)
        rw [(val i3 (by have := hm (1 + 0) u; omega)).2]; exact u2
theorem ok_R_begin {f : qMI → qML → qMP → Prop} (h : ES sh I P e s) (ha : RSh sh P a) (k : ∀ I', (∀ r, r ≠ a → r ≠ P a 3 → r ≠ P a 4 → I' r = I r) → RU sh I' P a s 0 (-1) (-1) → f I' L P) : Sq (d + 4) mX5_begin sh [.ref a, .ref e] I L P (KV f) := by
  obtain ⟨n1, n2, n3, n4, n5, n6, n7, n8⟩ := h.shpne ha
  obtain ⟨b1, b3, b4, b5⟩ := id ha
  have w : WE s := h.2.2.2.2.2.2
  have hn := w.1
  have hsl := slotsS_in (s 0 0)
  have hby : slotsS (s 0 0) - s 0 0 = byesS s := rfl
  refine sp_X5_begin (fun x I' L' P' => L' = L ∧ P' = P ∧ ∃ o, o ≤ s 0 0 ∧ x = nI o ∧ (∀ r, r ≠ a → r ≠ P a 3 → r ≠ P a 4 → I' r = I r) ∧ I' a 0 = nI (s 0 0) ∧ I' a 1 = nI (slotsS (s 0 0)) ∧ I' a 2 = nI (mk (fun p => decide (1 ≤ s 3 p ∧ s 3 p ≤ byesS s)) o) ∧ RG I' P a s ∧ I' a 6 = nI 0 ∧ I' a 7 = -1 ∧ I' a 8 = -1) (fun x _ _ _ => 20 - x.toNatClampNeg) ⟨h.1, b1, fun I3 e3 => ok_slots h.1 (by rw [e3, uI_ne e n1]; exact h.2.2.1) hn fun I8 e8 I9 e9 => ?_⟩ ?_
  · have f9 : ∀ r, r ≠ a → I9 r = I r := fun r q => by rw [e9, uI_ne r q, e8, uI_ne r q, e3, uI_ne r q]
    have h9 : ES sh I9 P e s := h.congr (f9 _ n1) (f9 _ n4) rfl
    have g0 : I9 a 0 = nI (s 0 0) := by rw [← h.2.2.1]; simp [e9, e8, e3, uI]
    have g1 : I9 a 1 = nI (slotsS (s 0 0)) := by simp [e9, e8, e3, uI]
    have g5 : I9 a 5 = nI 0 := by simp [e9, uI]; rfl
    rw [h9.2.2.2.1]
    refine ok_addGroups (wh := 0) h9 ha (by decide) w.2.1 g5 (by decide) fun I10 c1 A1 => ?_
    have h10 : ES sh I10 P e s := h9.congr (A1.1 _ n1 n2 n3) (A1.1 _ n4 n5 n6) rfl
    rw [h10.2.2.2.2.1]
    have cb : c1 + bigV 1 ≤ 8 := by have := A1.2.2.2.1; show c1 + 3 ≤ 8; have e : bigV 0 = 5 := rfl; omega
    refine ok_addGroups (wh := 1) h10 ha (by decide) w.2.2.1 A1.2.2.2.2.1 cb fun I13 c2 A2 => ?_
    have hG : RG I13 P a s := RG_of w A1 A2
    refine ok_watch b1 fun I19 e19 => ?_
    have f19 : ∀ r, r ≠ a → I19 r = I13 r := fun r q => by rw [e19, uI_ne r q, uI_ne r q, uI_ne r q, uI_ne r q]
    refine ⟨rfl, rfl, 0, Nat.zero_le _, rfl, fun r q1 q2 q3 => ?_, ?_, ?_, ?_, hG.congr ?_ (f19 _ n7) (f19 _ n8), ?_, ?_, ?_⟩
    · rw [f19 r q1, A2.1 r q1 q2 q3, A1.1 r q1 q2 q3, f9 r q1]
    · rw [← g0, ← A1.2.1 0 (by decide), ← A2.2.1 0 (by decide)]; simp [e19, uI]
    · rw [← g1, ← A1.2.1 1 (by decide), ← A2.2.1 1 (by decide)]; simp [e19, uI]
    · simp [e19, uI]; rfl
    · simp [e19, uI]
    · simp [e19, uI]; rfl
    · simp [e19, uI]
    · simp [e19, uI]
  · rintro x I' L' P' ⟨rfl, rfl, o, ho, rfl, hF, g0, g1, g2, hG, g6, g7, g8⟩
    have hE : ES sh I' P' e s := h.congr (hF _ n1 n2 n3) (hF _ n4 n5 n6) rfl
    refine ⟨b1, fun c1 => ?_, fun c1 => ⟨h.1, ?_⟩⟩
    · rw [g0, nI_leI (by omega) (by omega)] at c1
      have : o = s 0 0 := by omega
      subst this
      refine k I' hF ⟨ha, g0, g1, ⟨_, Nat.lt_of_lt_of_le (mk_lt _ _) (Nat.pow_le_pow_right (by decide) hn : _ ≤ 2 ^ 10), g2, fun p hp => ?_⟩, hG, g6, by decide, g7, g8⟩
      rw [mk_bit, Bool.and_eq_true, decide_eq_true_iff, decide_eq_true_iff]
      exact ⟨fun q => q.2, fun q => ⟨hp, q⟩⟩
    · rw [g0, nI_leI (by omega) (by omega)] at c1
      have hm : 20 - (nI o + 1).toNatClampNeg < 20 - (nI o).toNatClampNeg := by
        rw [nI_1, clN (by omega), clN (by omega)]
        omega
      have h8 := (w.2.2.2.1 o (by omega)).2.2.1
      refine ok_told (w := 2) hE (by omega) (by decide) ⟨fun c2 => ?_, fun c2 => ok_byes hE ⟨fun c3 => ?_, fun c3 I14 e14 => ?_⟩⟩
      · have c2 : nI (s 3 o) ≤ nI 0 := c2
        rw [nI_leI (by omega) (by omega)] at c2
        exact ⟨⟨rfl, rfl, o + 1, by omega, nI_1 o, hF, g0, g1, by rw [mk_f (decide_eq_false (by omega))]; exact g2, hG, g6, g7, g8⟩, hm⟩
      · have c3 : nI (slotsS (s 0 0) - s 0 0) < nI (s 3 o) := c3
        rw [nI_ltI (by omega) (by omega), hby] at c3
        exact ⟨⟨rfl, rfl, o + 1, by omega, nI_1 o, hF, g0, g1, by rw [mk_f (decide_eq_false (by omega))]; exact g2, hG, g6, g7, g8⟩, hm⟩
      · have c2 : ¬ nI (s 3 o) ≤ nI 0 := c2
        rw [nI_leI (by omega) (by omega)] at c2
        have c3 : ¬ nI (slotsS (s 0 0) - s 0 0) < nI (s 3 o) := c3
        rw [nI_ltI (by omega) (by omega), hby] at c3
        have f14 : ∀ r, r ≠ a → I14 r = I' r := fun r q => by rw [e14, uI_ne r q]
        have f14a : ∀ j, j ≠ 2 → I14 a j = I' a j := fun j q => by rw [e14]; exact if_neg fun y => q y.2
        refine ⟨⟨rfl, rfl, o + 1, by omega, nI_1 o, fun r q1 q2 q3 => by rw [f14 r q1]; exact hF r q1 q2 q3, by rw [f14a 0 (by decide)]; exact g0, by rw [f14a 1 (by decide)]; exact g1, ?_, hG.congr (f14a 5 (by decide)) (f14 _ n7) (f14 _ n8), by rw [f14a 6 (by decide)]; exact g6, by rw [f14a 7 (by decide)]; exact g7, by rw [f14a 8 (by decide)]; exact g8⟩, hm⟩
        rw [mk_t (decide_eq_true (by omega)), e14]
        show (if _ then _ else _) = _
        rw [if_pos ⟨rfl, rfl⟩, g2, bitN (by omega), orN]
end R2
