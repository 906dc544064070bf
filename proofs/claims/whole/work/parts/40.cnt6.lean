section C6
variable {d : Nat} {I : qMI} {L : qML} {P : qMP} {a : Nat} {s : Sit}
theorem mk_none {n : Nat} {f : Nat → Bool} (h : ∀ p, p < n → f p = false) : mk f n = 0 := bits_eq fun i => by
  rw [mk_bit, Nat.zero_testBit, Bool.and_eq_true, decide_eq_true_iff]
  constructor
  · rintro ⟨h1, h2⟩; rw [h i h1] at h2; exact h2
  · intro h; cases h
theorem ok_C_begin {u : Nat} {f : qMI → qML → qMP → Prop} (hP : LAY P) (ha : isCnt a) (hE : ES SH0 I P u s) (hu : u < a ∨ a + 8 ≤ u) (hu3 : P u 3 < a ∨ a + 8 ≤ P u 3) (k : ∀ I', (∀ r, ¬ (a ≤ r ∧ r < a + 8) → I' r = I r) → I' a 2 = 0 → CB I' P a s (seated s) (seatF s) 0 (-1) (-1) → f I' L P) : Sq (d + 5) mX0_begin SH0 [.ref a, .ref u] I L P (KV f) := by
  obtain ⟨p0, p1, p2, p3, p4, p5, p6, p7⟩ := cnt_P hP ha
  obtain ⟨j0, j1, j2, j3, j4, j5, j6, j7, j8⟩ := cnt_K ha
  have w : WE s := hE.2.2.2.2.2.2
  have hn := w.1
  have hl := lastS_le (s 0 0)
  have hs := slotsS_in (s 0 0)
  have hEc : ∀ {I' : qMI}, (∀ r, ¬ (a ≤ r ∧ r < a + 8) → I' r = I r) → ES SH0 I' P u s := fun q => hE.congr (q _ (by omega)) (q _ (by omega)) rfl
  have hst : ∀ q, q < s 0 0 → seated s q → seatF s q < slotsS (s 0 0) := fun q _ h2 => seatS_lt _ hn _ h2.2 h2.1
  have hinj : ∀ q r, q < s 0 0 → r < s 0 0 → seated s q → seated s r → seatF s q = seatF s r → q = r := fun q r h1 h2 h3 h4 h5 => by
    have e := seatS_inj h3.2 h4.2 h3.1 h4.1 h5
    rcases Nat.decEq q r with y | y
    · have := w.2.2.2.2 q r h1 h2 y e
      have := h3.1; omega
    · exact y
  refine sp_X0_begin (fun x I' L' P' => L' = L ∧ P' = P ∧ (∀ r, ¬ (a ≤ r ∧ r < a + 8) → I' r = I r) ∧ RU SH0 I' P (a + 1) s 0 (-1) (-1) ∧ ES SH0 I' P (a + 4) s ∧ I' a 2 = 0 ∧ I' a 4 = nI (2 ^ s 0 0 - 1) ∧ I' a 5 = nI (slotsS (s 0 0)) ∧ I' a 6 = nI (lastS (s 0 0)) ∧ I' a 7 = 0 ∧ ∃ o, o ≤ 32 ∧ x = nI o ∧ ∀ j, j < o → I' (a + 6) j = 0) (fun x _ _ _ => (50 - x.toNatClampNeg) + 100) (fun x I' L' P' => L' = L ∧ P' = P ∧ (∀ r, ¬ (a ≤ r ∧ r < a + 8) → I' r = I r) ∧ I' a 2 = 0 ∧ ∃ o, o ≤ s 0 0 ∧ x = nI o ∧ CB I' P a s (fun q => q < o ∧ seated s q) (seatF s) 0 (-1) (-1)) (fun x _ _ _ => 20 - x.toNatClampNeg) ?_ ?_ ?_
  · refine ⟨by rw [j0], by rw [p3, j4], ?_⟩
    rw [p3]
    refine ok_E_copy (by rw [j4]) (by rw [p4, j5]) hE fun I3 f3 E3 I6 e6 => ?_
    rw [p4] at f3
    have f6 : ∀ r, r ≠ a → I6 r = I3 r := fun r q => by rw [e6, uI_ne r q]
    have g6 : ∀ r, ¬ (a ≤ r ∧ r < a + 8) → I6 r = I r := fun r q => by rw [f6 r (by omega), f3 r (by omega) (by omega)]
    refine ⟨by rw [p0, j1], ?_⟩
    rw [p0]
    refine ok_R_begin (hEc g6) (cnt_RSh hP ha) fun I8 f8 R8 => ?_
    rw [p1, p2] at f8
    have g8 : ∀ r, ¬ (a ≤ r ∧ r < a + 8) → I8 r = I r := fun r q => by rw [f8 r (by omega) (by omega) (by omega), g6 r q]
    have E8 := hEc g8
    refine ⟨hE.1, ok_all E8 fun I16 e16 => ok_slots hE.1 ?_ hn fun I21 e21 => ok_rounds hE.1 ?_ hn fun I26 e26 I27 e27 => ?_⟩
    · rw [e16, uI_ne u (by omega)]; exact E8.2.2.1
    · rw [e21, uI_ne u (by omega), e16, uI_ne u (by omega)]; exact E8.2.2.1
    · have f27 : ∀ r, r ≠ a → I27 r = I8 r := fun r q => by rw [e27, uI_ne r q, e26, uI_ne r q, e21, uI_ne r q, e16, uI_ne r q]
      have e2 : I8 a 2 = 0 := by
        rw [f8 a (by omega) (by omega) (by omega), e6]; exact if_pos ⟨rfl, rfl⟩
      refine ⟨rfl, rfl, fun r q => by rw [f27 r (by omega), g8 r q], R8.congr (f27 _ (by omega)) (by rw [p1]; exact f27 _ (by omega)) (by rw [p2]; exact f27 _ (by omega)), E3.congr ?_ ?_ rfl, ?_, ?_, ?_, ?_, ?_, 0, Nat.zero_le _, rfl, fun j hj => absurd hj (Nat.not_lt_zero j)⟩
      · rw [f27 _ (by omega), f8 _ (by omega) (by omega) (by omega), f6 _ (by omega)]
      · rw [p4, f27 _ (by omega), f8 _ (by omega) (by omega) (by omega), f6 _ (by omega)]
      · rw [← e2]; simp [e27, e26, e21, e16, uI]
      · simp [e27, e26, e21, e16, uI]
      · simp [e27, e26, e21, e16, uI]
      · simp [e27, e26, e21, e16, uI]
      · simp [e27, e26, e21, e16, uI]
  · rintro x I' L' P' ⟨rfl, rfl, hF, hR, hE', h2, h4, h5, h6, h7, o, ho, rfl, hj⟩
    refine ⟨by rw [j0], ?_⟩
    rw [p5, j6, clN (by omega)]
    refine ⟨rfl, fun c => ?_, fun c => ⟨vin o rfl (by have c : ¬ nI 32 ≤ nI o := c; rw [nI_leI (by decide) (by omega)] at c; show o < 32; omega) (by decide), fun I5 e5 => ?_⟩⟩
    · have c : nI 32 ≤ nI o := c
      rw [nI_leI (by decide) (by omega)] at c
      refine ⟨⟨rfl, rfl, hF, h2, 0, Nat.zero_le _, rfl, hR, hE', h4, h5, h6, ?_, fun r b h1 h3 => ?_, fun q _ h3 => absurd h3.1 (Nat.not_lt_zero q), fun q _ _ _ h3 => absurd h3.1 (Nat.not_lt_zero q)⟩, ?_⟩
      · rw [h7, show pmS (s 0 0) (fun q => q < 0 ∧ seated s q) = 0 from mk_none fun p _ => bo_f fun q => Nat.not_lt_zero _ q.1]; rfl
      · have := TB_all _ hn r h1
        have t5 := this.2.2.2.2
        rw [hj _ (by omega), show mu (s 0 0) (fun q => q < 0 ∧ seated s q) (seatF s) r b = 0 from mk_none fun p _ => bo_f fun q => Nat.not_lt_zero _ q.1.1]; rfl
      · show 20 - Int32.toNatClampNeg 0 < _
        omega
    · have c : ¬ nI 32 ≤ nI o := c
      rw [nI_leI (by decide) (by omega)] at c
      have f5 : ∀ r, r ≠ a + 6 → I5 r = I' r := fun r q => by rw [e5, uI_ne r q]
      refine ⟨⟨rfl, rfl, fun r q => by rw [f5 r (by omega)]; exact hF r q, hR.congr (f5 _ (by omega)) (by rw [p1]; exact f5 _ (by omega)) (by rw [p2]; exact f5 _ (by omega)), hE'.congr (f5 _ (by omega)) (by rw [p4]; exact f5 _ (by omega)) rfl, by rw [f5 _ (by omega)]; exact h2, by rw [f5 _ (by omega)]; exact h4, by rw [f5 _ (by omega)]; exact h5, by rw [f5 _ (by omega)]; exact h6, by rw [f5 _ (by omega)]; exact h7, o + 1, by omega, nI_1 o, fun j q => ?_⟩, ?_⟩
      · rw [e5]
        show (if _ then _ else _) = _
        by_cases y : j = o
        · rw [if_pos ⟨rfl, y⟩]
        · rw [if_neg (fun z => y z.2)]; exact hj j (by omega)
      · rw [nI_1, clN (by omega)]; omega
  · rintro x I' L' P' ⟨rfl, rfl, hF, h2, o, ho, rfl, hB⟩
    have E := hEc hF
    refine ⟨hE.1, fun c => ?_, fun c => ?_⟩
    · rw [E.2.2.1, nI_leI (by omega) (by omega)] at c
      have : o = s 0 0 := by omega
      subst this
      refine k I' hF h2 ?_
      obtain ⟨b1, b2, b3, b4, b5, b6, b7, b8, b9⟩ := hB
      refine ⟨b1, b2, b3, b4, b5, ?_, fun r b h1 h3 => ?_, hst, hinj⟩
      · rw [b6]; congr 1
        exact bits_eq fun i => by rw [pmS_bit, pmS_bit]; exact ⟨fun q => ⟨q.1, q.2.2⟩, fun q => ⟨q.1, q.1, q.2⟩⟩
      · rw [b7 r b h1 h3]; congr 1
        exact bits_eq fun i => by rw [mu_bit, mu_bit]; exact ⟨fun q => ⟨q.1, q.2.1.2, q.2.2⟩, fun q => ⟨q.1, ⟨q.1, q.2.1⟩, q.2.2⟩⟩
    · rw [E.2.2.1, nI_leI (by omega) (by omega)] at c
      have hm : 20 - (nI o + 1).toNatClampNeg < 20 - (nI o).toNatClampNeg := by
        rw [nI_1, clN (by omega), clN (by omega)]; omega
      refine ok_seedSlot E (by omega) ⟨by rw [j0], ?_⟩
      by_cases y : seated s o
      · rw [if_pos y]
        refine ok_pin hP ha hB hn (show o < s 0 0 by omega) (fun q => Nat.lt_irrefl _ q.1) (hst o (by omega) y) (fun ⟨q, q1, q2, q3⟩ => ?_) (fun _ I9 f9 g9 B9 => ⟨⟨rfl, rfl, fun r q => by rw [f9 r (by omega) (by omega)]; exact hF r q, by rw [g9 2 (by decide)]; exact h2, o + 1, by omega, nI_1 o, ?_⟩, hm⟩)
        · have := hinj q o q1 (by omega) q2.2 y q3
          have := q2.1; omega
        · have e1 : (fun q => (q < o ∧ seated s q) ∨ q = o) = (fun q => q < o + 1 ∧ seated s q) := funext fun q => propext ⟨fun z => by
            rcases z with z | rfl
            · exact ⟨by omega, z.2⟩
            · exact ⟨by omega, y⟩, fun z => by
            rcases Nat.lt_succ_iff_lt_or_eq.mp z.1 with v | v
            · exact Or.inl ⟨v, z.2⟩
            · exact Or.inr v⟩
          have e2 : (fun q => if q = o then seatS (slotsS (s 0 0)) (s 3 o) else seatF s q) = seatF s := funext fun q => by
            by_cases z : q = o
            · rw [if_pos z, z]; rfl
            · rw [if_neg z]
          rw [e1, e2] at B9
          exact B9
      · rw [if_neg y]
        refine ok_pin_no (by decide) ⟨⟨rfl, rfl, hF, h2, o + 1, by omega, nI_1 o, ?_⟩, hm⟩
        have e1 : (fun q => q < o + 1 ∧ seated s q) = (fun q => q < o ∧ seated s q) := funext fun q => propext ⟨fun z => by
          rcases Nat.lt_succ_iff_lt_or_eq.mp z.1 with v | rfl
          · exact ⟨v, z.2⟩
          · exact absurd z.2 y, fun z => ⟨by omega, z.2⟩⟩
        rw [e1]; exact hB
end C6
