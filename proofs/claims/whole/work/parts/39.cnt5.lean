theorem seat_chk : ([2, 4, 8, 16].all fun L => (List.range (L + 1)).all fun x => (List.range (L + 1)).all fun y => x == 0 || y == 0 || seatS L x != seatS L y || x == y) = true := by decide +kernel
theorem seatS_inj {n x y : Nat} (hx : x ≤ slotsS n) (hy : y ≤ slotsS n) (x1 : 1 ≤ x) (y1 : 1 ≤ y) (h : seatS (slotsS n) x = seatS (slotsS n) y) : x = y := by
  have hs := slotsS_in n
  have q := List.all_eq_true.mp seat_chk (slotsS n) (by rcases hs with e | e | e | e <;> rw [e] <;> simp)
  have q := List.all_eq_true.mp q x (List.mem_range.mpr (by omega))
  have q := List.all_eq_true.mp q y (List.mem_range.mpr (by omega))
  simp only [Bool.or_eq_true, beq_iff_eq, bne_iff_ne, ne_eq] at q
  rcases q with ((q | q) | q) | q
  · omega
  · omega
  · exact absurd h q
  · exact q
theorem seatS_lt : ∀ n, n ≤ 10 → ∀ x, x ≤ slotsS n → 1 ≤ x → seatS (slotsS n) x < slotsS n := by decide +kernel
section C5
variable {d : Nat} {I : qMI} {L : qML} {P : qMP} {a : Nat} {s : Sit} {pn : Nat → Prop} {sg : Nat → Nat} {w : Nat} {ap tg : Int32}
theorem ok_total {f : Int64 → qMI → qML → qMP → Prop} (hP : LAY P) (ha : isCnt a) (h : CB I P a s pn sg w ap tg) (hn : s 0 0 ≤ 10) (k : ∀ L', (∀ x, (x < a + 8 ∨ a + 24 ≤ x) → x ≠ a → L' x = L x) → (∀ r b, 1 ≤ r → r ≤ lastS (s 0 0) → b < TB (s 0 0) r → RF L' a (xA s pn sg w ap.toInt tg.toInt) (s 0 0) pn sg r b) → L' a 3 = lN (gc (xA s pn sg w ap.toInt tg.toInt) (lastS (s 0 0)) 0 (2 ^ s 0 0 - 1)) → f (lN (gc (xA s pn sg w ap.toInt tg.toInt) (lastS (s 0 0)) 0 (2 ^ s 0 0 - 1))) (uI I a 2 1) L' P) : Sq (d + 5) mX0_total SH0 [.ref a] I L P (KL f) := by
  obtain ⟨p0, p1, p2, p3, p4, p5, p6, p7⟩ := cnt_P hP ha
  obtain ⟨k0, k1, k2, k3, k4, k5, k6, k7, k8⟩ := cnt_K ha
  obtain ⟨a1, a2, a3, a4, a5, a6, a7, a8, a9⟩ := id h
  have hl := lastS_le (s 0 0)
  have hs := slotsS_in (s 0 0)
  have sep : ∀ {L L' : qML} {r b x : Nat}, RF L a (xA s pn sg w ap.toInt tg.toInt) (s 0 0) pn sg r b → (∀ y, y ≠ a + 8 + x → L' y = L y) → TB (s 0 0) r + b ≠ x → RF L' a (xA s pn sg w ap.toInt tg.toInt) (s 0 0) pn sg r b := fun h q hne set y1 y2 => by
    rw [q _ (by omega)]
    exact h set y1 y2
  refine sp_X0_total (fun x I' L' P' => I' = I ∧ P' = P ∧ (∀ y, (y < a + 8 ∨ a + 24 ≤ y) → L' y = L y) ∧ ∃ r, 1 ≤ r ∧ r ≤ lastS (s 0 0) + 1 ∧ x = nI r ∧ ∀ q c, 1 ≤ q → q < r → c < TB (s 0 0) q → RF L' a (xA s pn sg w ap.toInt tg.toInt) (s 0 0) pn sg q c) (fun x _ _ _ => (10 - x.toNatClampNeg) * 100 + 99) (fun x1 x2 x3 I' L' P' => I' = I ∧ P' = P ∧ (∀ y, (y < a + 8 ∨ a + 24 ≤ y) → L' y = L y) ∧ ∃ r b, 1 ≤ r ∧ r ≤ lastS (s 0 0) ∧ x1 = nI r ∧ x2 = nI (TB (s 0 0) r) ∧ b ≤ TB (s 0 0) r ∧ x3 = nI (TB (s 0 0) r + b) ∧ (∀ q c, 1 ≤ q → q < r → c < TB (s 0 0) q → RF L' a (xA s pn sg w ap.toInt tg.toInt) (s 0 0) pn sg q c) ∧ ∀ c, c < b → RF L' a (xA s pn sg w ap.toInt tg.toInt) (s 0 0) pn sg r c) (fun x _ y _ _ _ => (10 - x.toNatClampNeg) * 100 + (50 - y.toNatClampNeg)) ⟨rfl, rfl, fun _ _ => rfl, 1, Nat.le_refl 1, by omega, rfl, fun q c h1 h2 => by omega⟩ ?_ ?_
  · rintro x I' L' P' ⟨rfl, rfl, hL, r, hr1, hr2, rfl, hR⟩
    refine ⟨by rw [k0], fun c => ?_, fun c => ?_⟩
    · rw [a5, nI_ltI (by omega) (by omega)] at c
      have tl := TB_last _ hn
      rw [a3]
      have hall : 2 ^ s 0 0 - 1 < 2 ^ s 0 0 := by have := Nat.two_pow_pos (s 0 0); omega
      refine ok_waysOf (r := lastS (s 0 0)) (b := 0) (B := 1) hP ha h hn (Nat.le_refl _) (by omega) (by omega) hall (fun _ => hR _ _ hl.1 (by omega) (by omega)) fun L7 e7 I8 e8 => ?_
      have eL : L7 a 3 = lN (gc (xA s pn sg w ap.toInt tg.toInt) (lastS (s 0 0)) 0 (2 ^ s 0 0 - 1)) := by rw [e7]; exact if_pos ⟨rfl, rfl⟩
      have e8 : I8 = uI I' a 2 1 := e8
      rw [e8]
      exact kL (k L7 (fun y h1 h2 => by rw [e7, uL_ne y h2]; exact hL y h1) (fun q c h1 h2 h3 => by
        have := hR q c h1 (by omega) h3
        intro set y1 y2
        rw [e7, uL_ne _ (by omega)]
        exact this set y1 y2) eL) eL.symm
    · rw [a5, nI_ltI (by omega) (by omega)] at c
      rw [a4, shrN (by omega) (by omega)]
      refine ⟨⟨rfl, rfl, hL, r, 0, hr1, by omega, rfl, rfl, Nat.zero_le _, rfl, hR, fun c hc => absurd hc (Nat.not_lt_zero c)⟩, ?_⟩
      rw [clN (by omega)]
      omega
  · rintro x1 x2 x3 I' L' P' ⟨rfl, rfl, hL, r, b, hr1, hr2, rfl, rfl, hb, rfl, hR, hT⟩
    have tt := TB_all _ hn r hr2
    have t8 := tt.2.2.2.2 hr1
    unfold vc_X0_total_2
    rw [show (2 : Int32) * nI (TB (s 0 0) r) = nI (2 * TB (s 0 0) r) from pk_mul 2 _]
    refine ⟨fun c => ?_, fun c => ⟨by rw [k0], ?_⟩⟩
    · rw [nI_leI (by omega) (by omega)] at c
      refine ⟨⟨rfl, rfl, hL, r + 1, by omega, by omega, nI_1 r, fun q e h1 h2 h3 => ?_⟩, ?_⟩
      · rcases Nat.lt_succ_iff_lt_or_eq.mp h2 with z | rfl
        · exact hR q e h1 z h3
        · exact hT e (by omega)
      · rw [nI_1, clN (by omega), clN (by omega), clN (by omega)]; omega
    · rw [nI_leI (by omega) (by omega)] at c
      refine ok_fillRow hP ha h hn hr1 hr2 (show b < TB (s 0 0) r by omega) rfl (fun q e h1 h2 h3 => hR q e h1 (by omega) h3) hT fun L9 q1 q2 => ?_
      refine ⟨⟨rfl, rfl, fun y hy => by rw [q1 y (by omega)]; exact hL y hy, r, b + 1, hr1, hr2, rfl, rfl, by omega, nI_1 _, fun q e h1 h2 h3 => ?_, fun e he => ?_⟩, ?_⟩
      · exact sep (hR q e h1 h2 h3) q1 fun y => by
          have := TB_inj hn (by omega) hr2 h3 (show b < TB (s 0 0) r by omega) y
          omega
      · rcases Nat.lt_succ_iff_lt_or_eq.mp he with z | rfl
        · exact sep (hT e z) q1 (by omega)
        · exact q2
      · rw [nI_1, clN (by omega), clN (by omega), clN (by omega)]; omega
theorem ok_pin_no {x y : Int32} {f : Int32 → qMI → qML → qMP → Prop} (hx : x < 0) (k : f 0 I L P) : Sq (d + 1) mX0_pin SH0 [.ref a, .int y, .int x] I L P (KI f) :=
  sp_X0_pin (fun _ _ _ _ => False) (fun _ _ _ _ => 0) ⟨fun _ => k, fun c => absurd hx c⟩ (fun _ _ _ _ q => q.elim)
theorem ok_pin {p t : Nat} {f : Int32 → qMI → qML → qMP → Prop} (hP : LAY P) (ha : isCnt a) (h : CB I P a s pn sg w ap tg) (hn : s 0 0 ≤ 10) (hp : p < s 0 0) (hpn : ¬ pn p) (ht : t < slotsS (s 0 0)) (k0 : (∃ q, q < s 0 0 ∧ pn q ∧ sg q = t) → f 0 I L P)
    (k1 : (∀ q, q < s 0 0 → pn q → sg q ≠ t) → ∀ I', (∀ r, r ≠ a → r ≠ a + 6 → I' r = I r) → (∀ j, j ≠ 7 → I' a j = I a j) → CB I' P a s (fun q => pn q ∨ q = p) (fun q => if q = p then t else sg q) w ap tg → f 1 I' L P) : Sq (d + 1) mX0_pin SH0 [.ref a, .int (nI p), .int (nI t)] I L P (KI f) := by
  obtain ⟨p0, p1, p2, p3, p4, p5, p6, p7⟩ := cnt_P hP ha
  obtain ⟨j0, j1, j2, j3, j4, j5, j6, j7, j8⟩ := cnt_K ha
  obtain ⟨a1, a2, a3, a4, a5, a6, a7, a8, a9⟩ := id h
  have hl := lastS_le (s 0 0)
  have hs := slotsS_in (s 0 0)
  have hfin := TB_fin _ hn t ht
  have hrng : ∀ r, r ≤ lastS (s 0 0) → 1 ≤ TB (s 0 0) r + t / 2 ^ r ∧ TB (s 0 0) r + t / 2 ^ r < 32 := fun r hr => by
    have := TB_rng hn hr ht
    omega
  have hmu0 : ∀ q, (mu (s 0 0) pn sg 0 t).testBit q = true ↔ q < s 0 0 ∧ pn q ∧ sg q = t := fun q => by rw [mu_bit, Nat.pow_zero, Nat.div_one]
  have e0 := a7 0 t (Nat.zero_le _) (by rw [TB_0]; exact ht)
  rw [TB_0] at e0
  have hm10 := p10 hn (mu_lt (n := s 0 0) (pn := pn) (sg := sg) (r := 0) (b := t))
  have hpm := p10 hn (pmS_lt (n := s 0 0) (pn := pn))
  refine sp_X0_pin (fun x I' L' P' => L' = L ∧ P' = P ∧ (∀ q, q < s 0 0 → pn q → sg q ≠ t) ∧ (∀ r, r ≠ a → r ≠ a + 6 → I' r = I r) ∧ (∀ j, j ≠ 7 → I' a j = I a j) ∧ I' a 7 = nI (pmS (s 0 0) pn ||| 2 ^ p) ∧ ∃ r, r ≤ lastS (s 0 0) + 1 ∧ x = nI ((slotsS (s 0 0) + t) / 2 ^ r) ∧ ∀ q c, q ≤ lastS (s 0 0) → c < TB (s 0 0) q → I' (a + 6) (TB (s 0 0) q + c) = nI (if q < r ∧ t / 2 ^ q = c then mu (s 0 0) pn sg q c ||| 2 ^ p else mu (s 0 0) pn sg q c)) (fun x _ _ _ => x.toNatClampNeg) ⟨fun c => absurd c (nI_pos (by omega)), fun _ => ⟨by rw [j0], ?_⟩⟩ ?_
  · rw [a4, p5, j6, nI_add, clN (by omega), e0]
    refine ⟨fun c => ?_, fun c => ⟨rfl, vin _ rfl (show slotsS (s 0 0) + t < 32 by omega) (by decide), fun c2 I7 e7 => ?_, fun c2 => k0 ?_⟩⟩
    · rw [nI_leI (by omega) (by omega)] at c; omega
    · have hz : mu (s 0 0) pn sg 0 t = 0 := nI_inj (by omega) (by decide) c2
      have f7 : ∀ j, j ≠ 7 → I7 a j = I a j := fun j hj => by rw [e7]; exact if_neg fun y => hj y.2
      rw [f7 5 (by decide), a4, nI_add]
      refine ⟨rfl, rfl, fun q h1 h2 h3 => ?_, fun r q1 _ => by rw [e7, uI_ne r q1], f7, ?_, 0, Nat.zero_le _, by rw [Nat.pow_zero, Nat.div_one], fun q c h1 h2 => ?_⟩
      · have := (hmu0 q).mpr ⟨h1, h2, h3⟩
        rw [hz, Nat.zero_testBit] at this; cases this
      · rw [e7]
        show (if _ then _ else _) = _
        rw [if_pos ⟨rfl, rfl⟩, a6, bitN (by omega), orN]
      · rw [if_neg (fun y => Nat.not_lt_zero _ y.1), e7, uI_ne _ (by omega)]
        exact a7 q c h1 h2
    · have hz : mu (s 0 0) pn sg 0 t ≠ 0 := fun y => c2 (by rw [y]; rfl)
      obtain ⟨q, hq⟩ := Nat.exists_testBit_of_ne_zero hz
      exact ⟨q, (hmu0 q).mp hq⟩
  · rintro x I' L' P' ⟨rfl, rfl, hno, hF, hF2, h7, r, hr, rfl, hM⟩
    rcases Nat.lt_or_ge (lastS (s 0 0)) r with z | z
    · have : r = lastS (s 0 0) + 1 := by omega
      subst this
      rw [hfin]
      refine ⟨fun _ => k1 hno I' hF hF2 ?_, fun c => absurd (nI_lt (a := 0) (b := 1) (by decide) (by decide)) c⟩
      obtain ⟨r1, r2, r3, r4⟩ := cnt_RSh hP ha
      refine ⟨a1.congr (hF _ (by omega) (by omega)) (hF _ (by omega) (by omega)) (hF _ (by omega) (by omega)), a2.congr (hF _ (by omega) (by omega)) (hF _ (by omega) (by omega)) rfl, by rw [hF2 4 (by decide)]; exact a3, by rw [hF2 5 (by decide)]; exact a4, by rw [hF2 6 (by decide)]; exact a5, ?_, fun q c h1 h2 => ?_, fun q h1 h2 => ?_, fun q u h1 h2 h3 h4 h5 => ?_⟩
      · rw [h7]
        congr 1
        refine bits_eq fun i => ?_
        rw [or_bit, pmS_bit, pmS_bit, Nat.testBit_two_pow, decide_eq_true_iff]
        constructor
        · rintro (y | y)
          · exact ⟨y.1, Or.inl y.2⟩
          · exact ⟨by omega, Or.inr y.symm⟩
        · rintro ⟨y1, y2⟩
          rcases y2 with y2 | y2
          · exact Or.inl ⟨y1, y2⟩
          · exact Or.inr y2.symm
      · rw [hM q c h1 h2]
        congr 1
        refine bits_eq fun i => ?_
        rw [mu_bit]
        have hb2 : (2 ^ p).testBit i = true ↔ p = i := by rw [Nat.testBit_two_pow, decide_eq_true_iff]
        by_cases y : t / 2 ^ q = c
        · rw [if_pos ⟨by omega, y⟩, or_bit, mu_bit, hb2]
          by_cases v : i = p
          · subst v; simp [hp, y]
          · have v2 : ¬ p = i := fun z => v z.symm
            simp [v, v2]
        · rw [if_neg (fun z => y z.2), mu_bit]
          by_cases v : i = p
          · subst v; simp [hpn, y]
          · simp [v]
      · show (if q = p then t else sg q) < _
        split
        · exact ht
        · next v => exact a8 q h1 (h2.resolve_right v)
      · have h5 : (if q = p then t else sg q) = (if u = p then t else sg u) := h5
        by_cases v : q = p
        · by_cases v2 : u = p
          · omega
          · rw [if_pos v, if_neg v2] at h5
            exact absurd h5.symm (hno u h2 (h4.resolve_right v2))
        · by_cases v2 : u = p
          · rw [if_neg v, if_pos v2] at h5
            exact absurd h5 (hno q h1 (h3.resolve_right v))
          · rw [if_neg v, if_neg v2] at h5
            exact a9 q u h1 h2 (h3.resolve_right v) (h4.resolve_right v2) h5
    · have hx := (TB_blk _ hn r z t ht)
      have hr9 := hrng r z
      rw [hx.1]
      have hdiv : (TB (s 0 0) r + t / 2 ^ r) / 2 = (slotsS (s 0 0) + t) / 2 ^ (r + 1) := by
        rw [← hx.1, Nat.pow_succ, Nat.div_div_eq_div_mul]
      refine ⟨fun c => absurd c (nI_nlt (a := _) (b := 1) hr9.1 (by omega)), fun _ => ⟨by rw [j0], ?_⟩⟩
      rw [p5, j6, clN (by omega), hM r _ z hx.2, if_neg (fun y => Nat.lt_irrefl _ y.1), bitN (by omega), orN, show nI (TB (s 0 0) r + t / 2 ^ r) / 2 = nI ((TB (s 0 0) r + t / 2 ^ r) / 2) from pk_div (by omega) (by decide) (by decide), hdiv]
      refine ⟨rfl, vin _ rfl (show TB (s 0 0) r + t / 2 ^ r < 32 by omega) (by decide), fun I5 e5 => ⟨⟨rfl, rfl, hno, fun y q1 q2 => by rw [e5, uI_ne y q2]; exact hF y q1 q2, fun j hj => by rw [e5, uI_ne a (by omega)]; exact hF2 j hj, by rw [e5, uI_ne a (by omega)]; exact h7, r + 1, by omega, rfl, fun q c h1 h2 => ?_⟩, ?_⟩⟩
      · rw [e5]
        show (if _ then _ else _) = _
        by_cases y : TB (s 0 0) q + c = TB (s 0 0) r + t / 2 ^ r
        · obtain ⟨v1, v2⟩ := TB_inj hn h1 z h2 hx.2 y
          subst v1
          subst v2
          rw [if_pos ⟨rfl, rfl⟩, if_pos ⟨by omega, rfl⟩]
        · rw [if_neg (fun v => y v.2), hM q c h1 h2]
          congr 1
          by_cases v : q < r ∧ t / 2 ^ q = c
          · rw [if_pos v, if_pos ⟨by omega, v.2⟩]
          · rw [if_neg v, if_neg]
            rintro ⟨v1, v2⟩
            rcases Nat.lt_succ_iff_lt_or_eq.mp v1 with u | rfl
            · exact v ⟨u, v2⟩
            · exact y (by rw [v2])
      · rw [← hdiv, clN (by omega)]; omega
theorem ok_isFor0 {u : Nat} {f : Int32 → qMI → qML → qMP → Prop} (ha : isCnt a) (h : I a 2 = 0) (k : f 0 I L P) : Sq (d + 1) mX0_isFor SH0 [.ref a, .ref u] I L P (KI f) := by
  obtain ⟨k0, -⟩ := cnt_K ha
  exact sp_X0_isFor ⟨by rw [k0], fun _ => k, fun c => absurd h c⟩
theorem ok_isFor1 {u : Nat} {t : Sit} {f : Int32 → qMI → qML → qMP → Prop} (hP : LAY P) (ha : isCnt a) (h : I a 2 = 1) (h1 : ES SH0 I P (a + 4) s) (h2 : ES SH0 I P u t) (k : f (b01 (SameD s t)) I L P) : Sq (d + 4) mX0_isFor SH0 [.ref a, .ref u] I L P (KI f) := by
  obtain ⟨k0, k1, k2, k3, k4, -⟩ := cnt_K ha
  obtain ⟨p0, p1, p2, p3, -⟩ := cnt_P hP ha
  refine sp_X0_isFor ⟨by rw [k0], fun c => absurd (h.symm.trans c) (by decide), fun _ => ⟨by rw [p3, k4], ?_⟩⟩
  rw [p3]
  exact ok_sameDraws h1 h2 ⟨fun c => kI k (b01_f (b01_0.mp c)), fun c => kI k (b01_t (b01_n0.mp c))⟩
end C5
