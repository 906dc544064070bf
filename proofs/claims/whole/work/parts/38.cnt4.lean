theorem gc_step {A : Nat → Nat → Nat → Bool} {r b set : Nat} (h : A (r + 1) b set = true) : gc A (r + 1) b set = su (subs set) (fun h => gc A r (2 * b) h * gc A r (2 * b + 1) (set ^^^ h)) := by
  show (if A (r + 1) b set = true then _ else _) = _
  rw [if_pos h]
theorem gc_0 {A : Nat → Nat → Nat → Bool} {r b set : Nat} (h : ¬ A r b set = true) : gc A r b set = 0 := by
  rcases Nat.eq_zero_or_pos (gc A r b set) with q | q
  · exact q
  · exact absurd (gc_node (fun z => by omega)) h
theorem cLo_at (L : qML) (x y n b : Nat) : cLo L x y 0 0 n y b = if b < n then L x b else L y b := by
  unfold cLo
  rw [if_pos rfl]
  unfold va_cpy
  by_cases h : b < n
  · rw [if_pos ⟨Nat.zero_le _, by omega⟩, if_pos h]; simp
  · rw [if_neg (by omega), if_neg h]
theorem TB_dec : ∀ n, n ≤ 10 → ∀ r, r ≤ lastS n → ∀ q, q < r → 2 * TB n r ≤ TB n q := by decide
theorem TB_inj {n r q b c : Nat} (hn : n ≤ 10) (hr : r ≤ lastS n) (hq : q ≤ lastS n) (hb : b < TB n r) (hc : c < TB n q) (h : TB n r + b = TB n q + c) : r = q ∧ b = c := by
  rcases Nat.lt_trichotomy r q with z | z | z
  · have := TB_dec n hn q hq r z; omega
  · subst z; exact ⟨rfl, by omega⟩
  · have := TB_dec n hn r hr q z; omega
theorem TB_last : ∀ n, n ≤ 10 → TB n (lastS n) = 1 := by decide
theorem TB_fin : ∀ n, n ≤ 10 → ∀ t, t < slotsS n → (slotsS n + t) / 2 ^ (lastS n + 1) = 0 := by decide
def freeS (n pm : Nat) : Nat := (2 ^ n - 1) ^^^ pm
theorem freeS_bit {n pm i : Nat} (h : pm < 2 ^ n) : (freeS n pm).testBit i = true ↔ i < n ∧ ¬ pm.testBit i = true := by
  unfold freeS
  rw [xor_bit, Nat.testBit_two_pow_sub_one, decide_eq_true_iff]
  constructor
  · rintro (q | ⟨q1, q2⟩)
    · exact q
    · exact absurd (bits_lt h q2) q1
  · intro q; exact Or.inl q
theorem lt_bits {n x : Nat} (h : ∀ i, x.testBit i = true → i < n) : x < 2 ^ n := by
  apply Nat.lt_pow_two_of_testBit
  intro i hi
  cases hb : x.testBit i with
  | false => rfl
  | true => have := h i hb; omega
theorem freeS_lt {n pm : Nat} (h : pm < 2 ^ n) : freeS n pm < 2 ^ n := lt_bits fun _ hi => ((freeS_bit h).mp hi).1
section C4
variable {d : Nat} {I : qMI} {L : qML} {P : qMP} {a : Nat} {s : Sit} {pn : Nat → Prop} {sg : Nat → Nat} {w : Nat} {ap tg : Int32}
theorem mu_or {r b x n : Nat} (hx : x < 2 ^ n) (hz : x &&& pmS n pn = 0) : (mu n pn sg r b ||| x) < 2 ^ n ∧ (mu n pn sg r b ||| x) &&& pmS n pn = mu n pn sg r b := ⟨Nat.or_lt_two_pow mu_lt hx, bits_eq fun i => by
  rw [and_bit, or_bit]
  have m2 := mu_pm (n := n) (pn := pn) (sg := sg) (r := r) (b := b) (i := i)
  have m4 := dis_bit (i := i) hz
  rcases bit_cases (x := mu n pn sg r b) i with q2 | q2 <;> rcases bit_cases (x := x) i with q4 | q4 <;> simp_all⟩
theorem mu_or_inj {r b x y n : Nat} (hx : x &&& pmS n pn = 0) (hy : y &&& pmS n pn = 0) (h : (mu n pn sg r b ||| x) = (mu n pn sg r b ||| y)) : x = y := bits_eq fun i => by
  have m2 := mu_pm (n := n) (pn := pn) (sg := sg) (r := r) (b := b) (i := i)
  have m3 := dis_bit (i := i) hx
  have m4 := dis_bit (i := i) hy
  have e : (mu n pn sg r b ||| x).testBit i = true ↔ (mu n pn sg r b ||| y).testBit i = true := by rw [h]
  rw [or_bit, or_bit] at e
  rcases bit_cases (x := mu n pn sg r b) i with q2 | q2 <;> rcases bit_cases (x := x) i with q4 | q4 <;> rcases bit_cases (x := y) i with q5 | q5 <;> simp_all
theorem sub_free {n x : Nat} (h : subB (freeS n (pmS n pn)) x = true) : x &&& pmS n pn = 0 ∧ x < 2 ^ n := by
  have h := subB_iff.mp h
  refine ⟨bits_eq fun i => ?_, lt_bits fun i hi => ((freeS_bit pmS_lt).mp (h i hi)).1⟩
  rw [and_bit, Nat.zero_testBit]
  constructor
  · rintro ⟨q1, q2⟩; exact absurd q2 ((freeS_bit pmS_lt).mp (h i q1)).2
  · intro q; cases q
theorem mu_split {r b set n : Nat} (hn : n ≤ 10) (hs : set < 2 ^ n) (h : set &&& pmS n pn = mu n pn sg r b) : (set &&& freeS n (pmS n pn)) ∈ subs (freeS n (pmS n pn)) ∧ (mu n pn sg r b ||| (set &&& freeS n (pmS n pn))) = set := by
  refine ⟨subs_mem.mpr ⟨and_lt (n := 10) (p10 hn hs), subB_iff.mpr fun i hi => (and_bit.mp hi).2⟩, bits_eq fun i => ?_⟩
  rw [or_bit, and_bit, freeS_bit pmS_lt, ← h, and_bit]
  constructor
  · rintro (q | q) <;> exact q.1
  · intro q
    rcases bit_cases (x := pmS n pn) i with z | z
    · exact Or.inl ⟨q, z⟩
    · exact Or.inr ⟨q, bits_lt hs q, z⟩
theorem ok_fillRow {r b B : Nat} {f : qMI → qML → qMP → Prop} (hP : LAY P) (ha : isCnt a) (h : CB I P a s pn sg w ap tg) (hn : s 0 0 ≤ 10) (hr : 1 ≤ r) (hr2 : r ≤ lastS (s 0 0)) (hb : b < TB (s 0 0) r) (hB : B = TB (s 0 0) r + b) (hlow : ∀ q c, 1 ≤ q → q + 1 = r → c < TB (s 0 0) q → RF L a (xA s pn sg w ap.toInt tg.toInt) (s 0 0) pn sg q c) (htw : ∀ c, c < b → RF L a (xA s pn sg w ap.toInt tg.toInt) (s 0 0) pn sg r c)
    (k : ∀ L', (∀ x, x ≠ a + 8 + B → L' x = L x) → RF L' a (xA s pn sg w ap.toInt tg.toInt) (s 0 0) pn sg r b → f I L' P) : Sq (d + 4) mX0_fillRow SH0 [.ref a, .int (nI B), .int (nI r)] I L P (KV f) := by
  obtain ⟨p0, p1, p2, p3, p4, p5, p6, p7⟩ := cnt_P hP ha
  obtain ⟨k0, k1, k2, k3, k4, k5, k6, k7, k8⟩ := cnt_K ha
  obtain ⟨a1, a2, a3, a4, a5, a6, a7, a8, a9⟩ := id h
  have tt := TB_all _ hn r hr2
  have t8 := tt.2.2.2.2 hr
  have t3 := tt.2.2.1
  have hl := lastS_le (s 0 0)
  have hs := slotsS_in (s 0 0)
  have b16 : B < 16 := by omega
  have bs : B < slotsS (s 0 0) := by
    have : 2 ≤ 2 ^ r := by
      have : 2 ^ 1 ≤ 2 ^ r := Nat.pow_le_pow_right (by decide) hr
      omega
    have t6 : TB (s 0 0) r * 2 ≤ TB (s 0 0) r * 2 ^ r := Nat.mul_le_mul_left _ this
    omega
  have hpm := pmS_lt (n := s 0 0) (pn := pn)
  have hfl := freeS_lt hpm
  have hf10 := p10 hn hfl
  have hfr : nI (2 ^ s 0 0 - 1) &&& (nI (pmS (s 0 0) pn) ^^^ (-1)) = nI (freeS (s 0 0) (pmS (s 0 0) pn)) := (notAll _ hn _ hpm).2
  have hpc := pc_le_n hn hfl
  have hp10 := pow10 (k := pc (freeS (s 0 0) (pmS (s 0 0) pn))) (by omega)
  refine sp_X0_fillRow (fun y3 x4 x5 x6 x7 x8 I' L' P' => I' = I ∧ P' = P ∧ y3 = a + 8 + B ∧ x5 = nI (freeS (s 0 0) (pmS (s 0 0) pn)) ∧ x6 = nI (2 ^ pc (freeS (s 0 0) (pmS (s 0 0) pn))) ∧ (∀ x, x ≠ a + 8 + B → L' x = L x) ∧ ∃ i, i ≤ 2 ^ pc (freeS (s 0 0) (pmS (s 0 0) pn)) ∧ x7 = nI (it (freeS (s 0 0) (pmS (s 0 0) pn)) i) ∧ x8 = nI i ∧ ∀ j, j < i → L' (a + 8 + B) (mu (s 0 0) pn sg r b ||| it (freeS (s 0 0) (pmS (s 0 0) pn)) j) = lN (gc (xA s pn sg w ap.toInt tg.toInt) r b (mu (s 0 0) pn sg r b ||| it (freeS (s 0 0) (pmS (s 0 0) pn)) j))) (fun _ _ _ _ _ x _ _ _ => 2000 - x.toNatClampNeg) ⟨fun c => absurd c (nI_nlt (a := B) (b := 1) (by omega) (by omega)), fun _ => ⟨by rw [k0], ?_⟩⟩ ?_
  · rw [a4, p6, k7, clN (by omega), p7 B b16, k8 B b16]
    refine ⟨fun _ => ⟨rfl, vin B rfl b16 (by decide), ok_twinOf hP ha h hn hr hr2 hb hB ⟨fun _ => ?_, fun c => absurd rfl c⟩ fun c hc m1 m2 => ⟨fun q => ?_, fun _ => ?_⟩⟩, fun c => absurd (nI_lt bs (by omega)) c⟩
    · rw [a3, a6, hfr]
      exact ok_bc hf10 ⟨rfl, rfl, rfl, rfl, bitN (by omega), fun _ _ => rfl, 0, Nat.zero_le _, rfl, rfl, fun j hj => absurd hj (Nat.not_lt_zero j)⟩
    · have q := congrArg Int32.toInt q
      rw [nI_toInt (by omega)] at q
      have : (-1 : Int32).toInt = -1 := by decide
      omega
    · rw [p6, k7, clN (by omega), p7 _ (show TB (s 0 0) r + c < 16 by omega), k8 _ (show TB (s 0 0) r + c < 16 by omega)]
      refine ⟨rfl, vin _ rfl (show TB (s 0 0) r + c < 16 by omega) (by decide), rfl, rfl, by decide, by decide, by decide, fun L22 e22 => ?_⟩
      rw [show Int32.toNatClampNeg (nI (21, 1024).2) = 1024 by decide, ti_clamp0] at e22
      refine k L22 (fun x hx => by rw [e22, cLo_ne x hx]) fun set hset hq => ?_
      have := htw c hc set hset (by rw [hq, m1, m2])
      rw [← hB, e22, cLo_at, if_pos (p10 hn hset), this, gc_twin hn r b c set hset m1 m2]
  · rintro y3 x4 x5 x6 x7 x8 I' L' P' ⟨rfl, rfl, rfl, rfl, rfl, hL, i, hi, rfl, rfl, hj⟩
    refine ⟨fun c => ?_, fun c => ⟨by rw [k0], ?_⟩⟩
    · rw [nI_leI (by omega) (by omega)] at c
      refine k L' hL fun set hset hq => ?_
      obtain ⟨q1, q2⟩ := mu_split hn hset hq
      obtain ⟨j, j1, j2⟩ := it_ex hf10 q1
      have := hj j (by omega)
      rw [j2, q2] at this
      rw [← hB]; exact this
    · rw [nI_leI (by omega) (by omega)] at c
      obtain ⟨m1, m2⟩ := it_sub hf10 (show i < 2 ^ pc (freeS (s 0 0) (pmS (s 0 0) pn)) by omega)
      obtain ⟨z1, z2⟩ := sub_free m1
      obtain ⟨v1, v2⟩ := mu_or (sg := sg) (r := r) (b := b) z2 z1
      have v10 := p10 hn v1
      have hm : 2000 - (nI i + 1).toNatClampNeg < 2000 - (nI i).toNatClampNeg := by
        rw [nI_1, clN (by omega), clN (by omega)]; omega
      have e7 := a7 r b hr2 hb
      rw [← hB] at e7
      have done : ∀ v, v = lN (gc (xA s pn sg w ap.toInt tg.toInt) r b (mu (s 0 0) pn sg r b ||| it (freeS (s 0 0) (pmS (s 0 0) pn)) i)) → ∀ L9, L9 = uL L' (a + 8 + B) (mu (s 0 0) pn sg r b ||| it (freeS (s 0 0) (pmS (s 0 0) pn)) i) v → (∀ x, x ≠ a + 8 + B → L9 x = L x) ∧ ∀ j, j < i + 1 → L9 (a + 8 + B) (mu (s 0 0) pn sg r b ||| it (freeS (s 0 0) (pmS (s 0 0) pn)) j) = lN (gc (xA s pn sg w ap.toInt tg.toInt) r b (mu (s 0 0) pn sg r b ||| it (freeS (s 0 0) (pmS (s 0 0) pn)) j)) := by
        intro v hv L9 e9
        refine ⟨fun x hx => by rw [e9, uL_ne x hx]; exact hL x hx, fun j hj2 => ?_⟩
        rw [e9]
        show (if _ then _ else _) = _
        rcases Nat.lt_succ_iff_lt_or_eq.mp hj2 with z | rfl
        · have hne : ¬ (mu (s 0 0) pn sg r b ||| it (freeS (s 0 0) (pmS (s 0 0) pn)) j) = (mu (s 0 0) pn sg r b ||| it (freeS (s 0 0) (pmS (s 0 0) pn)) i) := fun q => by
            have y1 := (sub_free (it_sub hf10 (show j < 2 ^ pc (freeS (s 0 0) (pmS (s 0 0) pn)) by omega)).1).1
            have y2 := mu_or_inj y1 z1 q
            have y3 := it_lt hf10 z (by omega)
            omega
          rw [if_neg (fun q => hne q.2)]
          exact hj j z
        · rw [if_pos ⟨rfl, rfl⟩, hv]
      rw [p5, k6, p0, k1, clN (by omega), e7, orN, a1023 v10, nxN hf10 m2, nx_it]
      refine ⟨rfl, vin B rfl (show B < 32 by omega) (by decide), rfl, ok_fits a1 hn hr hr2 v1 (fun q => ⟨fun _ => ⟨by rw [k8 B b16], by rw [k8 B b16]; exact vin _ rfl v10 (by decide), fun L13 e13 => ?_⟩, fun c => absurd rfl c⟩) (fun q => ⟨fun c => absurd c (by decide), fun _ => ?_⟩)⟩
      · rw [clN (by omega)] at e13
        have hz : gc (xA s pn sg w ap.toInt tg.toInt) r b (mu (s 0 0) pn sg r b ||| it (freeS (s 0 0) (pmS (s 0 0) pn)) i) = 0 := gc_0 fun y => q ((bo_iff.mp y).2.2 hr)
        obtain ⟨y1, y2⟩ := done 0 (by rw [hz]; rfl) L13 e13
        exact ⟨⟨rfl, rfl, rfl, rfl, rfl, y1, i + 1, by omega, rfl, nI_1 i, y2⟩, hm⟩
      · have hA : xA s pn sg w ap.toInt tg.toInt r b (mu (s 0 0) pn sg r b ||| it (freeS (s 0 0) (pmS (s 0 0) pn)) i) = true := bo_iff.mpr ⟨(pin_iff v1).mpr v2, fun y => by omega, fun _ => q⟩
        refine ⟨fun c1 => ?_, fun c1 => ?_⟩
        · obtain ⟨r0, rfl⟩ : ∃ r0, r = r0 + 1 := ⟨r - 1, by omega⟩
          have hr0 : 1 ≤ r0 := by
            rcases Nat.eq_zero_or_pos r0 with y | y
            · subst y; exact absurd rfl c1
            · exact y
          have hh := TB_half hn hr2
          have lowL : ∀ q c, 1 ≤ q → q + 1 = r0 + 1 → c < TB (s 0 0) q → RF L' a (xA s pn sg w ap.toInt tg.toInt) (s 0 0) pn sg q c := fun q c h1 h2 h3 set y1 y2 => by
            have hne : a + 8 + (TB (s 0 0) q + c) ≠ a + 8 + B := by
              have : q = r0 := by omega
              subst this
              omega
            rw [hL _ hne]
            exact hlow q c h1 h2 h3 set y1 y2
          refine ok_halvesWays hP ha h hn hr0 hr2 hb hB z2 z1 (lowL r0 _ hr0 rfl (by omega)) (lowL r0 _ hr0 rfl (by omega)) ⟨by rw [k8 B b16], by rw [k8 B b16]; exact vin _ rfl v10 (by decide), fun L21 e21 => ?_⟩
          rw [clN (by omega)] at e21
          obtain ⟨y1, y2⟩ := done _ (by rw [gc_step hA]) L21 e21
          exact ⟨⟨rfl, rfl, rfl, rfl, rfl, y1, i + 1, by omega, rfl, nI_1 i, y2⟩, hm⟩
        · have hr1 : r = 1 := nI_inj (by omega) (by decide) c1
          subst hr1
          refine ok_pairWays hP ha h hn hb hB v1 ⟨by rw [k8 B b16], by rw [k8 B b16]; exact vin _ rfl v10 (by decide), fun L28 e28 => ?_⟩
          rw [clN (by omega)] at e28
          obtain ⟨y1, y2⟩ := done _ (by rw [gc_step hA]) L28 e28
          exact ⟨⟨rfl, rfl, rfl, rfl, rfl, y1, i + 1, by omega, rfl, nI_1 i, y2⟩, hm⟩
end C4
