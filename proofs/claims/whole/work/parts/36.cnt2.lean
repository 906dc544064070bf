theorem TB_half {n r : Nat} (hn : n ≤ 10) (hr : r + 1 ≤ lastS n) : TB n r = 2 * TB n (r + 1) := (TB_all n hn r (by omega)).2.2.2.1 (by omega)
theorem it_lt10 {set i : Nat} (h : set < 1024) (hi : i < 2 ^ pc set) : it set i < 1024 := (it_sub h hi).2
theorem or_bit {a b i : Nat} : (a ||| b).testBit i = true ↔ a.testBit i = true ∨ b.testBit i = true := by rw [Nat.testBit_or, Bool.or_eq_true]
theorem mu_bits {n : Nat} {pn : Nat → Prop} {sg : Nat → Nat} {r b : Nat} (i : Nat) : ((mu n pn sg (r + 1) b).testBit i = true ↔ (mu n pn sg r (2 * b)).testBit i = true ∨ (mu n pn sg r (2 * b + 1)).testBit i = true) ∧ ¬ ((mu n pn sg r (2 * b)).testBit i = true ∧ (mu n pn sg r (2 * b + 1)).testBit i = true) := by
  rw [mu_bit, mu_bit, mu_bit]
  have e : sg i / 2 ^ (r + 1) = sg i / 2 ^ r / 2 := by rw [Nat.pow_succ, Nat.div_div_eq_div_mul]
  rw [e]
  refine ⟨⟨fun ⟨h1, h2, h3⟩ => ?_, fun h => ?_⟩, fun h => ?_⟩
  · rcases Nat.lt_or_ge (sg i / 2 ^ r) (2 * b + 1) with z | z
    · exact Or.inl ⟨h1, h2, by omega⟩
    · exact Or.inr ⟨h1, h2, by omega⟩
  · rcases h with ⟨h1, h2, h3⟩ | ⟨h1, h2, h3⟩
    · exact ⟨h1, h2, by omega⟩
    · exact ⟨h1, h2, by omega⟩
  · have h1 := h.1.2.2
    have h2 := h.2.2.2
    omega
theorem mu_pm {n : Nat} {pn : Nat → Prop} {sg : Nat → Nat} {r b i : Nat} (h : (mu n pn sg r b).testBit i = true) : (pmS n pn).testBit i = true := pmS_bit.mpr ⟨(mu_bit.mp h).1, (mu_bit.mp h).2.1⟩
theorem dis_bit {a b i : Nat} (h : a &&& b = 0) (h1 : a.testBit i = true) : ¬ b.testBit i = true := fun h2 => by
  have := and_bit.mpr ⟨h1, h2⟩
  rw [h, Nat.zero_testBit] at this
  cases this
theorem bit_cases {x : Nat} (i : Nat) : x.testBit i = true ∨ ¬ x.testBit i = true := Classical.em _
theorem xor_bit {a b i : Nat} : (a ^^^ b).testBit i = true ↔ ((a.testBit i = true ∧ ¬ b.testBit i = true) ∨ (¬ a.testBit i = true ∧ b.testBit i = true)) := by
  rw [Nat.testBit_xor]
  cases a.testBit i <;> cases b.testBit i <;> simp
section C2
variable {s : Sit} {pn : Nat → Prop} {sg : Nat → Nat} {w : Nat} {i1 i2 : Int}
theorem su_halves {r b unp : Nat} (hn : s 0 0 ≤ 10) (hu : unp < 2 ^ s 0 0) (hd : unp &&& pmS (s 0 0) pn = 0) : su (subs (mu (s 0 0) pn sg (r + 1) b ||| unp)) (fun h => gc (xA s pn sg w i1 i2) r (2 * b) h * gc (xA s pn sg w i1 i2) r (2 * b + 1) ((mu (s 0 0) pn sg (r + 1) b ||| unp) ^^^ h)) = su (subs unp) (fun part => gc (xA s pn sg w i1 i2) r (2 * b) (mu (s 0 0) pn sg r (2 * b) ||| part) * gc (xA s pn sg w i1 i2) r (2 * b + 1) (mu (s 0 0) pn sg r (2 * b + 1) ||| (unp ^^^ part))) := by
  have mb := mu_bits (n := s 0 0) (pn := pn) (sg := sg) (r := r) (b := b)
  have mp1 := fun i => mu_pm (n := s 0 0) (pn := pn) (sg := sg) (r := r) (b := 2 * b) (i := i)
  have mp2 := fun i => mu_pm (n := s 0 0) (pn := pn) (sg := sg) (r := r) (b := 2 * b + 1) (i := i)
  have hl1 := mu_lt (n := s 0 0) (pn := pn) (sg := sg) (r := r) (b := 2 * b)
  have hl2 := mu_lt (n := s 0 0) (pn := pn) (sg := sg) (r := r + 1) (b := b)
  have bad := fun h (hs : h < 2 ^ s 0 0) (q : ¬ (h &&& pmS (s 0 0) pn = mu (s 0 0) pn sg r (2 * b))) => gc_bad (s := s) (pn := pn) (sg := sg) (w := w) (i1 := i1) (i2 := i2) hs q
  generalize gc (xA s pn sg w i1 i2) = G at *
  generalize mu (s 0 0) pn sg (r + 1) b = M at *
  generalize mu (s 0 0) pn sg r (2 * b) = F at *
  generalize mu (s 0 0) pn sg r (2 * b + 1) = S at *
  generalize pmS (s 0 0) pn = Q at *
  have hset : M ||| unp < 2 ^ s 0 0 := Nat.or_lt_two_pow hl2 hu
  have hset10 := p10 hn hset
  have hu10 := p10 hn hu
  have e1 : su (subs (M ||| unp)) (fun h => G r (2 * b) h * G r (2 * b + 1) ((M ||| unp) ^^^ h)) = su ((subs (M ||| unp)).filter (fun h => h &&& Q == F)) (fun h => G r (2 * b) h * G r (2 * b + 1) ((M ||| unp) ^^^ h)) := by
    rw [su_filter]
    refine su_congr fun h hh => ?_
    by_cases c : h &&& Q = F
    · rw [if_pos (beq_iff_eq.mpr c)]
    · rw [if_neg (fun q => c (beq_iff_eq.mp q)), bad h (sub_lt (subs_mem.mp hh).2 hset) c, Nat.zero_mul]
  have e2 : su (subs unp) (fun part => G r (2 * b) (F ||| part) * G r (2 * b + 1) (S ||| (unp ^^^ part))) = su ((subs unp).map (fun part => F ||| part)) (fun h => G r (2 * b) h * G r (2 * b + 1) ((M ||| unp) ^^^ h)) := by
    rw [su_map]
    refine su_congr fun part hp => ?_
    have hp := subB_iff.mp (subs_mem.mp hp).2
    have e : (M ||| unp) ^^^ (F ||| part) = S ||| (unp ^^^ part) := bits_eq fun i => by
      rw [xor_bit, or_bit, or_bit, or_bit, xor_bit]
      have m1 := mb i
      have m2 := mp1 i
      have m3 := mp2 i
      have m4 := dis_bit (i := i) hd
      have m5 := hp i
      rcases bit_cases (x := M) i with q1 | q1 <;> rcases bit_cases (x := F) i with q2 | q2 <;> rcases bit_cases (x := S) i with q3 | q3 <;> rcases bit_cases (x := unp) i with q4 | q4 <;> rcases bit_cases (x := part) i with q5 | q5 <;> simp_all
    rw [e]
  rw [e1, e2]
  refine su_same ((subs_nodup _).filter _) ?_ (fun h => ?_) _
  · rw [List.nodup_iff_pairwise_ne, List.pairwise_map]
    refine (List.nodup_iff_pairwise_ne.mp (subs_nodup unp)).imp_of_mem fun {x y} hx hy hne hxy => hne (bits_eq fun i => ?_)
    have hx := subB_iff.mp (subs_mem.mp hx).2 i
    have hy := subB_iff.mp (subs_mem.mp hy).2 i
    have m2 := mp1 i
    have m4 := dis_bit (i := i) hd
    have e : (F ||| x).testBit i = true ↔ (F ||| y).testBit i = true := by rw [hxy]
    rw [or_bit, or_bit] at e
    rcases bit_cases (x := F) i with q2 | q2 <;> rcases bit_cases (x := unp) i with q4 | q4 <;> simp_all
  · rw [List.mem_filter, List.mem_map]
    constructor
    · rintro ⟨h1, h2⟩
      have h2 := beq_iff_eq.mp h2
      obtain ⟨h3, h4⟩ := subs_mem.mp h1
      have h4 := subB_iff.mp h4
      refine ⟨h &&& unp, subs_mem.mpr ⟨and_lt (n := 10) h3, subB_iff.mpr fun i hi => (and_bit.mp hi).2⟩, bits_eq fun i => ?_⟩
      rw [or_bit, and_bit]
      have h5 := h4 i
      rw [or_bit] at h5
      have e : (h &&& Q).testBit i = true ↔ F.testBit i = true := by rw [h2]
      rw [and_bit] at e
      have m1 := mb i
      have m2 := mp1 i
      have m3 := mp2 i
      rcases bit_cases (x := h) i with q0 | q0 <;> rcases bit_cases (x := M) i with q1 | q1 <;> rcases bit_cases (x := F) i with q2 | q2 <;> rcases bit_cases (x := S) i with q3 | q3 <;> rcases bit_cases (x := unp) i with q4 | q4 <;> simp_all
    · rintro ⟨part, h1, rfl⟩
      obtain ⟨h3, h4⟩ := subs_mem.mp h1
      have h4 := subB_iff.mp h4
      refine ⟨subs_mem.mpr ⟨Nat.or_lt_two_pow (n := 10) (p10 hn hl1) h3, subB_iff.mpr fun i hi => ?_⟩, beq_iff_eq.mpr (bits_eq fun i => ?_)⟩
      · rw [or_bit] at hi ⊢
        have m1 := mb i
        rcases hi with q | q
        · exact Or.inl (m1.1.mpr (Or.inl q))
        · exact Or.inr (h4 i q)
      · rw [and_bit, or_bit]
        have m2 := mp1 i
        have m4 := dis_bit (i := i) hd
        have m5 := h4 i
        rcases bit_cases (x := F) i with q2 | q2 <;> rcases bit_cases (x := part) i with q4 | q4 <;> simp_all
theorem mu_zero {n : Nat} {pn : Nat → Prop} {sg : Nat → Nat} {r b : Nat} (h : mu n pn sg (r + 1) b = 0) : mu n pn sg r (2 * b) = 0 ∧ mu n pn sg r (2 * b + 1) = 0 := by
  have mb := mu_bits (n := n) (pn := pn) (sg := sg) (r := r) (b := b)
  rw [h] at mb
  refine ⟨bits_eq fun i => ⟨fun q => ?_, fun q => ?_⟩, bits_eq fun i => ⟨fun q => ?_, fun q => ?_⟩⟩
  · exact (mb i).1.mpr (Or.inl q)
  · rw [Nat.zero_testBit] at q; cases q
  · exact (mb i).1.mpr (Or.inr q)
  · rw [Nat.zero_testBit] at q; cases q
theorem gc_twin (hn : s 0 0 ≤ 10) : ∀ (r b c set : Nat), set < 2 ^ s 0 0 → mu (s 0 0) pn sg r b = 0 → mu (s 0 0) pn sg r c = 0 → gc (xA s pn sg w i1 i2) r b set = gc (xA s pn sg w i1 i2) r c set := by
  have node : ∀ (r b c set : Nat), set < 2 ^ s 0 0 → mu (s 0 0) pn sg r b = 0 → mu (s 0 0) pn sg r c = 0 → xA s pn sg w i1 i2 r b set = xA s pn sg w i1 i2 r c set := by
    intro r b c set hs h1 h2
    have e : pinP (s 0 0) pn sg r b set ↔ pinP (s 0 0) pn sg r c set := by rw [pin_iff hs, pin_iff hs, h1, h2]
    unfold xA
    exact bo_congr (by rw [e])
  intro r
  induction r with
  | zero =>
    intro b c set hs h1 h2
    unfold gc
    rw [node 0 b c set hs h1 h2]
  | succ r ih =>
    intro b c set hs h1 h2
    unfold gc
    rw [node (r + 1) b c set hs h1 h2]
    have m1 := mu_zero h1
    have m2 := mu_zero h2
    split
    · refine su_congr fun k hk => ?_
      obtain ⟨k1, k2⟩ := subs_mem.mp hk
      rw [ih _ _ k (sub_lt k2 hs) m1.1 m2.1, ih _ _ _ (xor_lt k2 hs) m1.2 m2.2]
    · rfl
end C2
