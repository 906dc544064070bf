/-! ===== numbers of draws ===== -/
def FA (A : Nat → Nat → Nat → Bool) (r b set h : Nat) : Nat := gc A r (2 * b) h * gc A r (2 * b + 1) (set ^^^ h)
def hp (A : Nat → Nat → Nat → Bool) (l all N : Nat) : Nat → Nat → Nat × Nat
  | 0, _ => (all, N)
  | k + 1, b =>
    let q := hp A l all N k (b / 2)
    let h := spl q.1 (FA A (l - (k + 1)) (b / 2) q.1) q.2
    let R := gc A (l - (k + 1)) (2 * (b / 2) + 1) (q.1 ^^^ h)
    let z := q.2 - pre q.1 (FA A (l - (k + 1)) (b / 2) q.1) h
    if b % 2 = 0 then (h, z / R) else (q.1 ^^^ h, z % R)
/-- the set and the number of a block -/
def hq (A : Nat → Nat → Nat → Bool) (l all N r b : Nat) : Nat × Nat := hp A l all N (l - r) b
theorem gc_FA {A : Nat → Nat → Nat → Bool} {r b set : Nat} (h : A (r + 1) b set = true) : gc A (r + 1) b set = su (subs set) (FA A r b set) := gc_step h
section NM
variable {A : Nat → Nat → Nat → Bool} {l all N : Nat}
theorem hq_top (b : Nat) : hq A l all N l b = (all, N) := by
  unfold hq
  rw [Nat.sub_self]
  rfl
theorem hq_down {r b : Nat} (hr : r + 1 ≤ l) (hv : (hq A l all N (r + 1) b).2 < gc A (r + 1) b (hq A l all N (r + 1) b).1) : ∃ h x y, spl (hq A l all N (r + 1) b).1 (FA A r b (hq A l all N (r + 1) b).1) (hq A l all N (r + 1) b).2 = h ∧ h ∈ subs (hq A l all N (r + 1) b).1 ∧ hq A l all N r (2 * b) = (h, x) ∧ hq A l all N r (2 * b + 1) = ((hq A l all N (r + 1) b).1 ^^^ h, y) ∧ (hq A l all N (r + 1) b).2 = pre (hq A l all N (r + 1) b).1 (FA A r b (hq A l all N (r + 1) b).1) h + (x * gc A r (2 * b + 1) ((hq A l all N (r + 1) b).1 ^^^ h) + y) ∧ x < gc A r (2 * b) h ∧ y < gc A r (2 * b + 1) ((hq A l all N (r + 1) b).1 ^^^ h) := by
  have e1 : hq A l all N r (2 * b) = (spl (hq A l all N (r + 1) b).1 (FA A r b (hq A l all N (r + 1) b).1) (hq A l all N (r + 1) b).2, ((hq A l all N (r + 1) b).2 - pre (hq A l all N (r + 1) b).1 (FA A r b (hq A l all N (r + 1) b).1) (spl (hq A l all N (r + 1) b).1 (FA A r b (hq A l all N (r + 1) b).1) (hq A l all N (r + 1) b).2)) / gc A r (2 * b + 1) ((hq A l all N (r + 1) b).1 ^^^ (spl (hq A l all N (r + 1) b).1 (FA A r b (hq A l all N (r + 1) b).1) (hq A l all N (r + 1) b).2))) := by
    unfold hq
    rw [show l - r = (l - (r + 1)) + 1 by omega]
    have h1 : 2 * b / 2 = b := by omega
    have h2 : l - (l - (r + 1) + 1) = r := by omega
    have h3 : 2 * b % 2 = 0 := by omega
    show (if 2 * b % 2 = 0 then _ else _) = _
    rw [if_pos h3, h1, h2]
  have e2 : hq A l all N r (2 * b + 1) = ((hq A l all N (r + 1) b).1 ^^^ (spl (hq A l all N (r + 1) b).1 (FA A r b (hq A l all N (r + 1) b).1) (hq A l all N (r + 1) b).2), ((hq A l all N (r + 1) b).2 - pre (hq A l all N (r + 1) b).1 (FA A r b (hq A l all N (r + 1) b).1) (spl (hq A l all N (r + 1) b).1 (FA A r b (hq A l all N (r + 1) b).1) (hq A l all N (r + 1) b).2)) % gc A r (2 * b + 1) ((hq A l all N (r + 1) b).1 ^^^ (spl (hq A l all N (r + 1) b).1 (FA A r b (hq A l all N (r + 1) b).1) (hq A l all N (r + 1) b).2))) := by
    unfold hq
    rw [show l - r = (l - (r + 1)) + 1 by omega]
    have h1 : (2 * b + 1) / 2 = b := by omega
    have h2 : l - (l - (r + 1) + 1) = r := by omega
    have h3 : ¬ (2 * b + 1) % 2 = 0 := by omega
    show (if (2 * b + 1) % 2 = 0 then _ else _) = _
    rw [if_neg h3, h1, h2]
  generalize hq A l all N (r + 1) b = q at *
  have hA : A (r + 1) b q.1 = true := gc_node (fun z => by omega)
  rw [gc_FA hA] at hv
  obtain ⟨s1, s2, s3⟩ := spl_ex hv
  generalize spl q.1 (FA A r b q.1) q.2 = h at *
  generalize hz : q.2 - pre q.1 (FA A r b q.1) h = z at *
  have hz2 : z < gc A r (2 * b) h * gc A r (2 * b + 1) (q.1 ^^^ h) := by
    have : FA A r b q.1 h = gc A r (2 * b) h * gc A r (2 * b + 1) (q.1 ^^^ h) := rfl
    omega
  generalize hRe : gc A r (2 * b + 1) (q.1 ^^^ h) = R at *
  have hR : 0 < R := by
    rcases Nat.eq_zero_or_pos R with y | y
    · rw [y, Nat.mul_zero] at hz2; omega
    · exact y
  refine ⟨h, z / R, z % R, rfl, s1, e1, e2, ?_, ?_, by rw [hRe]; exact Nat.mod_lt _ hR⟩
  · rw [hRe]
    have := Nat.div_add_mod z R
    rw [Nat.mul_comm] at this
    omega
  · rw [Nat.div_lt_iff_lt_mul hR]; exact hz2
theorem hq_ok (hN : N < gc A l 0 all) : ∀ k, k ≤ l → ∀ b, b < 2 ^ k → (hq A l all N (l - k) b).2 < gc A (l - k) b (hq A l all N (l - k) b).1 ∧ subB all (hq A l all N (l - k) b).1 = true
  | 0, _, b, hb => by
    have : b = 0 := by rw [Nat.pow_zero] at hb; omega
    subst this
    rw [Nat.sub_zero, hq_top]
    exact ⟨hN, subB_iff.mpr fun i hi => hi⟩
  | k + 1, hk, b, hb => by
    obtain ⟨i1, i2⟩ := hq_ok hN k (by omega) (b / 2) (by rw [Nat.pow_succ] at hb; omega)
    have e : l - k = l - (k + 1) + 1 := by omega
    rw [e] at i1 i2
    obtain ⟨h, x, y, -, h2, h3, h4, h5, h6, h7⟩ := hq_down (b := b / 2) (show l - (k + 1) + 1 ≤ l by omega) i1
    have hs := (subs_mem.mp h2).2
    rcases Nat.mod_two_eq_zero_or_one b with z | z
    · have : b = 2 * (b / 2) := by omega
      rw [this, h3]
      exact ⟨h6, subB_iff.mpr fun i hi => subB_iff.mp i2 i (subB_iff.mp hs i hi)⟩
    · have : b = 2 * (b / 2) + 1 := by omega
      rw [this, h4]
      exact ⟨h7, subB_iff.mpr fun i hi => subB_iff.mp i2 i (subB_iff.mp (sub_xor hs) i hi)⟩
theorem hq_val (hN : N < gc A l 0 all) {r b : Nat} (hr : r ≤ l) (hb : b < 2 ^ (l - r)) : (hq A l all N r b).2 < gc A r b (hq A l all N r b).1 ∧ subB all (hq A l all N r b).1 = true := by
  have := hq_ok hN (l - r) (by omega) b hb
  rw [show l - (l - r) = r by omega] at this
  exact this
/-- each player is in one block of each round -/
theorem hq_part (hN : N < gc A l 0 all) (p : Nat) (hp : all.testBit p = true) : ∀ k, k ≤ l → ∃ b, b < 2 ^ k ∧ (hq A l all N (l - k) b).1.testBit p = true ∧ ∀ c, c < 2 ^ k → (hq A l all N (l - k) c).1.testBit p = true → c = b
  | 0, _ => ⟨0, by decide, by rw [Nat.sub_zero, hq_top]; exact hp, fun c hc _ => by rw [Nat.pow_zero] at hc; omega⟩
  | k + 1, hk => by
    obtain ⟨b, b1, b2, b3⟩ := hq_part hN p hp k (by omega)
    have e : l - k = l - (k + 1) + 1 := by omega
    rw [e] at b2 b3
    have key : ∀ c, c < 2 ^ k → ((hq A l all N (l - (k + 1)) (2 * c)).1.testBit p = true → (hq A l all N (l - (k + 1) + 1) c).1.testBit p = true) ∧ ((hq A l all N (l - (k + 1)) (2 * c + 1)).1.testBit p = true ↔ ((hq A l all N (l - (k + 1) + 1) c).1.testBit p = true ∧ ¬ (hq A l all N (l - (k + 1)) (2 * c)).1.testBit p = true)) := by
      intro c hc
      have i1 := (hq_ok hN k (by omega) c hc).1
      rw [e] at i1
      obtain ⟨h, x, y, -, h2, h3, h4, -⟩ := hq_down (b := c) (show l - (k + 1) + 1 ≤ l by omega) i1
      have hs := subB_iff.mp (subs_mem.mp h2).2 p
      rw [h3, h4]
      refine ⟨hs, ?_⟩
      show (_ ^^^ h).testBit p = true ↔ _
      rw [xor_bit]
      constructor
      · rintro (q | q)
        · exact q
        · exact absurd (hs q.2) q.1
      · intro q; exact Or.inl q
    have half : ∀ c, c = 2 * (c / 2) ∨ c = 2 * (c / 2) + 1 := fun c => by omega
    have up1 : ∀ c, c < 2 ^ (k + 1) → (hq A l all N (l - (k + 1)) c).1.testBit p = true → c / 2 = b := by
      intro c hc hq1
      have hc2 : c / 2 < 2 ^ k := by rw [Nat.pow_succ] at hc; omega
      have := key (c / 2) hc2
      refine b3 _ hc2 ?_
      rcases half c with z | z
      · rw [z] at hq1; exact this.1 hq1
      · rw [z] at hq1; exact (this.2.mp hq1).1
    have kb := key b b1
    by_cases z : (hq A l all N (l - (k + 1)) (2 * b)).1.testBit p = true
    · refine ⟨2 * b, by rw [Nat.pow_succ]; omega, z, fun c hc hq1 => ?_⟩
      have hcb := up1 c hc hq1
      rcases half c with y | y
      · omega
      · rw [y, hcb] at hq1
        exact absurd z (kb.2.mp hq1).2
    · refine ⟨2 * b + 1, by rw [Nat.pow_succ]; omega, kb.2.mpr ⟨b2, z⟩, fun c hc hq1 => ?_⟩
      have hcb := up1 c hc hq1
      rcases half c with y | y
      · rw [y, hcb] at hq1
        exact absurd hq1 z
      · omega
/-- the sets of the blocks, from who stands where -/
def setR (f : Nat → Nat) : Nat → Nat → Nat
  | 0, b => f b
  | r + 1, b => setR f r (2 * b) ||| setR f r (2 * b + 1)
def rkS (A : Nat → Nat → Nat → Bool) (f : Nat → Nat) : Nat → Nat → Nat
  | 0, _ => 0
  | r + 1, b => pre (setR f (r + 1) b) (FA A r b (setR f (r + 1) b)) (setR f r (2 * b)) + (rkS A f r (2 * b) * gc A r (2 * b + 1) (setR f r (2 * b + 1)) + rkS A f r (2 * b + 1))
theorem hq_rank (hN : N < gc A l 0 all) (h0 : ∀ b, b < 2 ^ l → gc A 0 b (hq A l all N 0 b).1 ≤ 1) {f : Nat → Nat} (hf : ∀ b, b < 2 ^ l → f b = (hq A l all N 0 b).1) : ∀ r, r ≤ l → ∀ b, b < 2 ^ (l - r) → setR f r b = (hq A l all N r b).1 ∧ rkS A f r b = (hq A l all N r b).2
  | 0, _, b, hb => by
    refine ⟨hf b hb, ?_⟩
    have h1 := (hq_val hN (Nat.zero_le _) hb).1
    have h2 := h0 b hb
    show 0 = _
    omega
  | r + 1, hr, b, hb => by
    have hv := (hq_val hN hr hb).1
    obtain ⟨h, x, y, h1, h2, h3, h4, h5, h6, h7⟩ := hq_down (b := b) hr hv
    have hp : 2 ^ (l - r) = 2 * 2 ^ (l - (r + 1)) := by
      rw [show l - r = (l - (r + 1)) + 1 by omega, Nat.pow_succ]; omega
    obtain ⟨a1, a2⟩ := hq_rank hN h0 hf r (by omega) (2 * b) (by omega)
    obtain ⟨c1, c2⟩ := hq_rank hN h0 hf r (by omega) (2 * b + 1) (by omega)
    rw [h3] at a1 a2
    rw [h4] at c1 c2
    have hs := subB_iff.mp (subs_mem.mp h2).2
    have e : setR f (r + 1) b = (hq A l all N (r + 1) b).1 := by
      show setR f r (2 * b) ||| setR f r (2 * b + 1) = _
      rw [a1, c1]
      refine bits_eq fun i => ?_
      show (h ||| (_ ^^^ h)).testBit i = true ↔ _
      rw [or_bit, xor_bit]
      have := hs i
      rcases bit_cases (x := h) i with q | q <;> rcases bit_cases (x := (hq A l all N (r + 1) b).1) i with q2 | q2 <;> simp_all
    refine ⟨e, ?_⟩
    show pre (setR f (r + 1) b) (FA A r b (setR f (r + 1) b)) (setR f r (2 * b)) + (rkS A f r (2 * b) * gc A r (2 * b + 1) (setR f r (2 * b + 1)) + rkS A f r (2 * b + 1)) = _
    rw [e, a1, a2, c1, c2]
    exact h5.symm
end NM
