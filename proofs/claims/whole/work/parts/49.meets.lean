/-! ===== MEETS ===== -/
/-- the class's: apart in the round before, together in the round -/
def moC (w rd : Nat) : Nat → Nat → Nat → Prop := fun r _ set => 1 ≤ r → (((r : Int) = ((rd : Int) - 1) → pc (set &&& w) ≤ 1) ∧ ((r : Int) = (rd : Int) → set &&& w = 0 ∨ set &&& w = w))
theorem meets_same {s : Sit} {w rd : Nat} (hn : s 0 0 ≤ 10) (hn2 : 2 ≤ s 0 0) : gc (xA s (seated s) (seatF s) w ((rd : Int) - 1) (rd : Int)) (lastS (s 0 0)) 0 (2 ^ s 0 0 - 1) = cntM s (moC w rd) (lastS (s 0 0)) 0 (2 ^ s 0 0 - 1) :=
  gc_same hn (fun _ _ _ _ _ => Iff.rfl) _ _ _ ⟨all_lt _, Or.inr (viab_root hn hn2), Nat.le_refl _⟩
theorem pc_mono {x y : Nat} (h : ∀ i, x.testBit i = true → y.testBit i = true) : pc x ≤ pc y := by
  have := pcb_sub h 10
  show pcb 10 x ≤ pcb 10 y
  omega
theorem and_sub {w set k : Nat} (h : subB set k = true) : ∀ i, (k &&& w).testBit i = true → (set &&& w).testBit i = true := fun i hi => and_bit.mpr ⟨subB_iff.mp h i (and_bit.mp hi).1, (and_bit.mp hi).2⟩
theorem and_split {w set k : Nat} (h : subB set k = true) : pc (set &&& w) = pc (k &&& w) + pc ((set ^^^ k) &&& w) := by
  have e : (set &&& w) ^^^ (k &&& w) = (set ^^^ k) &&& w := bits_eq fun i => by
    have := subB_iff.mp h i
    rw [xor_bit, and_bit, and_bit, and_bit, xor_bit]
    rcases bit_cases (x := set) i with q | q <;> rcases bit_cases (x := k) i with q2 | q2 <;> rcases bit_cases (x := w) i with q3 | q3 <;> simp_all
  have := pcb_sub (set := set &&& w) (k := k &&& w) (and_sub h) 10
  rw [e] at this
  show pcb 10 _ = pcb 10 _ + pcb 10 _
  omega
theorem pc_zero {x : Nat} (h : x < 1024) (hz : pc x = 0) : x = 0 := by
  refine Classical.byContradiction fun q => ?_
  obtain ⟨i, hi⟩ := Nat.exists_testBit_of_ne_zero q
  have b := bits_lt (n := 10) h hi
  have : pc (2 ^ i) ≤ pc x := pc_mono fun j hj => by
    rw [Nat.testBit_two_pow, decide_eq_true_iff] at hj
    rw [← hj]; exact hi
  have key : ∀ i, i < 10 → pc (2 ^ i) = 1 := by decide
  have := key i b
  omega
section MT
variable {s : Sit} {w rd : Nat}
theorem ok_low {r b set : Nat} (h : okB s r b set) (hr : r = 0) : pc (set &&& w) ≤ 1 := by
  have h1 := h.1
  rw [hr, Nat.pow_zero] at h1
  have := pc_mono (x := set &&& w) (y := set) fun i hi => (and_bit.mp hi).1
  omega
/-- sets with at most one of them: as without -/
theorem gc_one {mo : Nat → Nat → Nat → Prop} (h : ∀ r b set, okB s r b set → pc (set &&& w) ≤ 1 → mo r b set) : ∀ r b set, pc (set &&& w) ≤ 1 → gc (mA s mo) r b set = gc (mS s) r b set :=
  gc_eq (R := fun _ _ set => pc (set &&& w) ≤ 1) (fun r b set hs => bo_congr ⟨fun q => ⟨q.1, trivial⟩, fun q => ⟨q.1, h r b set q.1 hs⟩⟩) (fun r b set hs _ k hk => by
    have := and_split (w := w) (subs_mem.mp hk).2
    exact Or.inl ⟨by omega, by omega⟩)
theorem gc_none : ∀ r b set, pc (set &&& w) = 0 → set < 1024 → gc (mA s (moC w rd)) r b set = gc (mS s) r b set := by
  intro r b set h1 h2
  refine gc_eq (R := fun _ _ set => pc (set &&& w) = 0 ∧ set < 1024) (fun r b set hs => bo_congr ⟨fun q => ⟨q.1, trivial⟩, fun q => ⟨q.1, fun _ => ⟨fun _ => by omega, fun _ => Or.inl (pc_zero (and_lt (n := 10) hs.2) hs.1)⟩⟩⟩) (fun r b set hs _ k hk => ?_) r b set ⟨h1, h2⟩
  obtain ⟨k1, k2⟩ := subs_mem.mp hk
  have := and_split (w := w) k2
  exact Or.inl ⟨⟨by omega, k1⟩, ⟨by omega, xor_lt (n := 10) k2 hs.2⟩⟩
/-- below the round: the same -/
theorem gc_below : ∀ r b set, r + 1 ≤ rd → gc (mA s (moC w rd)) r b set = gc (mA s (moA w (rd - 1))) r b set :=
  gc_eq (R := fun r _ _ => r + 1 ≤ rd) (fun r b set hr => bo_congr ⟨fun q => ⟨q.1, by
    by_cases z : r = rd - 1
    · refine Or.inr ?_
      rcases Nat.eq_zero_or_pos r with y | y
      · have := ok_low (w := w) q.1 y; omega
      · have := (q.2 y).1 (by omega); omega
    · exact Or.inl z⟩, fun q => ⟨q.1, fun y => ⟨fun z => by
    rcases q.2 with u | u
    · omega
    · omega, fun z => by omega⟩⟩⟩) (fun r b set hr _ k hk => Or.inl ⟨by omega, by omega⟩)
theorem moA_one (rd : Nat) : ∀ r b set, okB s r b set → pc (set &&& w) ≤ 1 → moA w rd r b set := fun r b set _ h => Or.inr (by omega)
/-- with just one of them: none -/
theorem gc_lone (hw : pc w = 2) : ∀ r b set, rd ≤ r → 1 ≤ rd → pc (set &&& w) = 1 → set < 1024 → gc (mA s (moC w rd)) r b set = 0
  | 0, b, set, h1, h2, _, _ => by omega
  | r + 1, b, set, h1, h2, h3, h4 => by
    rcases Nat.lt_or_ge rd (r + 1) with z | z
    · by_cases c : mA s (moC w rd) (r + 1) b set = true
      · rw [gc_step c]
        refine su_zero fun k hk => ?_
        obtain ⟨k1, k2⟩ := subs_mem.mp hk
        have e := and_split (w := w) k2
        rcases Nat.eq_zero_or_pos (pc (k &&& w)) with y | y
        · rw [gc_lone hw r _ (set ^^^ k) (by omega) h2 (by omega) (xor_lt (n := 10) k2 h4), Nat.mul_zero]
        · rw [gc_lone hw r _ k (by omega) h2 (by omega) k1, Nat.zero_mul]
      · exact gc_0 c
    · refine gc_0 fun c => ?_
      have m := ((bo_iff.mp c).2 (by omega)).2 (by omega)
      rcases m with y | y
      · rw [y] at h3
        have : pc 0 = 0 := by decide
        omega
      · rw [y] at h3; omega
/-- with both: apart before less apart then are together then -/
theorem gc_both (hw : pc w = 2) (hw10 : w < 1024) : ∀ r b set, rd ≤ r → 1 ≤ rd → pc (set &&& w) = 2 → set < 1024 → gc (mA s (moA w (rd - 1))) r b set = gc (mA s (moA w rd)) r b set + gc (mA s (moC w rd)) r b set
  | 0, b, set, h1, h2, _, _ => by omega
  | r + 1, b, set, h1, h2, h3, h4 => by
    have whole : set &&& w = w := by
      have e : (w ^^^ (set &&& w)) = 0 := by
        have h := pcb_sub (set := w) (k := set &&& w) (fun i hi => (and_bit.mp hi).2) 10
        refine pc_zero (Nat.xor_lt_two_pow (n := 10) hw10 (and_lt (n := 10) h4)) ?_
        show pcb 10 _ = 0
        have h5 : pcb 10 w = 2 := hw
        have h6 : pcb 10 (set &&& w) = 2 := h3
        omega
      refine bits_eq fun i => ?_
      have q : ¬ (w ^^^ (set &&& w)).testBit i = true := by rw [e, Nat.zero_testBit]; decide
      rw [xor_bit, and_bit] at q
      rw [and_bit]
      rcases bit_cases (x := set) i with q1 | q1 <;> rcases bit_cases (x := w) i with q2 | q2 <;> simp_all
    rcases Nat.lt_or_ge rd (r + 1) with z | z
    · have nA : mA s (moA w (rd - 1)) (r + 1) b set = bo (okB s (r + 1) b set) := bo_congr ⟨fun q => q.1, fun q => ⟨q, Or.inl (by omega)⟩⟩
      have nB : mA s (moA w rd) (r + 1) b set = bo (okB s (r + 1) b set) := bo_congr ⟨fun q => q.1, fun q => ⟨q, Or.inl (by omega)⟩⟩
      have nC : mA s (moC w rd) (r + 1) b set = bo (okB s (r + 1) b set) := bo_congr ⟨fun q => q.1, fun q => ⟨q, fun _ => ⟨fun y => by omega, fun y => by omega⟩⟩⟩
      by_cases c : bo (okB s (r + 1) b set) = true
      · rw [gc_step (nA.trans c), gc_step (nB.trans c), gc_step (nC.trans c), ← su_add]
        refine su_congr fun k hk => ?_
        obtain ⟨k1, k2⟩ := subs_mem.mp hk
        have kx := xor_lt (n := 10) k2 h4
        have e := and_split (w := w) k2
        have cs : pc (k &&& w) = 0 ∨ pc (k &&& w) = 1 ∨ pc (k &&& w) = 2 := by omega
        rcases cs with y | y | y
        · have y2 : pc ((set ^^^ k) &&& w) = 2 := by omega
          rw [gc_one (w := w) (moA_one (rd - 1)) r (2 * b) k (by omega), gc_one (w := w) (moA_one rd) r (2 * b) k (by omega), gc_none r (2 * b) k y k1, gc_both hw hw10 r (2 * b + 1) (set ^^^ k) (by omega) h2 y2 kx, Nat.mul_add]
        · have y2 : pc ((set ^^^ k) &&& w) = 1 := by omega
          rw [gc_one (w := w) (moA_one (rd - 1)) r (2 * b) k (by omega), gc_one (w := w) (moA_one rd) r (2 * b) k (by omega), gc_one (w := w) (moA_one (rd - 1)) r (2 * b + 1) (set ^^^ k) (by omega), gc_one (w := w) (moA_one rd) r (2 * b + 1) (set ^^^ k) (by omega), gc_lone hw r (2 * b) k (by omega) h2 y k1, Nat.zero_mul]
          exact (Nat.add_zero _).symm
        · have y2 : pc ((set ^^^ k) &&& w) = 0 := by omega
          rw [gc_one (w := w) (moA_one (rd - 1)) r (2 * b + 1) (set ^^^ k) (by omega), gc_one (w := w) (moA_one rd) r (2 * b + 1) (set ^^^ k) (by omega), gc_none r (2 * b + 1) (set ^^^ k) y2 kx, gc_both hw hw10 r (2 * b) k (by omega) h2 y k1, Nat.add_mul]
      · rw [gc_0 (by rw [nA]; exact c), gc_0 (by rw [nB]; exact c), gc_0 (by rw [nC]; exact c)]
    · have e9 : rd = r + 1 := by omega
      have zB : gc (mA s (moA w rd)) (r + 1) b set = 0 := gc_0 fun c => by
        rcases (bo_iff.mp c).2 with y | y
        · omega
        · omega
      have nn : mA s (moA w (rd - 1)) (r + 1) b set = mA s (moC w rd) (r + 1) b set := bo_congr ⟨fun q => ⟨q.1, fun _ => ⟨fun y => by omega, fun _ => Or.inr whole⟩⟩, fun q => ⟨q.1, Or.inl (by omega)⟩⟩
      rw [zB, Nat.zero_add]
      by_cases c : mA s (moC w rd) (r + 1) b set = true
      · rw [gc_step c, gc_step (nn.trans c)]
        refine su_congr fun k hk => ?_
        rw [gc_below r (2 * b) k (by omega), gc_below r (2 * b + 1) _ (by omega)]
      · rw [gc_0 c, gc_0 (by rw [nn]; exact c)]
end MT
theorem meets_all {s : Sit} {p o rd : Nat} (hn : s 0 0 ≤ 10) (hp : p < s 0 0) (ho : o < s 0 0) (hne : p ≠ o) (h1 : 1 ≤ rd) (h2 : rd ≤ lastS (s 0 0)) : cntM s (moA (2 ^ p ||| 2 ^ o) (rd - 1)) (lastS (s 0 0)) 0 (2 ^ s 0 0 - 1) = cntM s (moA (2 ^ p ||| 2 ^ o) rd) (lastS (s 0 0)) 0 (2 ^ s 0 0 - 1) + cntM s (moC (2 ^ p ||| 2 ^ o) rd) (lastS (s 0 0)) 0 (2 ^ s 0 0 - 1) := by
  have key : ∀ p, p < 10 → ∀ o, o < 10 → p ≠ o → pc (2 ^ p ||| 2 ^ o) = 2 ∧ (2 ^ p ||| 2 ^ o) < 1024 := by decide +kernel
  obtain ⟨k1, k2⟩ := key p (by omega) o (by omega) hne
  have e : (2 ^ s 0 0 - 1) &&& (2 ^ p ||| 2 ^ o) = (2 ^ p ||| 2 ^ o) := bits_eq fun i => by
    rw [and_bit, or_bit, Nat.testBit_two_pow_sub_one, Nat.testBit_two_pow, Nat.testBit_two_pow, decide_eq_true_iff, decide_eq_true_iff, decide_eq_true_iff]
    omega
  exact gc_both k1 k2 _ _ _ h2 h1 (by rw [e]; exact k1) (p10 hn (all_lt _))
