/-! ===== what the two ways to count have in common ===== -/
noncomputable def mS (s : Sit) : Nat → Nat → Nat → Bool := mA s moT
theorem all_lt (n : Nat) : 2 ^ n - 1 < 2 ^ n := by have := Nat.two_pow_pos n; omega
theorem gc_plain {s : Sit} (hn : s 0 0 ≤ 10) : ∀ r b set, (set < 2 ^ s 0 0 ∧ (r = 0 ∨ viab s r set) ∧ r ≤ lastS (s 0 0)) → gc (xS s) r b set = gc (mS s) r b set :=
  gc_same hn fun r b set _ _ => ⟨fun _ _ => ⟨fun q => by omega, fun q => by omega⟩, fun _ => trivial⟩
theorem all_same {s : Sit} (hn : s 0 0 ≤ 10) (hn2 : 2 ≤ s 0 0) : gc (xS s) (lastS (s 0 0)) 0 (2 ^ s 0 0 - 1) = allS s :=
  gc_plain hn _ _ _ ⟨all_lt _, Or.inr (viab_root hn hn2), Nat.le_refl _⟩
/-- APART -/
def moA (w rd : Nat) : Nat → Nat → Nat → Prop := fun r _ set => r ≠ rd ∨ pc (set &&& w) < 2
theorem apart_same {s : Sit} {w rd : Nat} (hn : s 0 0 ≤ 10) (hn2 : 2 ≤ s 0 0) (hr : 1 ≤ rd) : gc (xA s (seated s) (seatF s) w (rd : Int) (-1)) (lastS (s 0 0)) 0 (2 ^ s 0 0 - 1) = cntM s (moA w rd) (lastS (s 0 0)) 0 (2 ^ s 0 0 - 1) := by
  refine gc_same hn (fun r b set _ _ => ⟨fun h _ => ⟨fun q => ?_, fun q => by omega⟩, fun h => ?_⟩) _ _ _ ⟨all_lt _, Or.inr (viab_root hn hn2), Nat.le_refl _⟩
  · rcases h with z | z
    · omega
    · omega
  · rcases Nat.eq_zero_or_pos r with z | z
    · exact Or.inl (by omega)
    · by_cases q : r = rd
      · exact Or.inr (by have := (h z).1 (by omega); omega)
      · exact Or.inl q
/-- STANDS -/
def moP (p t : Nat) : Nat → Nat → Nat → Prop := fun r b set => r > 0 ∨ b ≠ t ∨ set = 2 ^ p
theorem div_half {t r b : Nat} : (t / 2 ^ (r + 1) = b) ↔ (t / 2 ^ r = 2 * b ∨ t / 2 ^ r = 2 * b + 1) := by
  rw [Nat.pow_succ, ← Nat.div_div_eq_div_mul]
  omega
theorem gc_zero_at {A : Nat → Nat → Nat → Bool} {t : Nat} (Q : Nat → Prop) (hQ : ∀ set k, Q set → subB set k = true → Q k) (h0 : ∀ set, Q set → gc A 0 t set = 0) : ∀ r b set, t / 2 ^ r = b → Q set → gc A r b set = 0
  | 0, b, set, hb, hq => by
    rw [Nat.pow_zero, Nat.div_one] at hb
    rw [← hb]; exact h0 set hq
  | r + 1, b, set, hb, hq => by
    by_cases c : A (r + 1) b set = true
    · rw [gc_step c]
      refine su_zero fun k hk => ?_
      have hs := (subs_mem.mp hk).2
      rcases div_half.mp hb with z | z
      · rw [gc_zero_at Q hQ h0 r (2 * b) k z (hQ set k hq hs), Nat.zero_mul]
      · rw [gc_zero_at Q hQ h0 r (2 * b + 1) _ z (hQ set _ hq (sub_xor hs)), Nat.mul_zero]
    · exact gc_0 c
theorem pc_le1 {set p : Nat} (h : pc set ≤ 1) (hs : set < 1024) (hp : set.testBit p = true) : set = 2 ^ p := bits_eq fun i => by
  rw [Nat.testBit_two_pow, decide_eq_true_iff]
  constructor
  · intro hi
    rcases Nat.decEq p i with z | z
    · have b1 : p < 10 := bits_lt (n := 10) hs hp
      have b2 : i < 10 := bits_lt (n := 10) hs hi
      have : 2 ≤ pc set := pcb_two 10 p i b1 b2 z hp hi
      omega
    · exact z
  · intro z; rw [← z]; exact hp
theorem stands_pin {s : Sit} {p t : Nat} (hn : s 0 0 ≤ 10) (hp : p < s 0 0) (hps : ¬ seated s p) :
    ∀ r b set, (set < 2 ^ s 0 0 ∧ (r = 0 ∨ viab s r set) ∧ r ≤ lastS (s 0 0) ∧ (t / 2 ^ r = b ↔ set.testBit p = true)) → gc (xA s (fun q => seated s q ∨ q = p) (fun q => if q = p then t else seatF s q) 0 (-1) (-1)) r b set = gc (mA s (moP p t)) r b set := by
  have pinI : ∀ r b set, pinP (s 0 0) (fun q => seated s q ∨ q = p) (fun q => if q = p then t else seatF s q) r b set ↔ (pinP (s 0 0) (seated s) (seatF s) r b set ∧ (t / 2 ^ r = b ↔ set.testBit p = true)) := by
    intro r b set
    constructor
    · intro h
      refine ⟨fun q hq hs => ?_, ?_⟩
      · have := h q hq (Or.inl hs)
        have hne : q ≠ p := fun z => hps (z ▸ hs)
        simp only [if_neg hne] at this
        exact this
      · have := h p hp (Or.inr rfl)
        simp only [if_pos] at this
        exact this
    · rintro ⟨h1, h2⟩ q hq hs
      by_cases z : q = p
      · subst z; simp only [if_pos]; exact h2
      · simp only [if_neg z]; exact h1 q hq (hs.resolve_right z)
  refine gc_eq2 (R := fun r b set => set < 2 ^ s 0 0 ∧ (r = 0 ∨ viab s r set) ∧ r ≤ lastS (s 0 0) ∧ (t / 2 ^ r = b ↔ set.testBit p = true)) (fun r b set hR => Or.inl ?_) (fun r b set hR k hk => ?_)
  · obtain ⟨h1, h2, h3, h4⟩ := hR
    refine bo_congr ⟨fun h => ?_, fun h => ?_⟩
    · obtain ⟨a1, a2, a3⟩ := h
      have a1 := ((pinI r b set).mp a1).1
      rcases Nat.eq_zero_or_pos r with z | z
      · subst z
        have p1 := a2 rfl
        refine ⟨⟨by rw [Nat.pow_zero]; exact p1, fun q => by omega, fun q => by omega, Or.inr (unl_one hn p1), Or.inr (unl_one hn p1), a1⟩, ?_⟩
        by_cases y : b = t
        · refine Or.inr (Or.inr (pc_le1 p1 (p10 hn h1) (h4.mp ?_)))
          rw [Nat.pow_zero, Nat.div_one]; exact y.symm
        · exact Or.inr (Or.inl y)
      · obtain ⟨f1, f2, f3, f4, f5, f6⟩ := a3 z
        refine ⟨⟨f1.2.2.1, fun q => ?_, fun q1 q2 => f2 q1 (by omega), f3, f4, a1⟩, Or.inl z⟩
        have := f1.1
        rw [q] at this
        simp only [Nat.pow_one, Nat.reduceDiv] at this
        omega
    · obtain ⟨⟨o1, o2, o3, o4, o5, o6⟩, hm⟩ := h
      refine ⟨(pinI r b set).mpr ⟨o6, h4⟩, fun z => by rw [z, Nat.pow_zero] at o1; exact o1, fun z => ?_⟩
      have hv : viab s r set := by rcases h2 with q | q <;> first | omega | exact q
      refine ⟨hv, fun q1 q2 => o3 q1 ?_, o4, o5, fun q => by omega, fun q => by omega⟩
      rw [q1, Nat.pow_one] at o1
      omega
  · obtain ⟨h1, h2, h3, h4⟩ := hR
    have hv : viab s (r + 1) set := by rcases h2 with q | q <;> first | omega | exact q
    obtain ⟨k1, k2⟩ := subs_mem.mp hk
    have l1 := sub_lt k2 h1
    have l2 := xor_lt k2 h1
    by_cases c1 : (t / 2 ^ r = 2 * b ↔ k.testBit p = true) ∧ (t / 2 ^ r = 2 * b + 1 ↔ (set ^^^ k).testBit p = true)
    · rcases Nat.eq_zero_or_pos r with z | z
      · subst z
        exact Or.inl ⟨⟨l1, Or.inl rfl, Nat.zero_le _, c1.1⟩, ⟨l2, Or.inl rfl, Nat.zero_le _, c1.2⟩⟩
      · by_cases c : (viab s r k ∧ viab s r (set ^^^ k))
        · exact Or.inl ⟨⟨l1, Or.inr c.1, by omega, c1.1⟩, ⟨l2, Or.inr c.2, by omega, c1.2⟩⟩
        · right
          constructor
          · refine Classical.byContradiction fun q => c ?_
            have g1 := bo_iff.mp (gc_node (fun y => q (by rw [y, Nat.zero_mul]) : gc (xA s (fun q => seated s q ∨ q = p) (fun q => if q = p then t else seatF s q) 0 (-1) (-1)) r (2 * b) k ≠ 0))
            have g2 := bo_iff.mp (gc_node (fun y => q (by rw [y, Nat.mul_zero]) : gc (xA s (fun q => seated s q ∨ q = p) (fun q => if q = p then t else seatF s q) 0 (-1) (-1)) r (2 * b + 1) (set ^^^ k) ≠ 0))
            exact ⟨(g1.2.2 z).1, (g2.2.2 z).1⟩
          · refine Classical.byContradiction fun q => c ?_
            have n1 : gc (mA s (moP p t)) r (2 * b) k ≠ 0 := fun y => q (by rw [y, Nat.zero_mul])
            have n2 : gc (mA s (moP p t)) r (2 * b + 1) (set ^^^ k) ≠ 0 := fun y => q (by rw [y, Nat.mul_zero])
            obtain ⟨r0, rfl⟩ : ∃ r0, r = r0 + 1 := ⟨r - 1, by omega⟩
            have e1 := mA_low r0 _ _ n1
            have e2 := mA_low r0 _ _ n2
            have hp2 : 2 ^ (r0 + 1) / 2 = 2 ^ r0 := by rw [Nat.pow_succ]; omega
            exact viab_in hn h3 z hv k2 (by rw [hp2]; exact e1) (mA_ok n1).1.1 (by rw [hp2]; exact e2) (mA_ok n2).1.1
    · right
      have hb := subB_iff.mp k2 p
      have hx : (set ^^^ k).testBit p = true ↔ (set.testBit p = true ∧ ¬ k.testBit p = true) := by
        rw [xor_bit]
        constructor
        · rintro (q | q)
          · exact q
          · exact absurd (hb q.2) q.1
        · intro q; exact Or.inl q
      have hd := div_half (t := t) (r := r) (b := b)
      constructor
      · refine Classical.byContradiction fun q => c1 ?_
        have g1 := bo_iff.mp (gc_node (fun y => q (by rw [y, Nat.zero_mul]) : gc (xA s (fun q => seated s q ∨ q = p) (fun q => if q = p then t else seatF s q) 0 (-1) (-1)) r (2 * b) k ≠ 0))
        have g2 := bo_iff.mp (gc_node (fun y => q (by rw [y, Nat.mul_zero]) : gc (xA s (fun q => seated s q ∨ q = p) (fun q => if q = p then t else seatF s q) 0 (-1) (-1)) r (2 * b + 1) (set ^^^ k) ≠ 0))
        exact ⟨((pinI _ _ _).mp g1.1).2, ((pinI _ _ _).mp g2.1).2⟩
      · refine Classical.byContradiction fun q => c1 ?_
        have z0 : ∀ r b set, t / 2 ^ r = b → ¬ set.testBit p = true → gc (mA s (moP p t)) r b set = 0 := gc_zero_at (fun set => ¬ set.testBit p = true) (fun set k hq hs hk => hq (subB_iff.mp hs p hk)) (fun set hq => by
          refine Classical.byContradiction fun y => ?_
          have := (mA_ok y).2
          rcases this with u | u | u
          · omega
          · exact u rfl
          · rw [u, Nat.testBit_two_pow, decide_eq_true_iff] at hq; exact hq rfl)
        have n1 : gc (mA s (moP p t)) r (2 * b) k ≠ 0 := fun y => q (by rw [y, Nat.zero_mul])
        have n2 : gc (mA s (moP p t)) r (2 * b + 1) (set ^^^ k) ≠ 0 := fun y => q (by rw [y, Nat.mul_zero])
        have m1 : t / 2 ^ r = 2 * b → k.testBit p = true := fun y => Classical.byContradiction fun u => n1 (z0 _ _ _ y u)
        have m2 : t / 2 ^ r = 2 * b + 1 → (set ^^^ k).testBit p = true := fun y => Classical.byContradiction fun u => n2 (z0 _ _ _ y u)
        refine ⟨⟨m1, fun y => ?_⟩, ⟨m2, fun y => ?_⟩⟩
        · rcases hd.mp (h4.mpr (hb y)) with u | u
          · exact u
          · exact absurd y (hx.mp (m2 u)).2
        · rcases hd.mp (h4.mpr (hx.mp y).1) with u | u
          · exact absurd (m1 u) (hx.mp y).2
          · exact u
/-- all of STANDS -/
theorem stands_free {s : Sit} {p t : Nat} (hn : s 0 0 ≤ 10) (hn2 : 2 ≤ s 0 0) (hp : p < s 0 0) (ht : t < slotsS (s 0 0)) (hps : ¬ seated s p) : gc (xA s (fun q => seated s q ∨ q = p) (fun q => if q = p then t else seatF s q) 0 (-1) (-1)) (lastS (s 0 0)) 0 (2 ^ s 0 0 - 1) = cntM s (moP p t) (lastS (s 0 0)) 0 (2 ^ s 0 0 - 1) := by
  refine stands_pin hn hp hps _ _ _ ⟨all_lt _, Or.inr (viab_root hn hn2), Nat.le_refl _, ?_⟩
  rw [← slots_pow hn, Nat.div_eq_of_lt ht, Nat.testBit_two_pow_sub_one]
  simp [hp]
theorem top_at {s : Sit} {t : Nat} (hn : s 0 0 ≤ 10) (ht : t < slotsS (s 0 0)) : t / 2 ^ lastS (s 0 0) = 0 := by rw [← slots_pow hn, Nat.div_eq_of_lt ht]
theorem stands_taken {s : Sit} {p t q : Nat} (hn : s 0 0 ≤ 10) (ht : t < slotsS (s 0 0)) (hq : q < s 0 0) (hqs : seated s q) (hqt : seatF s q = t) (hne : q ≠ p) : cntM s (moP p t) (lastS (s 0 0)) 0 (2 ^ s 0 0 - 1) = 0 := by
  refine gc_zero_at (fun _ => True) (fun _ _ _ _ => trivial) (fun set _ => Classical.byContradiction fun y => ?_) _ _ _ (top_at hn ht) trivial
  obtain ⟨o, m⟩ := mA_ok y
  have := (o.2.2.2.2.2 q hq hqs).mp (by rw [Nat.pow_zero, Nat.div_one]; exact hqt)
  rcases m with u | u | u
  · omega
  · exact u rfl
  · rw [u, Nat.testBit_two_pow, decide_eq_true_iff] at this; omega
theorem stands_else {s : Sit} {p t : Nat} (hn : s 0 0 ≤ 10) (ht : t < slotsS (s 0 0)) (hp : p < s 0 0) (hps : seated s p) (hpt : seatF s p ≠ t) : cntM s (moP p t) (lastS (s 0 0)) 0 (2 ^ s 0 0 - 1) = 0 := by
  refine gc_zero_at (fun _ => True) (fun _ _ _ _ => trivial) (fun set _ => Classical.byContradiction fun y => ?_) _ _ _ (top_at hn ht) trivial
  obtain ⟨o, m⟩ := mA_ok y
  rcases m with u | u | u
  · omega
  · exact u rfl
  · have := (o.2.2.2.2.2 p hp hps).mpr (by rw [u, Nat.testBit_two_pow, decide_eq_true_iff])
    rw [Nat.pow_zero, Nat.div_one] at this
    exact hpt this
theorem stands_here {s : Sit} {p : Nat} (hn : s 0 0 ≤ 10) (hp : p < s 0 0) (hps : seated s p) : cntM s (moP p (seatF s p)) (lastS (s 0 0)) 0 (2 ^ s 0 0 - 1) = allS s := by
  refine gc_eq (R := fun _ _ set => set < 2 ^ s 0 0) (fun r b set hs => ?_) (fun r b set hs _ k hk => ?_) _ _ _ (all_lt _)
  · refine bo_congr ⟨fun h => ⟨h.1, trivial⟩, fun h => ⟨h.1, ?_⟩⟩
    rcases Nat.eq_zero_or_pos r with z | z
    · subst z
      by_cases y : b = seatF s p
      · have := (h.1.2.2.2.2.2 p hp hps).mp (by rw [Nat.pow_zero, Nat.div_one]; exact y.symm)
        exact Or.inr (Or.inr (pc_le1 (by have := h.1.1; rw [Nat.pow_zero] at this; exact this) (p10 hn hs) this))
      · exact Or.inr (Or.inl y)
    · exact Or.inl z
  · obtain ⟨k1, k2⟩ := subs_mem.mp hk
    exact Or.inl ⟨sub_lt k2 hs, xor_lt k2 hs⟩
theorem cnt_le_all {s : Sit} (mo : Nat → Nat → Nat → Prop) : cntM s mo (lastS (s 0 0)) 0 (2 ^ s 0 0 - 1) ≤ allS s :=
  gc_mono (fun r b set h => bo_iff.mpr ⟨(bo_iff.mp h).1, trivial⟩) _ _ _
