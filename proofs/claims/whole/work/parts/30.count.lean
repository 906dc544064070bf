/-! ===== sets of players as bits, and how a block can be filled ===== -/
def pcb : Nat → Nat → Nat
  | 0, _ => 0
  | n + 1, x => pcb n x + (x.testBit n).toNat
def pc (x : Nat) : Nat := pcb 10 x
def subB (set k : Nat) : Bool := k &&& set == k
def sl (set : Nat) : Nat → List Nat
  | 0 => [0]
  | n + 1 => if set.testBit n then sl set n ++ (sl set n).map (· + 2 ^ n) else sl set n
def subs (set : Nat) : List Nat := sl set 10
theorem subB_iff {set k : Nat} : subB set k = true ↔ ∀ i, k.testBit i = true → set.testBit i = true := by
  unfold subB
  rw [beq_iff_eq]
  constructor
  · intro h i hi
    rw [← h, Nat.testBit_and] at hi
    simp only [Bool.and_eq_true] at hi
    exact hi.2
  · intro h
    apply Nat.eq_of_testBit_eq
    intro i
    rw [Nat.testBit_and]
    cases hk : k.testBit i with
    | false => rfl
    | true => rw [h i hk]; rfl
theorem sl_mem (set : Nat) : ∀ n k, k ∈ sl set n ↔ k < 2 ^ n ∧ ∀ i, i < n → k.testBit i = true → set.testBit i = true
  | 0, k => by
    unfold sl
    rw [List.mem_singleton]
    constructor
    · rintro rfl; exact ⟨by decide, fun i hi => absurd hi (Nat.not_lt_zero i)⟩
    · intro h; have := h.1; omega
  | n + 1, k => by
    have ih := sl_mem set n
    have hb : ∀ j, (j + 2 ^ n).testBit n = !j.testBit n := fun j => by rw [Nat.add_comm]; exact Nat.testBit_two_pow_add_eq j n
    have hl : ∀ j i, i < n → (j + 2 ^ n).testBit i = j.testBit i := fun j i hi => by rw [Nat.add_comm]; exact Nat.testBit_two_pow_add_gt hi j
    unfold sl
    cases hs : set.testBit n with
    | true =>
      simp only [if_true]
      rw [List.mem_append, List.mem_map, ih]
      constructor
      · rintro (⟨h1, h2⟩ | ⟨j, hj, rfl⟩)
        · refine ⟨by rw [Nat.pow_succ]; omega, fun i hi q => ?_⟩
          rcases Nat.lt_succ_iff_lt_or_eq.mp hi with z | rfl
          · exact h2 i z q
          · exact hs
        · obtain ⟨h1, h2⟩ := (ih j).mp hj
          refine ⟨by rw [Nat.pow_succ]; omega, fun i hi q => ?_⟩
          rcases Nat.lt_succ_iff_lt_or_eq.mp hi with z | rfl
          · rw [hl j i z] at q; exact h2 i z q
          · exact hs
      · rintro ⟨h1, h2⟩
        rw [Nat.pow_succ] at h1
        rcases Nat.lt_or_ge k (2 ^ n) with z | z
        · exact Or.inl ⟨z, fun i hi q => h2 i (by omega) q⟩
        · right
          refine ⟨k - 2 ^ n, (ih _).mpr ⟨by omega, fun i hi q => ?_⟩, by omega⟩
          have := hl (k - 2 ^ n) i hi
          rw [Nat.sub_add_cancel z] at this
          exact h2 i (by omega) (by rw [this]; exact q)
    | false =>
      simp only [if_false, Bool.false_eq_true]
      rw [ih]
      constructor
      · rintro ⟨h1, h2⟩
        refine ⟨by rw [Nat.pow_succ]; omega, fun i hi q => ?_⟩
        rcases Nat.lt_succ_iff_lt_or_eq.mp hi with z | rfl
        · exact h2 i z q
        · rw [Nat.testBit_lt_two_pow h1] at q; cases q
      · rintro ⟨h1, h2⟩
        rw [Nat.pow_succ] at h1
        refine ⟨?_, fun i hi q => h2 i (by omega) q⟩
        rcases Nat.lt_or_ge k (2 ^ n) with z | z
        · exact z
        · have e := hb (k - 2 ^ n)
          rw [Nat.sub_add_cancel z, Nat.testBit_lt_two_pow (show k - 2 ^ n < 2 ^ n by omega)] at e
          have := h2 n (by omega) e
          rw [hs] at this; cases this
theorem sl_sorted (set : Nat) : ∀ n, (sl set n).Pairwise (· < ·)
  | 0 => List.pairwise_singleton _ _
  | n + 1 => by
    have ih := sl_sorted set n
    unfold sl
    cases hs : set.testBit n with
    | true =>
      simp only [if_true]
      rw [List.pairwise_append]
      refine ⟨ih, ?_, fun a ha b hb => ?_⟩
      · rw [List.pairwise_map]
        exact ih.imp (fun h => Nat.add_lt_add_right h _)
      · obtain ⟨j, _, rfl⟩ := List.mem_map.mp hb
        have := ((sl_mem set n a).mp ha).1
        omega
    | false => simp only [if_false, Bool.false_eq_true]; exact ih
theorem big_bit {k n i : Nat} (h : k < 2 ^ n) (hi : n ≤ i) : k.testBit i = false := Nat.testBit_lt_two_pow (Nat.lt_of_lt_of_le h (Nat.pow_le_pow_right (by decide) hi))
theorem subs_mem {set k : Nat} : k ∈ subs set ↔ k < 1024 ∧ subB set k = true := by
  unfold subs
  rw [sl_mem, subB_iff]
  constructor
  · rintro ⟨h1, h2⟩
    refine ⟨h1, fun i hi => ?_⟩
    rcases Nat.lt_or_ge i 10 with z | z
    · exact h2 i z hi
    · rw [big_bit h1 z] at hi; cases hi
  · rintro ⟨h1, h2⟩
    exact ⟨h1, fun i _ => h2 i⟩
theorem subs_sorted (set : Nat) : (subs set).Pairwise (· < ·) := sl_sorted set 10
theorem subs_nodup (set : Nat) : (subs set).Nodup := (subs_sorted set).imp (fun h => Nat.ne_of_lt h)
theorem pcb_sub {set k : Nat} (h : ∀ i, k.testBit i = true → set.testBit i = true) : ∀ n, pcb n (set ^^^ k) + pcb n k = pcb n set
  | 0 => rfl
  | n + 1 => by
    have ih := pcb_sub h n
    unfold pcb
    rw [Nat.testBit_xor]
    have hn := h n
    cases hk : k.testBit n <;> cases hs : set.testBit n <;> simp_all <;> omega
theorem pc_sub {set k : Nat} (h : subB set k = true) : pc (set ^^^ k) + pc k = pc set := pcb_sub (subB_iff.mp h) 10
theorem sub_lt {set k n : Nat} (h : subB set k = true) (hs : set < 2 ^ n) : k < 2 ^ n := by
  have : k = k &&& set := (beq_iff_eq.mp h).symm
  rw [this]
  exact Nat.lt_of_le_of_lt Nat.and_le_right hs
theorem sub_xor {set k : Nat} (h : subB set k = true) : subB set (set ^^^ k) = true := by
  rw [subB_iff] at h ⊢
  intro i hi
  rw [Nat.testBit_xor] at hi
  have := h i
  cases hk : k.testBit i <;> cases hs : set.testBit i <;> simp_all
theorem xor_lt {set k n : Nat} (h : subB set k = true) (hs : set < 2 ^ n) : (set ^^^ k) < 2 ^ n := sub_lt (sub_xor h) hs
theorem pcb_le : ∀ n x, pcb n x ≤ n
  | 0, _ => Nat.le_refl 0
  | n + 1, x => by
    have := pcb_le n x
    unfold pcb
    cases x.testBit n <;> simp <;> omega
theorem pc_all : ∀ n, n ≤ 10 → pc (2 ^ n - 1) = n := by decide +kernel
theorem sub_all {n set : Nat} (h : set < 2 ^ n) : subB (2 ^ n - 1) set = true := by
  rw [subB_iff]
  intro i hi
  rw [Nat.testBit_two_pow_sub_one]
  rcases Nat.lt_or_ge i n with q | q
  · exact decide_eq_true q
  · have := Nat.testBit_lt_two_pow (Nat.lt_of_lt_of_le h (Nat.pow_le_pow_right (by decide) q))
    rw [this] at hi
    cases hi
theorem pc_le_n {n set : Nat} (hn : n ≤ 10) (h : set < 2 ^ n) : pc set ≤ n := by
  have := pc_sub (sub_all h)
  rw [pc_all n hn] at this
  omega
/-! the order of the subsets -/
def nx (set p : Nat) : Nat := ((p + 1024 - set) % 1024) &&& set
def it (set : Nat) : Nat → Nat
  | 0 => 0
  | i + 1 => nx set (it set i)
def itL (set : Nat) : Nat → Nat → List Nat
  | 0, _ => []
  | n + 1, p => p :: itL set n (nx set p)
def chkS (set : Nat) : Bool := subs set == itL set (2 ^ pc set) 0 && ((subs set).zip ((subs set).drop 1)).all (fun q => ((q.2 - 1) &&& set) == q.1) && (subs set).getLast? == some set
theorem chk_all : (List.range 1024).all chkS = true := by decide +kernel
