/-! ===== which sets may stand in a block: the reference's way and the class's, and that they count alike ===== -/
def byesS (s : Sit) : Nat := slotsS (s 0 0) - s 0 0
def unl (s : Sit) (a set : Nat) : Prop := ∀ p q, p < s 0 0 → q < s 0 0 → p ≠ q → set.testBit p = true → set.testBit q = true → s a p = s a q → s a p = 0
def earlyP (s : Sit) (p : Nat) : Prop := 1 ≤ s 3 p ∧ s 3 p ≤ byesS s
def seatP (s : Sit) (r b set : Nat) : Prop := ∀ p, p < s 0 0 → seated s p → (seatS (slotsS (s 0 0)) (s 3 p) / 2 ^ r = b ↔ set.testBit p = true)
def okB (s : Sit) (r b set : Nat) : Prop := pc set ≤ 2 ^ r ∧ (r = 1 → pc set ≠ 0) ∧ (r = 1 → pc set = 2 → ∀ p, p < s 0 0 → set.testBit p = true → ¬ earlyP s p) ∧ (s 5 0 < r ∨ unl s 1 set) ∧ (s 6 0 < r ∨ unl s 2 set) ∧ seatP s r b set
noncomputable def bo (c : Prop) : Bool := @decide c (Classical.propDecidable c)
theorem bo_iff {c : Prop} : bo c = true ↔ c := @decide_eq_true_iff c (Classical.propDecidable c)
theorem bo_congr {c d : Prop} (h : c ↔ d) : bo c = bo d := by
  cases hc : bo c with
  | true => exact (bo_iff.mpr (h.mp (bo_iff.mp hc))).symm
  | false =>
    cases hd : bo d with
    | true => rw [bo_iff.mpr (h.mpr (bo_iff.mp hd))] at hc; cases hc
    | false => rfl
/-- the reference's nodes, with a further condition -/
noncomputable def mA (s : Sit) (mo : Nat → Nat → Nat → Prop) (r b set : Nat) : Bool := bo (okB s r b set ∧ mo r b set)
noncomputable def cntM (s : Sit) (mo : Nat → Nat → Nat → Prop) (r b set : Nat) : Nat := gc (mA s mo) r b set
def moT : Nat → Nat → Nat → Prop := fun _ _ _ => True
noncomputable def cntS (s : Sit) (r b set : Nat) : Nat := cntM s moT r b set
noncomputable def allS (s : Sit) : Nat := cntS s (lastS (s 0 0)) 0 (2 ^ s 0 0 - 1)
/-- the class's -/
def viab (s : Sit) (r set : Nat) : Prop := 2 ^ r / 2 ≤ pc set ∧ s 0 0 + 2 ^ r ≤ pc set + slotsS (s 0 0) ∧ pc set ≤ 2 ^ r ∧ pc set + (slotsS (s 0 0) - 2 ^ r) / 2 ≤ s 0 0
def fitS (s : Sit) (w : Nat) (ap tg : Int) (r set : Nat) : Prop := viab s r set ∧ (r = 1 → 2 ≤ pc set → ∀ p, p < s 0 0 → set.testBit p = true → ¬ earlyP s p) ∧ (s 5 0 < r ∨ unl s 1 set) ∧ (s 6 0 < r ∨ unl s 2 set) ∧ ((r : Int) = ap → pc (set &&& w) ≤ 1) ∧ ((r : Int) = tg → set &&& w = 0 ∨ set &&& w = w)
def pinP (n : Nat) (pn : Nat → Prop) (sg : Nat → Nat) (r b set : Nat) : Prop := ∀ p, p < n → pn p → (sg p / 2 ^ r = b ↔ set.testBit p = true)
noncomputable def xA (s : Sit) (pn : Nat → Prop) (sg : Nat → Nat) (w : Nat) (ap tg : Int) (r b set : Nat) : Bool := bo (pinP (s 0 0) pn sg r b set ∧ (r = 0 → pc set ≤ 1) ∧ (1 ≤ r → fitS s w ap tg r set))
def seatF (s : Sit) (p : Nat) : Nat := seatS (slotsS (s 0 0)) (s 3 p)
theorem gc_eq2 {A B : Nat → Nat → Nat → Bool} {R : Nat → Nat → Nat → Prop} (hn : ∀ r b set, R r b set → A r b set = B r b set ∨ (gc A r b set = 0 ∧ gc B r b set = 0))
    (hs : ∀ r b set, R (r + 1) b set → ∀ h, h ∈ subs set → (R r (2 * b) h ∧ R r (2 * b + 1) (set ^^^ h)) ∨ (gc A r (2 * b) h * gc A r (2 * b + 1) (set ^^^ h) = 0 ∧ gc B r (2 * b) h * gc B r (2 * b + 1) (set ^^^ h) = 0)) : ∀ r b set, R r b set → gc A r b set = gc B r b set
  | 0, b, set, h => by
    rcases hn 0 b set h with q | q
    · unfold gc; rw [q]
    · rw [q.1, q.2]
  | r + 1, b, set, h => by
    rcases hn (r + 1) b set h with q | q
    · unfold gc
      rw [q]
      by_cases c : B (r + 1) b set = true
      · rw [if_pos c, if_pos c]
        refine su_congr fun k hk => ?_
        rcases hs r b set h k hk with ⟨h1, h2⟩ | ⟨h1, h2⟩
        · rw [gc_eq2 hn hs r _ _ h1, gc_eq2 hn hs r _ _ h2]
        · rw [h1, h2]
      · rw [if_neg c, if_neg c]
    · rw [q.1, q.2]
theorem gc_mono {A B : Nat → Nat → Nat → Bool} (h : ∀ r b set, A r b set = true → B r b set = true) : ∀ r b set, gc A r b set ≤ gc B r b set
  | 0, b, set => by
    unfold gc
    by_cases c : A 0 b set = true
    · rw [if_pos c, if_pos (h _ _ _ c)]; exact Nat.le_refl _
    · rw [if_neg c]; exact Nat.zero_le _
  | r + 1, b, set => by
    unfold gc
    by_cases c : A (r + 1) b set = true
    · rw [if_pos c, if_pos (h _ _ _ c)]
      exact su_le fun k _ => Nat.mul_le_mul (gc_mono h r _ _) (gc_mono h r _ _)
    · rw [if_neg c]; exact Nat.zero_le _
theorem su_pos {l : List Nat} {f : Nat → Nat} (h : su l f ≠ 0) : ∃ a, a ∈ l ∧ f a ≠ 0 := by
  induction l with
  | nil => exact absurd rfl h
  | cons a l ih =>
    rw [su_cons] at h
    by_cases c : f a = 0
    · obtain ⟨b, h1, h2⟩ := ih (by omega)
      exact ⟨b, List.mem_cons_of_mem _ h1, h2⟩
    · exact ⟨a, List.mem_cons_self, c⟩
theorem gc_split {A : Nat → Nat → Nat → Bool} {r b set : Nat} (h : gc A (r + 1) b set ≠ 0) : ∃ k, k ∈ subs set ∧ gc A r (2 * b) k ≠ 0 ∧ gc A r (2 * b + 1) (set ^^^ k) ≠ 0 := by
  unfold gc at h
  by_cases c : A (r + 1) b set = true
  · rw [if_pos c] at h
    obtain ⟨k, h1, h2⟩ := su_pos h
    exact ⟨k, h1, fun q => h2 (by rw [q, Nat.zero_mul]), fun q => h2 (by rw [q, Nat.mul_zero])⟩
  · rw [if_neg c] at h; exact absurd rfl h
theorem mA_ok {s : Sit} {mo : Nat → Nat → Nat → Prop} {r b set : Nat} (h : gc (mA s mo) r b set ≠ 0) : okB s r b set ∧ mo r b set := bo_iff.mp (gc_node h)
theorem mA_low {s : Sit} {mo : Nat → Nat → Nat → Prop} : ∀ r b set, gc (mA s mo) (r + 1) b set ≠ 0 → 2 ^ r ≤ pc set
  | 0, b, set, h => by
    have := (mA_ok h).1.2.1 rfl
    rw [Nat.pow_zero]; omega
  | r + 1, b, set, h => by
    obtain ⟨k, h1, h2, h3⟩ := gc_split h
    have e1 := mA_low r _ _ h2
    have e2 := mA_low r _ _ h3
    have e3 := pc_sub (subs_mem.mp h1).2
    rw [Nat.pow_succ]; omega
theorem pcb_two {x : Nat} : ∀ n p q, p < n → q < n → p ≠ q → x.testBit p = true → x.testBit q = true → 2 ≤ pcb n x
  | 0, _, _, h, _, _, _, _ => absurd h (Nat.not_lt_zero _)
  | n + 1, p, q, hp, hq, hne, h1, h2 => by
    unfold pcb
    have one : ∀ m r, r < m → x.testBit r = true → 1 ≤ pcb m x := by
      intro m
      induction m with
      | zero => intro r h; exact absurd h (Nat.not_lt_zero _)
      | succ m ih =>
        intro r h hr
        unfold pcb
        rcases Nat.lt_succ_iff_lt_or_eq.mp h with z | rfl
        · have := ih r z hr; omega
        · rw [hr]; simp
    rcases Nat.lt_succ_iff_lt_or_eq.mp hp with z | rfl
    · rcases Nat.lt_succ_iff_lt_or_eq.mp hq with z2 | rfl
      · have := pcb_two n p q z z2 hne h1 h2; omega
      · have := one q p z h1
        rw [h2]; simp; omega
    · have := one p q (by omega) h2
      rw [h1]; simp; omega
theorem unl_one {s : Sit} {a set : Nat} (hn : s 0 0 ≤ 10) (h : pc set ≤ 1) : unl s a set := fun p q hp hq hne h1 h2 _ => by
  have := pcb_two 10 p q (by omega) (by omega) hne h1 h2
  have h : pcb 10 set ≤ 1 := h
  omega
theorem slots_pow {n : Nat} (h : n ≤ 10) : slotsS n = 2 ^ lastS n := by
  have key : ∀ m, m ≤ 10 → slotsS m = 2 ^ lastS m := by decide
  exact key n h
/-- the sizes: what a set that counts leaves to the others -/
theorem viab_in {s : Sit} {r set k : Nat} (hn : s 0 0 ≤ 10) (hr : r + 1 ≤ lastS (s 0 0)) (hr1 : 1 ≤ r) (hv : viab s (r + 1) set) (hk : subB set k = true) (h1 : 2 ^ r / 2 ≤ pc k) (h2 : pc k ≤ 2 ^ r) (h3 : 2 ^ r / 2 ≤ pc (set ^^^ k)) (h4 : pc (set ^^^ k) ≤ 2 ^ r) : viab s r k ∧ viab s r (set ^^^ k) := by
  obtain ⟨v1, v2, v3, v4⟩ := hv
  have e := pc_sub hk
  have hl := lastS_le (s 0 0)
  have hs := slots_pow hn
  have hr3 : r = 1 ∨ r = 2 ∨ r = 3 := by omega
  unfold viab
  have hq : lastS (s 0 0) = 1 ∨ lastS (s 0 0) = 2 ∨ lastS (s 0 0) = 3 ∨ lastS (s 0 0) = 4 := by omega
  generalize slotsS (s 0 0) = S at *
  generalize lastS (s 0 0) = l at *
  rcases hq with rfl | rfl | rfl | rfl <;> rcases hr3 with rfl | rfl | rfl <;> simp only [Nat.reducePow, Nat.reduceAdd, Nat.reduceDiv, Nat.reduceSub, Nat.reduceLeDiff] at * <;> omega
/-- with a condition on both sides alike, at sets of sizes that fit, class and reference count alike -/
theorem gc_same {s : Sit} {w : Nat} {ap tg : Int} {mo : Nat → Nat → Nat → Prop} (hn : s 0 0 ≤ 10)
    (hmo : ∀ r b set, set < 2 ^ s 0 0 → pc set ≤ 2 ^ r → (mo r b set ↔ (1 ≤ r → ((r : Int) = ap → pc (set &&& w) ≤ 1) ∧ ((r : Int) = tg → set &&& w = 0 ∨ set &&& w = w)))) :
    ∀ r b set, (set < 2 ^ s 0 0 ∧ (r = 0 ∨ viab s r set) ∧ r ≤ lastS (s 0 0)) → gc (xA s (seated s) (seatF s) w ap tg) r b set = gc (mA s mo) r b set := by
  refine gc_eq2 (R := fun r _ set => set < 2 ^ s 0 0 ∧ (r = 0 ∨ viab s r set) ∧ r ≤ lastS (s 0 0)) (fun r b set hR => Or.inl ?_) (fun r b set hR k hk => ?_)
  · obtain ⟨h1, h2, h3⟩ := hR
    refine bo_congr ⟨fun h => ?_, fun h => ?_⟩
    · obtain ⟨a1, a2, a3⟩ := h
      rcases Nat.eq_zero_or_pos r with z | z
      · subst z
        have p1 := a2 rfl
        exact ⟨⟨by rw [Nat.pow_zero]; exact p1, fun q => by omega, fun q => by omega, Or.inr (unl_one hn p1), Or.inr (unl_one hn p1), a1⟩, (hmo 0 b set h1 (by rw [Nat.pow_zero]; exact p1)).mpr fun q => by omega⟩
      · obtain ⟨f1, f2, f3, f4, f5, f6⟩ := a3 z
        refine ⟨⟨f1.2.2.1, fun q => ?_, fun q1 q2 => f2 q1 (by omega), f3, f4, a1⟩, (hmo r b set h1 f1.2.2.1).mpr fun _ => ⟨f5, f6⟩⟩
        have := f1.1
        rw [q] at this
        simp only [Nat.pow_one, Nat.reduceDiv] at this
        omega
    · obtain ⟨⟨o1, o2, o3, o4, o5, o6⟩, hm⟩ := h
      have hm := (hmo r b set h1 o1).mp hm
      refine ⟨o6, fun z => by rw [z, Nat.pow_zero] at o1; exact o1, fun z => ?_⟩
      obtain ⟨f5, f6⟩ := hm z
      have hv : viab s r set := by rcases h2 with q | q <;> first | omega | exact q
      refine ⟨hv, fun q1 q2 => o3 q1 ?_, o4, o5, f5, f6⟩
      rw [q1, Nat.pow_one] at o1
      omega
  · obtain ⟨h1, h2, h3⟩ := hR
    have hv : viab s (r + 1) set := by rcases h2 with q | q <;> first | omega | exact q
    obtain ⟨k1, k2⟩ := subs_mem.mp hk
    have l1 := sub_lt k2 h1
    have l2 := xor_lt k2 h1
    rcases Nat.eq_zero_or_pos r with z | z
    · subst z
      exact Or.inl ⟨⟨l1, Or.inl rfl, Nat.zero_le _⟩, ⟨l2, Or.inl rfl, Nat.zero_le _⟩⟩
    · by_cases c : (viab s r k ∧ viab s r (set ^^^ k))
      · exact Or.inl ⟨⟨l1, Or.inr c.1, by omega⟩, ⟨l2, Or.inr c.2, by omega⟩⟩
      · right
        constructor
        · rcases Nat.eq_zero_or_pos (gc (xA s (seated s) (seatF s) w ap tg) r (2 * b) k * gc (xA s (seated s) (seatF s) w ap tg) r (2 * b + 1) (set ^^^ k)) with q | q
          · exact q
          · exfalso
            have g1 := bo_iff.mp (gc_node (fun y => by rw [y, Nat.zero_mul] at q; omega : gc (xA s (seated s) (seatF s) w ap tg) r (2 * b) k ≠ 0))
            have g2 := bo_iff.mp (gc_node (fun y => by rw [y, Nat.mul_zero] at q; omega : gc (xA s (seated s) (seatF s) w ap tg) r (2 * b + 1) (set ^^^ k) ≠ 0))
            exact c ⟨(g1.2.2 z).1, (g2.2.2 z).1⟩
        · rcases Nat.eq_zero_or_pos (gc (mA s mo) r (2 * b) k * gc (mA s mo) r (2 * b + 1) (set ^^^ k)) with q | q
          · exact q
          · exfalso
            have n1 : gc (mA s mo) r (2 * b) k ≠ 0 := fun y => by rw [y, Nat.zero_mul] at q; omega
            have n2 : gc (mA s mo) r (2 * b + 1) (set ^^^ k) ≠ 0 := fun y => by rw [y, Nat.mul_zero] at q; omega
            obtain ⟨r0, rfl⟩ : ∃ r0, r = r0 + 1 := ⟨r - 1, by omega⟩
            have e1 := mA_low r0 _ _ n1
            have e2 := mA_low r0 _ _ n2
            have hp : 2 ^ (r0 + 1) / 2 = 2 ^ r0 := by rw [Nat.pow_succ]; omega
            exact c (viab_in hn h3 z hv k2 (by rw [hp]; exact e1) (mA_ok n1).1.1 (by rw [hp]; exact e2) (mA_ok n2).1.1)
theorem viab_root {s : Sit} (hn : s 0 0 ≤ 10) (hn2 : 2 ≤ s 0 0) : viab s (lastS (s 0 0)) (2 ^ s 0 0 - 1) := by
  unfold viab
  rw [pc_all _ hn]
  have key : ∀ n, n ≤ 10 → 2 ≤ n → 2 ^ lastS n / 2 ≤ n ∧ n + 2 ^ lastS n ≤ n + slotsS n ∧ n ≤ 2 ^ lastS n ∧ n + (slotsS n - 2 ^ lastS n) / 2 ≤ n := by decide
  exact key _ hn hn2
