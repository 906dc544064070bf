/-! ===== sums over the subsets of a set, in their order ===== -/
def su (l : List Nat) (f : Nat → Nat) : Nat := (l.map f).sum
theorem su_nil (f : Nat → Nat) : su [] f = 0 := rfl
theorem su_cons (a : Nat) (l : List Nat) (f : Nat → Nat) : su (a :: l) f = f a + su l f := by simp [su]
theorem su_app (l m : List Nat) (f : Nat → Nat) : su (l ++ m) f = su l f + su m f := by simp [su, List.sum_append_nat]
theorem su_congr {l : List Nat} {f g : Nat → Nat} (h : ∀ a, a ∈ l → f a = g a) : su l f = su l g := by
  unfold su
  rw [List.map_congr_left h]
theorem su_zero {l : List Nat} {f : Nat → Nat} (h : ∀ a, a ∈ l → f a = 0) : su l f = 0 := by
  induction l with
  | nil => rfl
  | cons a l ih => rw [su_cons, h a List.mem_cons_self, ih (fun b hb => h b (List.mem_cons_of_mem _ hb))]
theorem su_le {l : List Nat} {f g : Nat → Nat} (h : ∀ a, a ∈ l → f a ≤ g a) : su l f ≤ su l g := by
  induction l with
  | nil => exact Nat.le_refl 0
  | cons a l ih =>
    rw [su_cons, su_cons]
    exact Nat.add_le_add (h a List.mem_cons_self) (ih (fun b hb => h b (List.mem_cons_of_mem _ hb)))
theorem su_add (l : List Nat) (f g : Nat → Nat) : su l (fun a => f a + g a) = su l f + su l g := by
  induction l with
  | nil => rfl
  | cons a l ih => rw [su_cons, su_cons, su_cons, ih]; omega
theorem su_const (l : List Nat) (c : Nat) : su l (fun _ => c) = l.length * c := by
  induction l with
  | nil => simp [su]
  | cons a l ih => rw [su_cons, ih, List.length_cons, Nat.succ_mul, Nat.add_comm]
theorem su_mem {l : List Nat} {f : Nat → Nat} {a : Nat} (h : a ∈ l) : f a ≤ su l f := by
  induction l with
  | nil => cases h
  | cons b l ih =>
    rw [su_cons]
    rcases List.mem_cons.mp h with rfl | h
    · omega
    · have := ih h; omega
theorem su_perm {l m : List Nat} (h : l.Perm m) (f : Nat → Nat) : su l f = su m f := (h.map f).sum_nat
theorem su_same {l m : List Nat} (hl : l.Nodup) (hm : m.Nodup) (h : ∀ a, a ∈ l ↔ a ∈ m) (f : Nat → Nat) : su l f = su m f := su_perm ((List.perm_ext_iff_of_nodup hl hm).mpr h) f
theorem su_filter (l : List Nat) (p : Nat → Bool) (f : Nat → Nat) : su (l.filter p) f = su l (fun a => if p a = true then f a else 0) := by
  induction l with
  | nil => rfl
  | cons a l ih =>
    rw [su_cons, List.filter_cons]
    cases hp : p a with
    | true => simp only [if_true]; rw [su_cons, ih]
    | false => simp only [Bool.false_eq_true, if_false]; rw [ih]; omega
theorem su_map (l : List Nat) (g f : Nat → Nat) : su (l.map g) f = su l (fun a => f (g a)) := by
  unfold su
  rw [List.map_map]
  rfl
/-! the order -/
theorem itL_map (set : Nat) : ∀ n j, itL set n (it set j) = (List.range n).map (fun i => it set (j + i))
  | 0, _ => rfl
  | n + 1, j => by
    unfold itL
    rw [show nx set (it set j) = it set (j + 1) from rfl, itL_map set n (j + 1), List.range_succ_eq_map, List.map_cons, List.map_map]
    refine congrArg (List.cons _) (List.map_congr_left fun i _ => ?_)
    show it set (j + 1 + i) = it set (j + (i + 1))
    rw [Nat.add_right_comm, Nat.add_assoc]
theorem chk_at {set : Nat} (h : set < 1024) : chkS set = true := List.all_eq_true.mp chk_all set (List.mem_range.mpr h)
theorem subs_it {set : Nat} (h : set < 1024) : subs set = (List.range (2 ^ pc set)).map (it set) := by
  have c := chk_at h
  unfold chkS at c
  simp only [Bool.and_eq_true, beq_iff_eq] at c
  rw [c.1.1, show (0 : Nat) = it set 0 from rfl, itL_map]
  exact List.map_congr_left fun i _ => by rw [Nat.zero_add]
theorem subs_len {set : Nat} (h : set < 1024) : (subs set).length = 2 ^ pc set := by rw [subs_it h]; simp
theorem subs_get {set i : Nat} (h : set < 1024) (hi : i < 2 ^ pc set) : (subs set)[i]? = some (it set i) := by rw [subs_it h]; simp [hi]
theorem it_mem {set i : Nat} (h : set < 1024) (hi : i < 2 ^ pc set) : it set i ∈ subs set := List.mem_of_getElem? (subs_get h hi)
theorem it_lt {set i j : Nat} (h : set < 1024) (hij : i < j) (hj : j < 2 ^ pc set) : it set i < it set j := by
  have hs := subs_sorted set
  have hl := subs_len h
  have e1 := subs_get h (Nat.lt_trans hij hj)
  have e2 := subs_get h hj
  have k1 : i < (subs set).length := by omega
  have k2 : j < (subs set).length := by omega
  rw [List.getElem?_eq_getElem k1] at e1
  rw [List.getElem?_eq_getElem k2] at e2
  have := List.pairwise_iff_getElem.mp hs i j k1 k2 hij
  rw [Option.some.inj e1, Option.some.inj e2] at this
  exact this
theorem it_ex {set k : Nat} (h : set < 1024) (hk : k ∈ subs set) : ∃ i, i < 2 ^ pc set ∧ it set i = k := by
  rw [subs_it h] at hk
  obtain ⟨i, hi, e⟩ := List.mem_map.mp hk
  exact ⟨i, List.mem_range.mp hi, e⟩
theorem it_dn {set i : Nat} (h : set < 1024) (hi : i + 1 < 2 ^ pc set) : (it set (i + 1) - 1) &&& set = it set i := by
  have c := chk_at h
  unfold chkS at c
  simp only [Bool.and_eq_true] at c
  have c2 := List.all_eq_true.mp c.1.2
  have e1 := subs_get h (Nat.lt_trans (Nat.lt_succ_self i) hi)
  have e2 := subs_get h hi
  have hz : ((subs set).zip ((subs set).drop 1))[i]? = some (it set i, it set (i + 1)) := by
    rw [List.getElem?_zip_eq_some]
    refine ⟨e1, ?_⟩
    rw [List.getElem?_drop, Nat.add_comm 1 i]
    exact e2
  exact beq_iff_eq.mp (c2 _ (List.mem_of_getElem? hz))
theorem it_last {set : Nat} (h : set < 1024) : it set (2 ^ pc set - 1) = set := by
  have c := chk_at h
  unfold chkS at c
  simp only [Bool.and_eq_true, beq_iff_eq] at c
  have hp := Nat.two_pow_pos (pc set)
  have c3 := c.2
  rw [List.getLast?_eq_getElem?, subs_len h, subs_get h (by omega)] at c3
  exact Option.some.inj c3
theorem it_sub {set i : Nat} (h : set < 1024) (hi : i < 2 ^ pc set) : subB set (it set i) = true ∧ it set i < 1024 := by
  have := subs_mem.mp (it_mem h hi)
  exact ⟨this.2, this.1⟩
/-- the first i of them -/
def ps (set : Nat) (f : Nat → Nat) (i : Nat) : Nat := su (List.range i) (fun j => f (it set j))
theorem ps_0 (set : Nat) (f : Nat → Nat) : ps set f 0 = 0 := rfl
theorem ps_succ (set : Nat) (f : Nat → Nat) (i : Nat) : ps set f (i + 1) = ps set f i + f (it set i) := by
  unfold ps
  rw [List.range_succ, su_app, su_cons, su_nil]; rfl
theorem ps_all {set : Nat} (h : set < 1024) (f : Nat → Nat) : ps set f (2 ^ pc set) = su (subs set) f := by
  rw [subs_it h, su_map]; rfl
/-- those below h -/
def pre (set : Nat) (f : Nat → Nat) (h : Nat) : Nat := su ((subs set).filter (fun k => decide (k < h))) f
theorem pre_it {set i : Nat} (h : set < 1024) (hi : i < 2 ^ pc set) (f : Nat → Nat) : pre set f (it set i) = ps set f i := by
  unfold pre ps
  rw [show su (List.range i) (fun j => f (it set j)) = su ((List.range i).map (it set)) f from (su_map _ _ _).symm]
  refine su_same ((subs_nodup set).filter _) ?_ (fun a => ?_) f
  · rw [List.nodup_iff_pairwise_ne, List.pairwise_map]
    refine List.pairwise_lt_range.imp_of_mem fun {a b} ha hb hab => ?_
    have := List.mem_range.mp hb
    exact Nat.ne_of_lt (it_lt h hab (by omega))
  · rw [List.mem_filter, List.mem_map]
    constructor
    · rintro ⟨h1, h2⟩
      obtain ⟨j, hj, rfl⟩ := it_ex h h1
      refine ⟨j, List.mem_range.mpr ?_, rfl⟩
      have h2 := of_decide_eq_true h2
      rcases Nat.lt_or_ge j i with z | z
      · exact z
      · rcases Nat.lt_or_eq_of_le z with z | rfl
        · have := it_lt h z hj; omega
        · omega
    · rintro ⟨j, hj, rfl⟩
      have hj := List.mem_range.mp hj
      exact ⟨it_mem h (by omega), decide_eq_true (it_lt h hj hi)⟩
def smF (f : Nat → Nat) (h : Nat) : Nat := su (List.range h) f
theorem smF_0 (f : Nat → Nat) : smF f 0 = 0 := rfl
theorem smF_succ (f : Nat → Nat) (h : Nat) : smF f (h + 1) = smF f h + f h := by
  unfold smF
  rw [List.range_succ, su_app, su_cons, su_nil]; rfl
theorem smF_pre {set h : Nat} (hh : h ≤ 1024) (f : Nat → Nat) : smF (fun k => if subB set k = true then f k else 0) h = pre set f h := by
  unfold smF pre
  rw [← su_filter]
  refine su_same (List.nodup_range.filter _) ((subs_nodup set).filter _) (fun a => ?_) f
  rw [List.mem_filter, List.mem_filter, List.mem_range, subs_mem]
  constructor
  · rintro ⟨h1, h2⟩; exact ⟨⟨by omega, h2⟩, decide_eq_true h1⟩
  · rintro ⟨⟨h1, h2⟩, h3⟩; exact ⟨of_decide_eq_true h3, h2⟩
theorem pre_all (set : Nat) (f : Nat → Nat) : pre set f 1024 = su (subs set) f := by
  unfold pre
  rw [List.filter_eq_self.mpr]
  intro a ha
  exact decide_eq_true (subs_mem.mp ha).1
theorem pre_mono {set a b : Nat} (f : Nat → Nat) (h : a ≤ b) : pre set f a ≤ pre set f b := by
  unfold pre
  rw [su_filter, su_filter]
  refine su_le fun k _ => ?_
  by_cases c : k < a
  · simp only [decide_eq_true c, decide_eq_true (Nat.lt_of_lt_of_le c h)]; exact Nat.le_refl _
  · simp only [decide_eq_false c]; exact Nat.zero_le _
theorem pre_next {set k : Nat} (f : Nat → Nat) (h : k ∈ subs set) : pre set f (k + 1) = pre set f k + f k := by
  have h1 := subs_mem.mp h
  rw [← smF_pre (by omega) f, ← smF_pre (by omega) f, smF_succ, if_pos h1.2]
theorem pre_congr {set : Nat} {f g : Nat → Nat} (h : ∀ k, k ∈ subs set → f k = g k) (a : Nat) : pre set f a = pre set g a := by
  unfold pre
  exact su_congr fun k hk => h k (List.mem_filter.mp hk).1
/-- the subset in whose share a number falls -/
def spl (set : Nat) (f : Nat → Nat) (N : Nat) : Nat := ((subs set).find? (fun h => decide (N < pre set f (h + 1)))).getD 0
theorem spl_congr {set : Nat} {f g : Nat → Nat} (h : ∀ k, k ∈ subs set → f k = g k) (N : Nat) : spl set f N = spl set g N := by
  unfold spl
  rw [show (fun h => decide (N < pre set f (h + 1))) = fun h => decide (N < pre set g (h + 1)) from funext fun k => by rw [pre_congr h]]
theorem spl_eq {set h N : Nat} {f : Nat → Nat} (hm : h ∈ subs set) (h1 : pre set f h ≤ N) (h2 : N < pre set f h + f h) : spl set f N = h := by
  unfold spl
  cases hf : (subs set).find? (fun h => decide (N < pre set f (h + 1))) with
  | none =>
    have := List.find?_eq_none.mp hf h hm
    rw [pre_next f hm] at this
    exact absurd (decide_eq_true h2) this
  | some k =>
    show k = h
    have hk := List.find?_some hf
    have hk := of_decide_eq_true hk
    have hkm := List.mem_of_find?_eq_some hf
    rcases Nat.lt_trichotomy k h with z | z | z
    · have := pre_mono (set := set) f (show k + 1 ≤ h by omega); omega
    · exact z
    · obtain ⟨hp, as, bs, e, hno⟩ := List.find?_eq_some_iff_append.mp hf
      have hh : h ∈ as := by
        have hs := subs_sorted set
        rw [e] at hs hm
        rcases List.mem_append.mp hm with q | q
        · exact q
        · exfalso
          rw [List.pairwise_append] at hs
          have hs2 := List.pairwise_cons.mp hs.2.1
          rcases List.mem_cons.mp q with rfl | q
          · omega
          · have := hs2.1 h q; omega
      have := hno h hh
      rw [pre_next f hm, decide_eq_true h2] at this
      cases this
theorem spl_ex {set N : Nat} {f : Nat → Nat} (h : N < su (subs set) f) : spl set f N ∈ subs set ∧ pre set f (spl set f N) ≤ N ∧ N < pre set f (spl set f N) + f (spl set f N) := by
  have key : ∀ m, m ≤ 1024 → N < pre set f m → ∃ k, k ∈ subs set ∧ pre set f k ≤ N ∧ N < pre set f k + f k := by
    intro m
    induction m with
    | zero =>
      intro _ hm
      rw [← smF_pre (by omega) f] at hm
      exact absurd hm (Nat.not_lt_zero N)
    | succ m ih =>
      intro hm hN
      rcases Nat.lt_or_ge N (pre set f m) with z | z
      · exact ih (by omega) z
      · by_cases c : m ∈ subs set
        · exact ⟨m, c, z, by rw [pre_next f c] at hN; exact hN⟩
        · exfalso
          have hc : subB set m ≠ true := fun q => c (subs_mem.mpr ⟨by omega, q⟩)
          rw [← smF_pre (by omega) f, smF_succ, if_neg hc, smF_pre (by omega) f] at hN
          omega
  obtain ⟨k, h1, h2, h3⟩ := key 1024 (Nat.le_refl _) (by rw [pre_all]; exact h)
  rw [spl_eq h1 h2 h3]
  exact ⟨h1, h2, h3⟩
/-- counts, block by block -/
def gc (A : Nat → Nat → Nat → Bool) : Nat → Nat → Nat → Nat
  | 0, b, set => if A 0 b set = true then 1 else 0
  | r + 1, b, set => if A (r + 1) b set = true then su (subs set) (fun h => gc A r (2 * b) h * gc A r (2 * b + 1) (set ^^^ h)) else 0
theorem gc_node {A : Nat → Nat → Nat → Bool} {r b set : Nat} (h : gc A r b set ≠ 0) : A r b set = true := by
  cases r with
  | zero =>
    unfold gc at h
    by_cases c : A 0 b set = true
    · exact c
    · rw [if_neg c] at h; exact absurd rfl h
  | succ r =>
    unfold gc at h
    by_cases c : A (r + 1) b set = true
    · exact c
    · rw [if_neg c] at h; exact absurd rfl h
/-- two ways to count agree where it matters -/
theorem gc_eq {A B : Nat → Nat → Nat → Bool} {R : Nat → Nat → Nat → Prop} (hn : ∀ r b set, R r b set → A r b set = B r b set)
    (hs : ∀ r b set, R (r + 1) b set → A (r + 1) b set = true → ∀ h, h ∈ subs set → (R r (2 * b) h ∧ R r (2 * b + 1) (set ^^^ h)) ∨ (gc A r (2 * b) h * gc A r (2 * b + 1) (set ^^^ h) = 0 ∧ gc B r (2 * b) h * gc B r (2 * b + 1) (set ^^^ h) = 0)) : ∀ r b set, R r b set → gc A r b set = gc B r b set
  | 0, b, set, h => by
    unfold gc
    rw [hn 0 b set h]
  | r + 1, b, set, h => by
    unfold gc
    rw [← hn (r + 1) b set h]
    by_cases c : A (r + 1) b set = true
    · rw [if_pos c, if_pos c]
      refine su_congr fun k hk => ?_
      rcases hs r b set h c k hk with ⟨h1, h2⟩ | ⟨h1, h2⟩
      · rw [gc_eq hn hs r _ _ h1, gc_eq hn hs r _ _ h2]
      · rw [h1, h2]
    · rw [if_neg c, if_neg c]
/-- no more ways than places -/
theorem gc_le {A : Nat → Nat → Nat → Bool} : ∀ r b set, set < 1024 → gc A r b set ≤ (2 ^ r) ^ pc set
  | 0, b, set, _ => by
    unfold gc
    rw [Nat.pow_zero, Nat.one_pow]
    split <;> omega
  | r + 1, b, set, hs => by
    unfold gc
    split
    · have h1 : su (subs set) (fun h => gc A r (2 * b) h * gc A r (2 * b + 1) (set ^^^ h)) ≤ su (subs set) (fun _ => (2 ^ r) ^ pc set) := by
        refine su_le fun k hk => ?_
        obtain ⟨k1, k2⟩ := subs_mem.mp hk
        refine Nat.le_trans (Nat.mul_le_mul (gc_le r _ k k1) (gc_le r _ _ (xor_lt (n := 10) k2 hs))) ?_
        rw [← Nat.pow_add, Nat.add_comm, pc_sub k2]
        exact Nat.le_refl _
      rw [su_const, subs_len hs, ← Nat.mul_pow] at h1
      rw [show (2 : Nat) ^ (r + 1) = 2 * 2 ^ r from by rw [Nat.pow_succ, Nat.mul_comm]]
      exact h1
    · exact Nat.zero_le _
theorem gc_small {A : Nat → Nat → Nat → Bool} {r b set : Nat} (hr : r ≤ 4) (hs : set < 1024) : gc A r b set ≤ 1099511627776 := by
  refine Nat.le_trans (gc_le r b set hs) ?_
  rw [← Nat.pow_mul, show (1099511627776 : Nat) = 2 ^ 40 from rfl]
  refine Nat.pow_le_pow_right (by decide) ?_
  have : pc set ≤ 10 := pcb_le 10 set
  calc r * pc set ≤ 4 * 10 := Nat.mul_le_mul hr this
    _ = 40 := rfl
