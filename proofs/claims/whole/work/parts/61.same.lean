/-! ===== entries that count alike ===== -/
theorem mS_same {s t : Sit} (h : SameD s t) : mS s = mS t := by
  obtain ⟨e0, e5, e6, ep⟩ := h
  have eu : ∀ a set, a = 1 ∨ a = 2 → (unl s a set ↔ unl t a set) := by
    intro a set ha
    unfold unl
    rw [← e0]
    have ev : ∀ p, p < s 0 0 → s a p = t a p := fun p hp => by
      rcases ha with rfl | rfl
      · exact (ep p hp).1
      · exact (ep p hp).2.1
    constructor
    · intro q p r hp hr hne h1 h2 he
      rw [← ev p hp, ← ev r hr] at he
      rw [← ev p hp]; exact q p r hp hr hne h1 h2 he
    · intro q p r hp hr hne h1 h2 he
      rw [ev p hp, ev r hr] at he
      rw [ev p hp]; exact q p r hp hr hne h1 h2 he
  have ee : ∀ p, p < s 0 0 → (earlyP s p ↔ earlyP t p) := fun p hp => by
    unfold earlyP byesS
    rw [(ep p hp).2.2, e0]
  have es : ∀ r b set, seatP s r b set ↔ seatP t r b set := by
    intro r b set
    unfold seatP
    rw [← e0]
    constructor
    · intro q p hp hs
      have := q p hp (by show 1 ≤ s 3 p ∧ s 3 p ≤ slotsS (s 0 0); rw [(ep p hp).2.2, e0]; exact hs)
      rw [(ep p hp).2.2] at this; exact this
    · intro q p hp hs
      have := q p hp (by show 1 ≤ t 3 p ∧ t 3 p ≤ slotsS (t 0 0); rw [← (ep p hp).2.2, ← e0]; exact hs)
      rw [← (ep p hp).2.2] at this; exact this
  funext r b set
  refine bo_congr ?_
  unfold okB
  rw [eu 1 set (Or.inl rfl), eu 2 set (Or.inr rfl), es, e5, e6]
  have : (∀ p, p < s 0 0 → set.testBit p = true → ¬ earlyP s p) ↔ (∀ p, p < t 0 0 → set.testBit p = true → ¬ earlyP t p) := by
    rw [← e0]
    exact ⟨fun q p hp hb he => q p hp hb ((ee p hp).mpr he), fun q p hp hb he => q p hp hb ((ee p hp).mp he)⟩
  rw [this]
theorem all_sameD {s t : Sit} (h : SameD s t) : allS s = allS t ∧ ∀ N k, whoS s N k = whoS t N k := by
  have em := mS_same h
  have e0 := h.1
  constructor
  · show gc (mS s) (lastS (s 0 0)) 0 (2 ^ s 0 0 - 1) = gc (mS t) (lastS (t 0 0)) 0 (2 ^ t 0 0 - 1)
    rw [em, e0]
  · intro N k
    unfold whoS
    rw [em, e0]
theorem CR_cg {I : qMI} {L : qML} {P : qMP} {a : Nat} {s t : Sit} (h : CR I L P a s) (q : ∀ x y, x ≤ 6 → t x y = s x y) : CR I L P a t := by
  have e0 : t 0 0 = s 0 0 := q 0 0 (by decide)
  have e1 : t 1 = s 1 := funext fun y => q 1 y (by decide)
  have e2 : t 2 = s 2 := funext fun y => q 2 y (by decide)
  have e3 : t 3 = s 3 := funext fun y => q 3 y (by decide)
  have e5 : t 5 0 = s 5 0 := q 5 0 (by decide)
  have e6 : t 6 0 = s 6 0 := q 6 0 (by decide)
  have es : seated t = seated s := funext fun p => by show (1 ≤ t 3 p ∧ t 3 p ≤ slotsS (t 0 0)) = _; rw [e3, e0]
  have ef : seatF t = seatF s := funext fun p => by unfold seatF; rw [e3, e0]
  have ex : xS t = xS s := by
    unfold xS
    rw [es, ef]
    funext r b set
    refine bo_congr ?_
    simp only [fitS, viab, unl, earlyP, byesS, e0, e1, e2, e3, e5, e6]
  obtain ⟨⟨c1, c2, c3⟩, c4⟩ := h
  have hr : RU SH0 I P (a + 1) t 0 (-1) (-1) := by
    simp only [RU, RG, unl, earlyP, byesS, e0, e1, e2, e3, e5, e6] at c1 ⊢
    exact c1
  unfold CR CB
  rw [es, ef, ex, e0]
  exact ⟨⟨hr, ES_cg c2 q, c3⟩, c4⟩
/-- entries of the one, the draw of the other -/
def mixS (u s : Sit) : Sit := fun x y => if x ≤ 6 then u x y else s x y
theorem mix_lo (u s : Sit) (x y : Nat) (h : x ≤ 6) : mixS u s x y = u x y := if_pos h
theorem mix_hi (u s : Sit) (x y : Nat) (h : 7 ≤ x) : mixS u s x y = s x y := if_neg (by omega)
theorem DV_mix {I : qMI} {L : qML} {P : qMP} {u s : Sit} (e : u 0 0 = s 0 0) (h : DV I L P 5 s) : DV I L P 5 (mixS u s) := by
  have e0 : mixS u s 0 0 = s 0 0 := (mix_lo u s 0 0 (by decide)).trans e
  have e8 : mixS u s 8 0 = s 8 0 := mix_hi u s 8 0 (by decide)
  have e9 : mixS u s 9 0 = s 9 0 := mix_hi u s 9 0 (by decide)
  have e11 : mixS u s 11 = s 11 := funext fun y => mix_hi u s 11 y (by decide)
  have e20 : mixS u s 20 = s 20 := funext fun y => mix_hi u s 20 y (by decide)
  have er : ∀ r, mixS u s (20 + r) = s (20 + r) := fun r => funext fun y => mix_hi u s _ y (by omega)
  unfold DV WD at h ⊢
  rw [e0, e8, e9, e11, e20]
  simp only [er]
  exact h
