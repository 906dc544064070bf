/-! ===== the draw with a number ===== -/
def RV (s : Sit) (r set : Nat) : Prop := set < 2 ^ s 0 0 ∧ (r = 0 ∨ viab s r set) ∧ r ≤ lastS (s 0 0)
theorem RV_top {s : Sit} (hn : s 0 0 ≤ 10) (hn2 : 2 ≤ s 0 0) : RV s (lastS (s 0 0)) (2 ^ s 0 0 - 1) := ⟨all_lt _, Or.inr (viab_root hn hn2), Nat.le_refl _⟩
section DW
variable {s : Sit}
theorem RV_half {r b c set k : Nat} (hn : s 0 0 ≤ 10) (h : RV s (r + 1) set) (hk : subB set k = true) (h1 : gc (mS s) r b k ≠ 0) (h2 : gc (mS s) r c (set ^^^ k) ≠ 0) : RV s r k ∧ RV s r (set ^^^ k) := by
  obtain ⟨a1, a2, a3⟩ := h
  have hv : viab s (r + 1) set := by rcases a2 with q | q <;> first | omega | exact q
  have l1 := sub_lt hk a1
  have l2 := xor_lt hk a1
  rcases Nat.eq_zero_or_pos r with z | z
  · subst z
    exact ⟨⟨l1, Or.inl rfl, Nat.zero_le _⟩, ⟨l2, Or.inl rfl, Nat.zero_le _⟩⟩
  · obtain ⟨r0, rfl⟩ : ∃ r0, r = r0 + 1 := ⟨r - 1, by omega⟩
    have e1 := mA_low r0 _ _ h1
    have e2 := mA_low r0 _ _ h2
    have hp2 : 2 ^ (r0 + 1) / 2 = 2 ^ r0 := by rw [Nat.pow_succ]; omega
    obtain ⟨v1, v2⟩ := viab_in hn a3 z hv hk (by rw [hp2]; exact e1) (mA_ok h1).1.1 (by rw [hp2]; exact e2) (mA_ok h2).1.1
    exact ⟨⟨l1, Or.inr v1, by omega⟩, ⟨l2, Or.inr v2, by omega⟩⟩
theorem RV_halfX {r b c set k : Nat} (h : RV s (r + 1) set) (hk : subB set k = true) (h1 : gc (xS s) r b k ≠ 0) (h2 : gc (xS s) r c (set ^^^ k) ≠ 0) : RV s r k ∧ RV s r (set ^^^ k) := by
  obtain ⟨a1, a2, a3⟩ := h
  have l1 := sub_lt hk a1
  have l2 := xor_lt hk a1
  rcases Nat.eq_zero_or_pos r with z | z
  · subst z
    exact ⟨⟨l1, Or.inl rfl, Nat.zero_le _⟩, ⟨l2, Or.inl rfl, Nat.zero_le _⟩⟩
  · have g1 := bo_iff.mp (gc_node h1)
    have g2 := bo_iff.mp (gc_node h2)
    exact ⟨⟨l1, Or.inr (g1.2.2 z).1, by omega⟩, ⟨l2, Or.inr (g2.2.2 z).1, by omega⟩⟩
theorem FA_same {r b set k : Nat} (hn : s 0 0 ≤ 10) (h : RV s (r + 1) set) (hk : k ∈ subs set) : FA (xS s) r b set k = FA (mS s) r b set k := by
  have hs := (subs_mem.mp hk).2
  unfold FA
  by_cases c : RV s r k ∧ RV s r (set ^^^ k)
  · rw [gc_plain hn r _ _ c.1, gc_plain hn r _ _ c.2]
  · have z1 : gc (xS s) r (2 * b) k * gc (xS s) r (2 * b + 1) (set ^^^ k) = 0 := Classical.byContradiction fun q => c (RV_halfX h hs (fun y => q (by rw [y, Nat.zero_mul])) (fun y => q (by rw [y, Nat.mul_zero])))
    have z2 : gc (mS s) r (2 * b) k * gc (mS s) r (2 * b + 1) (set ^^^ k) = 0 := Classical.byContradiction fun q => c (RV_half hn h hs (fun y => q (by rw [y, Nat.zero_mul])) (fun y => q (by rw [y, Nat.mul_zero])))
    rw [z1, z2]
theorem hq_same {N : Nat} (hn : s 0 0 ≤ 10) (hn2 : 2 ≤ s 0 0) (hN : N < allS s) : ∀ k, k ≤ lastS (s 0 0) → ∀ b, b < 2 ^ k → hq (xS s) (lastS (s 0 0)) (2 ^ s 0 0 - 1) N (lastS (s 0 0) - k) b = hq (mS s) (lastS (s 0 0)) (2 ^ s 0 0 - 1) N (lastS (s 0 0) - k) b ∧ RV s (lastS (s 0 0) - k) (hq (mS s) (lastS (s 0 0)) (2 ^ s 0 0 - 1) N (lastS (s 0 0) - k) b).1
  | 0, _, b, hb => by
    rw [Nat.sub_zero, hq_top, hq_top]
    exact ⟨rfl, RV_top hn hn2⟩
  | k + 1, hk, b, hb => by
    obtain ⟨i1, i2⟩ := hq_same hn hn2 hN k (by omega) (b / 2) (by rw [Nat.pow_succ] at hb; omega)
    have hb2 : b / 2 < 2 ^ k := by rw [Nat.pow_succ] at hb; omega
    have e : lastS (s 0 0) - k = lastS (s 0 0) - (k + 1) + 1 := by omega
    have vM := (hq_ok (A := mS s) hN k (by omega) (b / 2) hb2).1
    have vX := (hq_ok (A := xS s) (by rw [all_same hn hn2]; exact hN : N < gc (xS s) (lastS (s 0 0)) 0 (2 ^ s 0 0 - 1)) k (by omega) (b / 2) hb2).1
    rw [e] at i1 i2 vM vX
    generalize hr : lastS (s 0 0) - (k + 1) = r at *
    have hrl : r + 1 ≤ lastS (s 0 0) := by omega
    obtain ⟨h, x, y, d1, d2, d3, d4, d5, d6, d7⟩ := hq_down (b := b / 2) hrl vM
    obtain ⟨h', x', y', c1, c2, c3, c4, c5, c6, c7⟩ := hq_down (b := b / 2) hrl vX
    rw [i1] at c1 c2 c4 c5 c7
    have hs := (subs_mem.mp d2).2
    have eF : ∀ j, j ∈ subs (hq (mS s) (lastS (s 0 0)) (2 ^ s 0 0 - 1) N (r + 1) (b / 2)).1 → FA (xS s) r (b / 2) (hq (mS s) (lastS (s 0 0)) (2 ^ s 0 0 - 1) N (r + 1) (b / 2)).1 j = FA (mS s) r (b / 2) (hq (mS s) (lastS (s 0 0)) (2 ^ s 0 0 - 1) N (r + 1) (b / 2)).1 j := fun j hj => FA_same hn i2 hj
    rw [spl_congr eF, d1] at c1
    subst c1
    rw [pre_congr eF] at c5
    obtain ⟨v1, v2⟩ := RV_half (b := 2 * (b / 2)) (c := 2 * (b / 2) + 1) hn i2 hs (by omega) (by omega)
    rw [gc_plain hn r _ _ v2] at c5 c7
    have hR : 0 < gc (mS s) r (2 * (b / 2) + 1) ((hq (mS s) (lastS (s 0 0)) (2 ^ s 0 0 - 1) N (r + 1) (b / 2)).1 ^^^ h) := by omega
    have exy : x * gc (mS s) r (2 * (b / 2) + 1) ((hq (mS s) (lastS (s 0 0)) (2 ^ s 0 0 - 1) N (r + 1) (b / 2)).1 ^^^ h) + y = x' * gc (mS s) r (2 * (b / 2) + 1) ((hq (mS s) (lastS (s 0 0)) (2 ^ s 0 0 - 1) N (r + 1) (b / 2)).1 ^^^ h) + y' := by omega
    have ex : x = x' := by
      have e1 := congrArg (fun q => q / gc (mS s) r (2 * (b / 2) + 1) ((hq (mS s) (lastS (s 0 0)) (2 ^ s 0 0 - 1) N (r + 1) (b / 2)).1 ^^^ h)) exy
      rw [Nat.add_comm, Nat.add_mul_div_right _ _ hR, Nat.div_eq_of_lt d7, Nat.zero_add, Nat.add_comm, Nat.add_mul_div_right _ _ hR, Nat.div_eq_of_lt c7, Nat.zero_add] at e1
      exact e1
    subst ex
    have ey : y = y' := by omega
    subst ey
    have half : b = 2 * (b / 2) ∨ b = 2 * (b / 2) + 1 := by omega
    rcases half with z | z
    · rw [z, c3, d3]; exact ⟨rfl, v1⟩
    · rw [z, c4, d4]; exact ⟨rfl, v2⟩
theorem hq_same0 {N t : Nat} (hn : s 0 0 ≤ 10) (hn2 : 2 ≤ s 0 0) (hN : N < allS s) (ht : t < slotsS (s 0 0)) : hq (xS s) (lastS (s 0 0)) (2 ^ s 0 0 - 1) N 0 t = hq (mS s) (lastS (s 0 0)) (2 ^ s 0 0 - 1) N 0 t := by
  have := (hq_same hn hn2 hN (lastS (s 0 0)) (Nat.le_refl _) t (by rw [← slots_pow hn]; exact ht)).1
  rw [Nat.sub_self] at this
  exact this
/-- who stands in a slot of the draw with number N -/
noncomputable def whoS (s : Sit) (N t : Nat) : Nat := whoA (mS s) (lastS (s 0 0)) (2 ^ s 0 0 - 1) N t
theorem who_same {N t : Nat} (hn : s 0 0 ≤ 10) (hn2 : 2 ≤ s 0 0) (hN : N < allS s) (ht : t < slotsS (s 0 0)) : whoA (xS s) (lastS (s 0 0)) (2 ^ s 0 0 - 1) N t = whoS s N t := by
  unfold whoS whoA
  rw [hq_same0 hn hn2 hN ht]
theorem leaf_ok {N t : Nat} (hn : s 0 0 ≤ 10) (hN : N < allS s) (ht : t < slotsS (s 0 0)) : ((hq (mS s) (lastS (s 0 0)) (2 ^ s 0 0 - 1) N 0 t).1 = 0 ∧ whoS s N t = 10) ∨ ∃ p, p < s 0 0 ∧ (hq (mS s) (lastS (s 0 0)) (2 ^ s 0 0 - 1) N 0 t).1 = 2 ^ p ∧ whoS s N t = p := by
  have hv := hq_val (A := mS s) hN (Nat.zero_le _) (show t < 2 ^ (lastS (s 0 0) - 0) by rw [Nat.sub_zero, ← slots_pow hn]; exact ht)
  have hlt := hq_lt (A := mS s) (n := s 0 0) hN (Nat.zero_le _) (show t < 2 ^ (lastS (s 0 0) - 0) by rw [Nat.sub_zero, ← slots_pow hn]; exact ht)
  have ho := (mA_ok (fun z => by have z : gc (mS s) 0 t (hq (mS s) (lastS (s 0 0)) (2 ^ s 0 0 - 1) N 0 t).1 = 0 := z; omega : gc (mA s moT) 0 t (hq (mS s) (lastS (s 0 0)) (2 ^ s 0 0 - 1) N 0 t).1 ≠ 0)).1.1
  rw [Nat.pow_zero] at ho
  unfold whoS whoA
  generalize (hq (mS s) (lastS (s 0 0)) (2 ^ s 0 0 - 1) N 0 t).1 = q at *
  by_cases c : q = 0
  · exact Or.inl ⟨c, if_pos c⟩
  · right
    obtain ⟨p, hp⟩ := Nat.exists_testBit_of_ne_zero c
    have e := pc_le1 ho (p10 hn hlt) hp
    have hpn := bits_lt hlt hp
    refine ⟨p, hpn, e, ?_⟩
    rw [if_neg c, e]
    exact pc_all p (by omega)
theorem leaf_bit {N t : Nat} (hn : s 0 0 ≤ 10) (hN : N < allS s) (ht : t < slotsS (s 0 0)) : bitW (whoS s N t) = (hq (mS s) (lastS (s 0 0)) (2 ^ s 0 0 - 1) N 0 t).1 := by
  rcases leaf_ok hn hN ht with ⟨h1, h2⟩ | ⟨p, h1, h2, h3⟩
  · rw [h1, h2]; rfl
  · rw [h2, h3]
    unfold bitW
    rw [if_neg (by omega)]
noncomputable def takeS (s : Sit) (N : Nat) : Sit := fun x y => if x = 7 ∧ y = 0 then 1 else if x = 8 ∧ y = 0 then N else if x = 9 ∧ y = 0 then 0 else if x = 11 then 0 else if x = 20 then whoS s N y else s x y
theorem takeS_e (s : Sit) (N : Nat) : takeS s N 0 0 = s 0 0 ∧ takeS s N 5 0 = s 5 0 ∧ takeS s N 6 0 = s 6 0 ∧ takeS s N 7 0 = 1 ∧ takeS s N 8 0 = N ∧ takeS s N 9 0 = 0 ∧ (∀ p, takeS s N 1 p = s 1 p ∧ takeS s N 2 p = s 2 p ∧ takeS s N 3 p = s 3 p ∧ takeS s N 4 p = s 4 p ∧ takeS s N 11 p = 0 ∧ takeS s N 20 p = whoS s N p) := by
  unfold takeS
  simp
theorem take_WD {N : Nat} (hn : s 0 0 ≤ 10) (hn2 : 2 ≤ s 0 0) (hN : N < allS s) : WD (takeS s N) := by
  obtain ⟨e0, e5, e6, e7, e8, e9, ep⟩ := takeS_e s N
  have hl := lastS_le (s 0 0)
  have hsl := slots_pow hn
  have occ : ∀ t p, t < slotsS (s 0 0) → p < s 0 0 → (whoS s N t = p ↔ (hq (mS s) (lastS (s 0 0)) (2 ^ s 0 0 - 1) N 0 t).1.testBit p = true) := by
    intro t p ht hp
    rcases leaf_ok hn hN ht with ⟨h1, h2⟩ | ⟨q, h1, h2, h3⟩
    · rw [h1, h2, Nat.zero_testBit]
      constructor
      · intro z; omega
      · intro z; cases z
    · rw [h2, h3, Nat.testBit_two_pow, decide_eq_true_iff]
  have part : ∀ p, p < s 0 0 → ∃ b, b < slotsS (s 0 0) ∧ (hq (mS s) (lastS (s 0 0)) (2 ^ s 0 0 - 1) N 0 b).1.testBit p = true ∧ ∀ c, c < slotsS (s 0 0) → (hq (mS s) (lastS (s 0 0)) (2 ^ s 0 0 - 1) N 0 c).1.testBit p = true → c = b := by
    intro p hp
    have := hq_part (A := mS s) hN p (by rw [Nat.testBit_two_pow_sub_one]; exact decide_eq_true hp) (lastS (s 0 0)) (Nat.le_refl _)
    rw [Nat.sub_self, ← hsl] at this
    exact this
  unfold WD
  rw [e0, e9]
  refine ⟨Nat.zero_le _, hn2, hn, fun r k h1 h2 => ?_, fun p hp => ?_, fun j k h1 h2 h3 h4 => ?_, fun r k h1 => absurd h1 (Nat.not_lt_zero r), fun k h1 => ?_, fun k _ _ h3 => absurd (ep k).2.2.2.2.1 h3⟩
  · have : r = 0 := by omega
    subst this
    rw [TB_0] at h2
    show takeS s N 20 k < _ ∨ _ ∧ takeS s N 20 k = 10
    rw [(ep k).2.2.2.2.2]
    rcases leaf_ok hn hN h2 with ⟨-, q⟩ | ⟨p, q, -, q2⟩
    · exact Or.inr ⟨rfl, q⟩
    · exact Or.inl (by omega)
  · obtain ⟨b, b1, b2, -⟩ := part p hp
    exact ⟨b, b1, by rw [(ep b).2.2.2.2.2]; exact (occ b p b1 hp).mpr b2⟩
  · rw [(ep j).2.2.2.2.2] at h3 h4
    rw [(ep k).2.2.2.2.2] at h3
    rcases leaf_ok hn hN h1 with ⟨-, q⟩ | ⟨p, q, -, q2⟩
    · exact absurd q h4
    · obtain ⟨b, b1, b2, b3⟩ := part p q
      rw [b3 j h1 ((occ j p h1 q).mp q2), b3 k h2 ((occ k p h2 q).mp (by rw [← h3]; exact q2))]
  · rw [(ep _).2.2.2.2.2, (ep _).2.2.2.2.2]
    have tb : TB (s 0 0) 0 = 2 * TB (s 0 0) 1 := TB_half (r := 0) hn hl.1
    rw [TB_0] at tb
    have tp := TB_pow _ hn 1 hl.1
    have hv := hq_val (A := mS s) (b := k) hN hl.1 (by rw [← tp]; exact h1)
    have ho := (mA_ok (fun z => by have z : gc (mS s) 1 k (hq (mS s) (lastS (s 0 0)) (2 ^ s 0 0 - 1) N 1 k).1 = 0 := z; have hv1 := hv.1; omega : gc (mA s moT) 1 k (hq (mS s) (lastS (s 0 0)) (2 ^ s 0 0 - 1) N 1 k).1 ≠ 0)).1.2.1 rfl
    obtain ⟨h, x, y, d1, d2, d3, d4, -⟩ := hq_down (A := mS s) (r := 0) (b := k) hl.1 hv.1
    refine Classical.byContradiction fun c => ho ?_
    have c1 : whoS s N (2 * k) = 10 := Classical.byContradiction fun z => c (Or.inl z)
    have c2 : whoS s N (2 * k + 1) = 10 := Classical.byContradiction fun z => c (Or.inr z)
    have z1 : (hq (mS s) (lastS (s 0 0)) (2 ^ s 0 0 - 1) N 0 (2 * k)).1 = 0 := by rw [← leaf_bit hn hN (by omega), c1]; rfl
    have z2 : (hq (mS s) (lastS (s 0 0)) (2 ^ s 0 0 - 1) N 0 (2 * k + 1)).1 = 0 := by rw [← leaf_bit hn hN (by omega), c2]; rfl
    rw [d3] at z1
    rw [d4] at z2
    have z1 : h = 0 := z1
    have z2 : (hq (mS s) (lastS (s 0 0)) (2 ^ s 0 0 - 1) N 1 k).1 ^^^ h = 0 := z2
    rw [z1, Nat.xor_zero] at z2
    rw [z2]; decide
/-- its number is found again -/
theorem take_rank {N : Nat} (hn : s 0 0 ≤ 10) (hN : N < allS s) {f : Nat → Nat} (hf : ∀ t, t < slotsS (s 0 0) → f t = bitW (whoS s N t)) : rkS (mS s) f (lastS (s 0 0)) 0 = N := by
  have hsl := slots_pow hn
  have := (hq_rank (A := mS s) hN (fun b hb => ?_) (f := f) (fun b hb => ?_) (lastS (s 0 0)) (Nat.le_refl _) 0 (Nat.two_pow_pos _)).2
  · rw [hq_top] at this; exact this
  · unfold gc; split <;> omega
  · rw [hf b (by omega), leaf_bit hn hN (by omega)]
end DW
