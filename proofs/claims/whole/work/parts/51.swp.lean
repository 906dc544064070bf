/-! ===== two that changed: lawful where all blocks are ===== -/
section SW
variable {s : Sit} {g : Nat → Nat}
theorem setR_sub {n r b : Nat} (h : FO n g) (hn : n ≤ 10) : subB (setR g (r + 1) b) (setR g r (2 * b)) = true ∧ setR g (r + 1) b ^^^ setR g r (2 * b) = setR g r (2 * b + 1) := by
  obtain ⟨h1, h2⟩ := (setR_dis h r b).resolve_right (by omega)
  exact ⟨(subs_mem.mp h2).2, h1⟩
/-- lawful blocks: each can be filled -/
theorem all_pos (hn : s 0 0 ≤ 10) (hg : FO (s 0 0) g) (hO : ∀ r b, r ≤ lastS (s 0 0) → b < TB (s 0 0) r → okB s r b (setR g r b)) : ∀ r b, r ≤ lastS (s 0 0) → b < TB (s 0 0) r → gc (mS s) r b (setR g r b) ≠ 0
  | 0, b, h1, h2 => by
    unfold gc
    rw [if_pos (show mS s 0 b (setR g 0 b) = true from bo_iff.mpr ⟨hO 0 b h1 h2, trivial⟩)]
    decide
  | r + 1, b, h1, h2 => by
    have tb := TB_half hn h1
    have i1 := all_pos hn hg hO r (2 * b) (by omega) (by omega)
    have i2 := all_pos hn hg hO r (2 * b + 1) (by omega) (by omega)
    obtain ⟨k1, k2⟩ := setR_sub (r := r) (b := b) hg hn
    have hA : mS s (r + 1) b (setR g (r + 1) b) = true := bo_iff.mpr ⟨hO (r + 1) b h1 h2, trivial⟩
    rw [gc_step hA]
    have hm : setR g r (2 * b) ∈ subs (setR g (r + 1) b) := subs_mem.mpr ⟨p10 hn (setR_lt hg r _), k1⟩
    have := su_mem (f := fun h => gc (mS s) r (2 * b) h * gc (mS s) r (2 * b + 1) (setR g (r + 1) b ^^^ h)) hm
    simp only [k2] at this
    have hp := Nat.mul_pos (Nat.pos_of_ne_zero i1) (Nat.pos_of_ne_zero i2)
    omega
theorem all_RV (hn : s 0 0 ≤ 10) (hn2 : 2 ≤ s 0 0) (hg : FO (s 0 0) g) (ht : setR g (lastS (s 0 0)) 0 = 2 ^ s 0 0 - 1) (hc : ∀ r b, r ≤ lastS (s 0 0) → b < TB (s 0 0) r → gc (mS s) r b (setR g r b) ≠ 0) : ∀ k, k ≤ lastS (s 0 0) → ∀ b, b < TB (s 0 0) (lastS (s 0 0) - k) → RV s (lastS (s 0 0) - k) (setR g (lastS (s 0 0) - k) b)
  | 0, _, b, hb => by
    rw [Nat.sub_zero] at hb ⊢
    rw [TB_last _ hn] at hb
    have : b = 0 := by omega
    subst this
    rw [ht]
    exact RV_top hn hn2
  | k + 1, hk, b, hb => by
    generalize hr : lastS (s 0 0) - (k + 1) = r at *
    have e : lastS (s 0 0) - k = r + 1 := by omega
    have hrl : r + 1 ≤ lastS (s 0 0) := by omega
    have tb := TB_half hn hrl
    have ih := all_RV hn hn2 hg ht hc k (by omega) (b / 2) (by rw [e]; omega)
    rw [e] at ih
    obtain ⟨k1, k2⟩ := setR_sub (r := r) (b := b / 2) hg hn
    have := RV_half (b := 2 * (b / 2)) (c := 2 * (b / 2) + 1) hn ih k1 (hc r _ (by omega) (by omega)) (by rw [k2]; exact hc r _ (by omega) (by omega))
    rw [k2] at this
    have half : b = 2 * (b / 2) ∨ b = 2 * (b / 2) + 1 := by omega
    rcases half with z | z
    · rw [z]; exact this.1
    · rw [z]; exact this.2
theorem all_RV2 (hn : s 0 0 ≤ 10) (hn2 : 2 ≤ s 0 0) (hg : FO (s 0 0) g) (ht : setR g (lastS (s 0 0)) 0 = 2 ^ s 0 0 - 1) (hO : ∀ r b, r ≤ lastS (s 0 0) → b < TB (s 0 0) r → okB s r b (setR g r b)) {r b : Nat} (hr : r ≤ lastS (s 0 0)) (hb : b < TB (s 0 0) r) : RV s r (setR g r b) := by
  have := all_RV hn hn2 hg ht (all_pos hn hg hO) (lastS (s 0 0) - r) (by omega) b (by rw [show lastS (s 0 0) - (lastS (s 0 0) - r) = r by omega]; exact hb)
  rw [show lastS (s 0 0) - (lastS (s 0 0) - r) = r by omega] at this
  exact this
theorem AllJ_iff (hn : s 0 0 ≤ 10) (hn2 : 2 ≤ s 0 0) (hg : FO (s 0 0) g) (ht : setR g (lastS (s 0 0)) 0 = 2 ^ s 0 0 - 1) : AllJ (xS s) (s 0 0) g ↔ ∀ r b, r ≤ lastS (s 0 0) → b < TB (s 0 0) r → okB s r b (setR g r b) := by
  constructor
  · intro h r b h1 h2
    obtain ⟨a1, a2, a3⟩ := bo_iff.mp (gc_node (h r b h1 h2))
    rcases Nat.eq_zero_or_pos r with z | z
    · subst z
      have q1 := a2 rfl
      exact ⟨by rw [Nat.pow_zero]; exact q1, fun q => by omega, fun q => by omega, Or.inr (unl_one hn q1), Or.inr (unl_one hn q1), a1⟩
    · obtain ⟨f1, f2, f3, f4, f5, f6⟩ := a3 z
      refine ⟨f1.2.2.1, fun q => ?_, fun q1 q2 => f2 q1 (by omega), f3, f4, a1⟩
      have := f1.1
      rw [q] at this
      simp only [Nat.pow_one, Nat.reduceDiv] at this
      rw [q]; omega
  · intro hO r b h1 h2
    rw [gc_plain hn r b _ (all_RV2 hn hn2 hg ht hO h1 h2)]
    exact all_pos hn hg hO r b h1 h2
theorem rk_same (hn : s 0 0 ≤ 10) (hn2 : 2 ≤ s 0 0) (hg : FO (s 0 0) g) (ht : setR g (lastS (s 0 0)) 0 = 2 ^ s 0 0 - 1) (hO : ∀ r b, r ≤ lastS (s 0 0) → b < TB (s 0 0) r → okB s r b (setR g r b)) : ∀ r b, r ≤ lastS (s 0 0) → b < TB (s 0 0) r → rkS (xS s) g r b = rkS (mS s) g r b
  | 0, _, _, _ => rfl
  | r + 1, b, h1, h2 => by
    have tb := TB_half hn h1
    show pre (setR g (r + 1) b) (FA (xS s) r b (setR g (r + 1) b)) (setR g r (2 * b)) + (rkS (xS s) g r (2 * b) * gc (xS s) r (2 * b + 1) (setR g r (2 * b + 1)) + rkS (xS s) g r (2 * b + 1)) = pre (setR g (r + 1) b) (FA (mS s) r b (setR g (r + 1) b)) (setR g r (2 * b)) + (rkS (mS s) g r (2 * b) * gc (mS s) r (2 * b + 1) (setR g r (2 * b + 1)) + rkS (mS s) g r (2 * b + 1))
    rw [rk_same hn hn2 hg ht hO r (2 * b) (by omega) (by omega), rk_same hn hn2 hg ht hO r (2 * b + 1) (by omega) (by omega), gc_plain hn r (2 * b + 1) _ (all_RV2 hn hn2 hg ht hO (by omega) (by omega)), pre_congr (fun k hk => FA_same hn (all_RV2 hn hn2 hg ht hO h1 h2) hk)]
/-- all stand, also when two changed -/
theorem sw_all {p o : Nat} (w : WD s) (hp : p < s 0 0) (ho : o < s 0 0) (hne : p ≠ o) : setR (swF s p o) (lastS (s 0 0)) 0 = 2 ^ s 0 0 - 1 := by
  have hn := w.2.2.1
  have hFO := swF_FO w hp ho hne
  have hsl := slots_pow hn
  refine bits_eq fun i => ?_
  rw [setR_bit, Nat.testBit_two_pow_sub_one, decide_eq_true_iff]
  constructor
  · rintro ⟨t, -, h2⟩; exact bits_lt (hFO.1 t) h2
  · intro hi
    have find : ∀ q, q < s 0 0 → ∃ t, t < slotsS (s 0 0) ∧ s 20 t = q := w.2.2.2.2.1
    have go : ∀ q, q < s 0 0 → (if q = p then o else if q = o then p else q) = i → ∃ t, t / 2 ^ lastS (s 0 0) = 0 ∧ (swF s p o t).testBit i = true := by
      intro q hq e
      obtain ⟨t, t1, t2⟩ := find q hq
      refine ⟨t, by rw [← hsl]; exact Nat.div_eq_of_lt t1, ?_⟩
      unfold swF
      rw [if_neg (by omega), bitW_bit, t2]
      exact ⟨e, by omega⟩
    by_cases c1 : i = p
    · exact go o ho (by rw [if_neg (fun z => hne z.symm), if_pos rfl]; exact c1.symm)
    · by_cases c2 : i = o
      · exact go p hp (by rw [if_pos rfl]; exact c2.symm)
      · exact go i hi (by rw [if_neg c1, if_neg c2])
end SW
