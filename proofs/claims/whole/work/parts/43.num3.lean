/-! ===== the number of a draw that two changed ===== -/
def bitW (w : Nat) : Nat := if w = 10 then 0 else 2 ^ w
theorem bitW_bit {w i : Nat} : (bitW w).testBit i = true ↔ w = i ∧ w ≠ 10 := by
  unfold bitW
  by_cases h : w = 10
  · rw [if_pos h, Nat.zero_testBit]
    constructor
    · intro q; cases q
    · intro q; exact absurd h q.2
  · rw [if_neg h, Nat.testBit_two_pow, decide_eq_true_iff]
    exact ⟨fun q => ⟨q, h⟩, fun q => q.1⟩
theorem setR_bit (f : Nat → Nat) (i : Nat) : ∀ r b, (setR f r b).testBit i = true ↔ ∃ t, t / 2 ^ r = b ∧ (f t).testBit i = true
  | 0, b => by
    show (f b).testBit i = true ↔ _
    rw [Nat.pow_zero]
    constructor
    · intro h; exact ⟨b, Nat.div_one b, h⟩
    · rintro ⟨t, h1, h2⟩; rw [Nat.div_one] at h1; rw [← h1]; exact h2
  | r + 1, b => by
    show (setR f r (2 * b) ||| setR f r (2 * b + 1)).testBit i = true ↔ _
    rw [or_bit, setR_bit f i r, setR_bit f i r]
    have e : ∀ t, t / 2 ^ (r + 1) = t / 2 ^ r / 2 := fun t => by rw [Nat.pow_succ, Nat.div_div_eq_div_mul]
    constructor
    · rintro (⟨t, h1, h2⟩ | ⟨t, h1, h2⟩)
      · exact ⟨t, by rw [e]; omega, h2⟩
      · exact ⟨t, by rw [e]; omega, h2⟩
    · rintro ⟨t, h1, h2⟩
      rw [e] at h1
      rcases Nat.lt_or_ge (t / 2 ^ r) (2 * b + 1) with z | z
      · exact Or.inl ⟨t, by omega, h2⟩
      · exact Or.inr ⟨t, by omega, h2⟩
/-- slots' sets that are sound: of players that are there, each in one slot -/
def FO (n : Nat) (f : Nat → Nat) : Prop := (∀ t, f t < 2 ^ n) ∧ ∀ t u i, (f t).testBit i = true → (f u).testBit i = true → t = u
theorem setR_lt {n : Nat} {f : Nat → Nat} (h : FO n f) (r b : Nat) : setR f r b < 2 ^ n := lt_bits fun i hi => by
  obtain ⟨t, h1, h2⟩ := (setR_bit f i r b).mp hi
  exact bits_lt (h.1 t) h2
theorem setR_dis {n : Nat} {f : Nat → Nat} (h : FO n f) (r b : Nat) : setR f (r + 1) b ^^^ setR f r (2 * b) = setR f r (2 * b + 1) ∧ setR f r (2 * b) ∈ subs (setR f (r + 1) b) ∨ 10 < n := by
  rcases Nat.lt_or_ge 10 n with z | z
  · exact Or.inr z
  · left
    have dis : ∀ i, (setR f r (2 * b)).testBit i = true → ¬ (setR f r (2 * b + 1)).testBit i = true := fun i h1 h2 => by
      obtain ⟨t, t1, t2⟩ := (setR_bit f i r _).mp h1
      obtain ⟨u, u1, u2⟩ := (setR_bit f i r _).mp h2
      have := h.2 t u i t2 u2
      subst this
      omega
    refine ⟨bits_eq fun i => ?_, subs_mem.mpr ⟨p10 z (setR_lt h r _), subB_iff.mpr fun i hi => or_bit.mpr (Or.inl hi)⟩⟩
    show ((setR f r (2 * b) ||| setR f r (2 * b + 1)) ^^^ _).testBit i = true ↔ _
    rw [xor_bit, or_bit]
    have := dis i
    rcases bit_cases (x := setR f r (2 * b)) i with q | q <;> rcases bit_cases (x := setR f r (2 * b + 1)) i with q2 | q2 <;> simp_all
/-- all blocks are lawful -/
def AllJ (A : Nat → Nat → Nat → Bool) (n : Nat) (f : Nat → Nat) : Prop := ∀ r b, r ≤ lastS n → b < TB n r → gc A r b (setR f r b) ≠ 0
def swF (s : Sit) (p o t : Nat) : Nat := if slotsS (s 0 0) ≤ t then 0 else bitW (if s 20 t = p then o else if s 20 t = o then p else s 20 t)
section N3
variable {d : Nat} {I : qMI} {L : qML} {P : qMP} {s : Sit}
theorem ok_join {r b B : Nat} {g : Nat → Nat} {f : Int32 → qMI → qML → qMP → Prop} (hP : LAY P) (h : CR I L P 88 s) (hn : s 0 0 ≤ 10) (hr : r + 1 ≤ lastS (s 0 0)) (hb : b < TB (s 0 0) (r + 1)) (hB : B = TB (s 0 0) (r + 1) + b) (hg : FO (s 0 0) g) (i1 : I 137 (2 * B) = nI (setR g r (2 * b))) (i2 : I 137 (2 * B + 1) = nI (setR g r (2 * b + 1))) (l1 : L 138 (2 * B) = lN (rkS (xS s) g r (2 * b))) (l2 : L 138 (2 * B + 1) = lN (rkS (xS s) g r (2 * b + 1)))
    (k0 : ¬ (gc (xS s) r (2 * b) (setR g r (2 * b)) ≠ 0 ∧ gc (xS s) r (2 * b + 1) (setR g r (2 * b + 1)) ≠ 0 ∧ gc (xS s) (r + 1) b (setR g (r + 1) b) ≠ 0) → ∀ I', (∀ q, q ≠ 137 → I' q = I q) → f 0 I' L P)
    (k1 : gc (xS s) r (2 * b) (setR g r (2 * b)) ≠ 0 ∧ gc (xS s) r (2 * b + 1) (setR g r (2 * b + 1)) ≠ 0 ∧ gc (xS s) (r + 1) b (setR g (r + 1) b) ≠ 0 → f 1 (uI I 137 B (nI (setR g (r + 1) b))) (uL L 138 B (lN (rkS (xS s) g (r + 1) b))) P) : Sq (d + 3) mX4_join SH0 [.ref 136, .ref 88, .int (nI B)] I L P (KI f) := by
  have hl := lastS_le (s 0 0)
  have tb := TB_half hn hr
  have tt := TB_all _ hn (r + 1) hr
  have t8 := tt.2.2.2.2 (by omega)
  have P0 : P 136 0 = 137 := ly_136_0 hP
  have P1 : P 136 1 = 138 := ly_136_1 hP
  have e2 : (2 : Int32) * nI B = nI (2 * B) := pk_mul 2 B
  have hs := setR_lt hg (r + 1) b
  have hs1 := setR_lt hg r (2 * b)
  have hs2 := setR_lt hg r (2 * b + 1)
  have hs10 := p10 hn hs
  obtain ⟨hx, hmem⟩ := (setR_dis hg r b).resolve_right (by omega)
  have hor : setR g r (2 * b) ||| setR g r (2 * b + 1) = setR g (r + 1) b := rfl
  have hrk : rkS (xS s) g (r + 1) b = pre (setR g (r + 1) b) (FA (xS s) r b (setR g (r + 1) b)) (setR g r (2 * b)) + (rkS (xS s) g r (2 * b) * gc (xS s) r (2 * b + 1) (setR g r (2 * b + 1)) + rkS (xS s) g r (2 * b + 1)) := rfl
  have hpc := pc_le_n hn hs
  have hp10 := pow10 (k := pc (setR g (r + 1) b)) (by omega)
  obtain ⟨i0, j1, j2⟩ := it_ex hs10 hmem
  have g1 := gcs (A := xS s) (r := r) (b := 2 * b) hn (by omega) hs1
  have g2 := gcs (A := xS s) (r := r) (b := 2 * b + 1) hn (by omega) hs2
  have g3 := gcs (A := xS s) (r := r + 1) (b := b) hn hr hs
  refine sp_X4_join (fun x3 x4 l5 l7 x9 x10 x11 I' L' P' => I' = uI I 137 B (nI (setR g (r + 1) b)) ∧ L' = L ∧ P' = P ∧ x3 = nI (setR g r (2 * b)) ∧ x4 = nI (setR g (r + 1) b) ∧ x9 = nI (2 ^ pc (setR g (r + 1) b)) ∧ (gc (xS s) r (2 * b) (setR g r (2 * b)) ≠ 0 ∧ gc (xS s) r (2 * b + 1) (setR g r (2 * b + 1)) ≠ 0 ∧ gc (xS s) (r + 1) b (setR g (r + 1) b) ≠ 0) ∧ ∃ i, i ≤ i0 ∧ x10 = nI (it (setR g (r + 1) b) i) ∧ x11 = nI i ∧ l7 = lN (ps (setR g (r + 1) b) (FA (xS s) r b (setR g (r + 1) b)) i + (rkS (xS s) g r (2 * b) * gc (xS s) r (2 * b + 1) (setR g r (2 * b + 1)) + rkS (xS s) g r (2 * b + 1)))) (fun _ _ _ _ _ _ x _ _ _ => 2000 - x.toNatClampNeg) ⟨by decide, ?_⟩ ?_
  · rw [P0, e2, nI_1, clN (by omega), clN (by omega), clN (by omega), i1, i2, orN, hor, xorN, hx]
    refine ⟨by decide, vin _ rfl (show 2 * B < 32 by omega) (by decide), vin _ rfl (show 2 * B + 1 < 32 by omega) (by decide), vin _ rfl (show B < 32 by omega) (by decide), fun I6 e6 => ⟨by decide, ?_⟩⟩
    have f6 : ∀ q, q ≠ 137 → I6 q = I q := fun q y => by rw [e6, uI_ne q y]
    have hC : CR I6 L P 88 s := h.congr hP (Or.inl rfl) hn (fun q y1 y2 => f6 q (by omega)) (fun _ _ _ => rfl)
    refine ok_ways (r := r) (b := 2 * b + 1) hP hC hn (by omega) (by omega) (by omega) hs2 ⟨fun c1 => ?_, fun c1 => ok_ways (r := r) (b := 2 * b) hP hC hn (by omega) (by omega) (by omega) hs1 ⟨fun c2 => ?_, fun c2 => ok_ways (r := r + 1) (b := b) hP hC hn hr hb hB hs ⟨fun c3 => ?_, fun c3 => ?_⟩⟩⟩
    · exact k0 (fun z => z.2.1 ((pk_lEQ (b := 0) (by omega) (by decide)).mp c1)) I6 f6
    · exact k0 (fun z => z.1 ((pk_lEQ (b := 0) (by omega) (by decide)).mp c2)) I6 f6
    · rw [P1]
      refine ⟨by decide, vin _ rfl (show 2 * B < 32 by omega) (by decide), vin _ rfl (show 2 * B + 1 < 32 by omega) (by decide), ok_bc hs10 ⟨e6, rfl, rfl, rfl, rfl, bitN (by omega), ⟨fun z => c2 (by rw [z]; rfl), fun z => c1 (by rw [z]; rfl), fun z => c3 (by rw [z]; rfl)⟩, 0, Nat.zero_le _, rfl, rfl, ?_⟩⟩
      rw [ps_0, Nat.zero_add, l1, l2, lN_mul, lN_add]
    · exact k0 (fun z => z.2.2 ((pk_lEQ (b := 0) (by omega) (by decide)).mp c3)) I6 f6
  · rintro x3 x4 l5 l7 x9 x10 x11 I' L' P' ⟨rfl, rfl, rfl, rfl, rfl, rfl, hJ, i, hi, rfl, rfl, rfl⟩
    have hpre : i = i0 → ps (setR g (r + 1) b) (FA (xS s) r b (setR g (r + 1) b)) i + (rkS (xS s) g r (2 * b) * gc (xS s) r (2 * b + 1) (setR g r (2 * b + 1)) + rkS (xS s) g r (2 * b + 1)) = rkS (xS s) g (r + 1) b := fun e => by
      rw [hrk, e, ← pre_it hs10 j1, j2]
    have fin : i = i0 → (shp SH0 136).1 = 4 ∧ (shp SH0 (P' 136 1)).1 = 21 ∧ vp_in (nI B) (shp SH0 (P' 136 1)).2 ∧ ∀ L5, L5 = uL L' (P' 136 1) (Int32.toNatClampNeg (nI B)) (lN (ps (setR g (r + 1) b) (FA (xS s) r b (setR g (r + 1) b)) i + (rkS (xS s) g r (2 * b) * gc (xS s) r (2 * b + 1) (setR g r (2 * b + 1)) + rkS (xS s) g r (2 * b + 1)))) → KI f (some (.int 1)) (uI I 137 B (nI (setR g (r + 1) b))) L5 P' := fun e => by
      rw [hpre e, P1, clN (by omega)]
      refine ⟨by decide, by decide, vin _ rfl (show B < 32 by omega) (by decide), fun L5 e5 => ?_⟩
      rw [e5]
      exact k1 hJ
    have hjlt : i < i0 → it (setR g (r + 1) b) i < setR g r (2 * b) := fun q => by rw [← j2]; exact it_lt hs10 q j1
    refine ⟨fun c => ?_, fun c => ⟨fun c2 => ?_, fun c2 => ⟨by decide, ?_⟩⟩⟩
    · rw [nI_leI (by omega) (by omega)] at c; omega
    · rcases Nat.lt_or_ge i i0 with z | z
      · have y := hjlt z
        have y2 := p10 hn hs1
        have := nI_inj (by omega) (by omega) c2
        omega
      · exact fin (by omega)
    · have hne : i ≠ i0 := fun z => c2 (by rw [z, j2])
      obtain ⟨m1, m2⟩ := it_sub hs10 (show i < 2 ^ pc (setR g (r + 1) b) by omega)
      have hC : CR (uI I 137 B (nI (setR g (r + 1) b))) L' P' 88 s := h.congr hP (Or.inl rfl) hn (fun q y1 y2 => uI_ne q (by omega)) (fun _ _ _ => rfl)
      rw [e2, nI_1, xorN, nxN hs10 m2, nx_it]
      refine ok_ways (r := r) (b := 2 * b) hP hC hn (by omega) (by omega) (by omega) (sub_lt m1 hs) (ok_ways (r := r) (b := 2 * b + 1) hP hC hn (by omega) (by omega) (by omega) (xor_lt m1 hs) ⟨⟨rfl, rfl, rfl, rfl, rfl, rfl, hJ, i + 1, by omega, rfl, nI_1 i, ?_⟩, ?_⟩)
      · rw [lN_mul, lN_add, ps_succ]
        congr 1
        show _ + FA (xS s) r b (setR g (r + 1) b) (it (setR g (r + 1) b) i) = _
        omega
      · rw [nI_1, clN (by omega), clN (by omega)]; omega
end N3
