section D3
variable {d : Nat} {sh : List qSh} {I : qMI} {L : qML} {P : qMP} {e u : Nat} {s t : Sit}
theorem ok_D_copy {f : qMI → qML → qMP → Prop} (hd : DSh sh P e) (hS : DS sh I L P u t) (k : ∀ I' L', (∀ r, r ≠ e → r ≠ P e 5 → r ≠ P e 6 → I' r = I r) → (∀ r, r ≠ e → L' r = L r) → DS sh I' L' P e t → f I' L' P) : Sq (d + 1) mX1_copyFrom sh [.ref e, .ref u] I L P (KV f) := by
  obtain ⟨b1, b5, b6⟩ := hd
  obtain ⟨⟨a1, a5, a6⟩, g1, g2, g3, g4, v⟩ := hS
  have n5e : P e 5 ≠ e := fun q => by rw [q] at b5; rw [b5] at b1; exact absurd b1 (by decide)
  have n6e : P e 6 ≠ e := fun q => by rw [q] at b6; rw [b6] at b1; exact absurd b1 (by decide)
  have n65 : P e 6 ≠ P e 5 := fun q => by rw [q, b5] at b6; exact absurd b6 (by decide)
  have m5e : P u 5 ≠ e := fun q => by rw [q] at a5; rw [a5] at b1; exact absurd b1 (by decide)
  have m6e : P u 6 ≠ e := fun q => by rw [q] at a6; rw [a6] at b1; exact absurd b1 (by decide)
  have m65 : P u 6 ≠ P e 5 := fun q => by rw [q, b5] at a6; exact absurd a6 (by decide)
  have m56 : P u 5 ≠ P e 6 := fun q => by rw [q, b6] at a5; exact absurd a5 (by decide)
  refine sp_X1_copyFrom ⟨a1, b1, by rw [g1]; rcases g3 with q | q <;> rw [q] <;> first | exact Or.inl rfl | exact Or.inr rfl, fun I4 e4 L5 e5 I6 e6 I7 e7 I8 e8 => ?_⟩
  rw [a5, b5, a6, b6]
  refine ⟨rfl, rfl, by decide, by decide, by decide, fun I14 e14 => ⟨rfl, rfl, by decide, by decide, by decide, fun I20 e20 => ?_⟩⟩
  rw [show Int32.toNatClampNeg (nI (20, 32).2) = 32 by decide, ti_clamp0] at e14
  rw [show Int32.toNatClampNeg (nI (20, 16).2) = 16 by decide, ti_clamp0] at e20
  have hI8 : ∀ r, r ≠ e → I8 r = I r := fun r q => by rw [e8, uI_ne r q, e7, uI_ne r q, e6, uI_ne r q, e4, uI_ne r q]
  have h14 : ∀ r, r ≠ P e 5 → I14 r = I8 r := fun r q => by rw [e14, cI_ne r q]
  have h20 : ∀ r, r ≠ P e 6 → I20 r = I14 r := fun r q => by rw [e20, cI_ne r q]
  have h20e : I20 e = I8 e := by rw [h20 e (fun q => n6e q.symm), h14 e (fun q => n5e q.symm)]
  have hf : ∀ j, j = 0 ∨ j = 2 ∨ j = 3 ∨ j = 4 → I8 e j = I u j := by
    intro j hj
    by_cases c : u = e
    · subst c
      rcases hj with rfl | rfl | rfl | rfl <;> simp [e8, e7, e6, e4, uI]
    · rcases hj with rfl | rfl | rfl | rfl <;> simp [e8, e7, e6, e4, uI, c]
  have hL : L5 e 1 = L u 1 := by rw [e5]; exact if_pos ⟨rfl, rfl⟩
  have hc5 : ∀ z, z < 32 → I20 (P e 5) z = I (P u 5) z := fun z hz => by
    rw [h20 _ (fun q => n65 q.symm), e14, cI_at, if_pos hz, hI8 _ m5e]
  have hc6 : ∀ z, z < 16 → I20 (P e 6) z = I (P u 6) z := fun z hz => by
    rw [e20, cI_at, if_pos hz, h14 _ m65, hI8 _ m6e]
  refine k I20 L5 (fun r q1 q2 q3 => by rw [h20 r q3, h14 r q2, hI8 r q1]) (fun r q => by rw [e5, uL_ne r q]) ⟨⟨b1, b5, b6⟩, by rw [h20e, hf 0 (Or.inl rfl)]; exact g1, by rw [h20e, hf 4 (by omega)]; exact g2, g3, g4, fun q => (v q).congr hL (by rw [h20e, hf 2 (by omega)]) (by rw [h20e, hf 3 (by omega)]) hc5 hc6⟩
theorem ok_drop {f : qMI → qML → qMP → Prop} (h : (shp sh e).1 = 1) (k : f (uI (uI I e 0 0) e 4 0) L P) : Sq (d + 1) mX1_drop sh [.ref e] I L P (KV f) :=
  sp_X1_drop ⟨h, fun I2 e2 I3 e3 => by subst e3; subst e2; exact k⟩
theorem ok_begin {z : Int64} {f : qMI → qML → qMP → Prop} (hd : DSh sh P e) (hE : ES sh I P u s) (k : ∀ I' L', (∀ r, r ≠ e → r ≠ P e 6 → I' r = I r) → (∀ r, r ≠ e → L' r = L r) → I' e 0 = 1 → I' e 4 = 0 → I' e 2 = nI (slotsS (s 0 0)) → I' e 3 = nI (lastS (s 0 0)) → L' e 1 = z → (∀ j, j < 16 → I' (P e 6) j = -1) → f I' L' P) : Sq (d + 3) mX1_begin sh [.ref e, .long z, .ref u] I L P (KV f) := by
  obtain ⟨b1, b5, b6⟩ := hd
  obtain ⟨a1, a2, a3, a4, a5, a6, w⟩ := id hE
  have hn := w.1
  have n6e : e ≠ P e 6 := fun q => by rw [← q] at b6; rw [b6] at b1; exact absurd b1 (by decide)
  have nue : u ≠ e := fun q => by rw [q, b1] at a1; exact absurd a1 (by decide)
  refine sp_X1_begin (fun x I' L' P' => P' = P ∧ L' e 1 = z ∧ (∀ r, r ≠ e → L' r = L r) ∧ (∀ r, r ≠ e → r ≠ P e 6 → I' r = I r) ∧ I' e 0 = 1 ∧ I' e 4 = 0 ∧ I' e 2 = nI (slotsS (s 0 0)) ∧ I' e 3 = nI (lastS (s 0 0)) ∧ ∃ o, o ≤ 16 ∧ x = nI o ∧ ∀ j, j < o → I' (P e 6) j = -1) (fun x _ _ _ => 20 - x.toNatClampNeg) ⟨b1, fun I2 e2 L3 e3 => ⟨a1, ok_slots a1 (by rw [e2, uI_ne u nue]; exact a3) hn (fun I9 e9 => ok_rounds a1 (by rw [e9, uI_ne u nue, e2, uI_ne u nue]; exact a3) hn (fun I14 e14 I15 e15 => ?_))⟩⟩ ?_
  · refine ⟨rfl, by rw [e3]; exact if_pos ⟨rfl, rfl⟩, fun r q => by rw [e3, uL_ne r q], fun r q _ => by rw [e15, uI_ne r q, e14, uI_ne r q, e9, uI_ne r q, e2, uI_ne r q], ?_, ?_, ?_, ?_, 0, Nat.zero_le _, rfl, fun j hj => absurd hj (Nat.not_lt_zero j)⟩ <;> simp [e15, e14, e9, e2, uI]
  · rintro x I1 L1 P1 ⟨rfl, hL, hLo, hI, h0, h4, h2, h3, o, ho, rfl, hj⟩
    refine ⟨b1, ?_⟩
    rw [b6]
    refine ⟨rfl, fun c1 => ?_, fun c1 => ⟨vin o rfl (by have c1 : ¬ nI 16 ≤ nI o := c1; show o < 16; ((try simp only [Int32.lt_iff_toInt_lt, Int32.le_iff_toInt_le, ne_eq, ← Int32.toInt_inj, isP, ti_nI, ti_add, ti_sub, ti_mul, ti_neg, ti_0, ti_1, ti_2, ti_3, ti_4, ti_5, ti_6, ti_7, ti_8, ti_9, ti_10, ti_11, ti_12, ti_13, ti_14, ti_15, ti_16, ti_17, ti_18, ti_19, ti_20, ti_28, ti_30, ti_31, ti_32, ti_40, ti_45, ti_47, ti_48, ti_49, ti_57, ti_58, ti_59, ti_61, ti_76, ti_84, ti_96, ti_99, ti_100, ti_114, ti_115, ti_120, ti_126, ti_840, ti_1024] at *); omega)) (by decide), fun I5 e5 => ?_⟩⟩
    · have c1 : nI 16 ≤ nI o := c1
      have c1 : 16 ≤ o := by ((try simp only [Int32.lt_iff_toInt_lt, Int32.le_iff_toInt_le, ne_eq, ← Int32.toInt_inj, isP, ti_nI, ti_add, ti_sub, ti_mul, ti_neg, ti_0, ti_1, ti_2, ti_3, ti_4, ti_5, ti_6, ti_7, ti_8, ti_9, ti_10, ti_11, ti_12, ti_13, ti_14, ti_15, ti_16, ti_17, ti_18, ti_19, ti_20, ti_28, ti_30, ti_31, ti_32, ti_40, ti_45, ti_47, ti_48, ti_49, ti_57, ti_58, ti_59, ti_61, ti_76, ti_84, ti_96, ti_99, ti_100, ti_114, ti_115, ti_120, ti_126, ti_840, ti_1024] at *); omega)
      exact k I1 L1 hI hLo h0 h4 h2 h3 hL (fun j q => hj j (by omega))
    · have c1 : ¬ nI 16 ≤ nI o := c1
      have c1 : o < 16 := by ((try simp only [Int32.lt_iff_toInt_lt, Int32.le_iff_toInt_le, ne_eq, ← Int32.toInt_inj, isP, ti_nI, ti_add, ti_sub, ti_mul, ti_neg, ti_0, ti_1, ti_2, ti_3, ti_4, ti_5, ti_6, ti_7, ti_8, ti_9, ti_10, ti_11, ti_12, ti_13, ti_14, ti_15, ti_16, ti_17, ti_18, ti_19, ti_20, ti_28, ti_30, ti_31, ti_32, ti_40, ti_45, ti_47, ti_48, ti_49, ti_57, ti_58, ti_59, ti_61, ti_76, ti_84, ti_96, ti_99, ti_100, ti_114, ti_115, ti_120, ti_126, ti_840, ti_1024] at *); omega)
      rw [clN (by omega)] at e5
      refine ⟨⟨rfl, hL, hLo, fun r q1 q2 => by rw [e5, uI_ne r q2]; exact hI r q1 q2, by rw [e5, uI_ne e n6e]; exact h0, by rw [e5, uI_ne e n6e]; exact h4, by rw [e5, uI_ne e n6e]; exact h2, by rw [e5, uI_ne e n6e]; exact h3, o + 1, c1, nI_1 o, fun j q => ?_⟩, ?_⟩
      · rw [e5]
        show (if _ then _ else _) = _
        by_cases c : j = o
        · rw [if_pos ⟨rfl, c⟩]
        · rw [if_neg (fun z => c z.2)]; exact hj j (by omega)
      · rw [nI_1, clN (by omega), clN (by omega)]; omega
/-- a byte of the draw printed -/
def prS (s : Sit) (i : Nat) : Nat := if i % 2 = 0 then (if s 20 (i / 2) = 10 then 45 else 48 + s 20 (i / 2)) else if (i / 2 + 1) % 4 = 0 then 124 else 32
def prX (s : Sit) (x : Int32) : Int32 := if x < 0 then nI (2 * slotsS (s 0 0) - 1) else if nI (2 * slotsS (s 0 0) - 1) ≤ x then -2 else nI (prS s x.toNatClampNeg)
theorem ok_printedByte {x : Int32} {f : Int32 → qMI → qML → qMP → Prop} (h : DSh sh P e) (v : DV I L P e s) (k : f (prX s x) I L P) : Sq (d + 3) mX1_printedByte sh [.ref e, .int x] I L P (KI f) := by
  obtain ⟨v1, v2, v3, v4, v5, v6, w⟩ := id v
  have hs := slotsS_in (s 0 0)
  have hn := w.2.2.1
  refine sp_X1_printedByte ⟨h.1, ?_⟩
  rw [v2, show (2 : Int32) * nI (slotsS (s 0 0)) - 1 = nI (2 * slotsS (s 0 0) - 1) from (congrArg (fun q => q - 1) (pk_mul 2 _)).trans (pk_sub (b := 1) (by omega))]
  refine ⟨fun c1 => ⟨fun c2 => absurd c2 (by ((try simp only [Int32.lt_iff_toInt_lt, Int32.le_iff_toInt_le, ne_eq, ← Int32.toInt_inj, isP, ti_nI, ti_add, ti_sub, ti_mul, ti_neg, ti_0, ti_1, ti_2, ti_3, ti_4, ti_5, ti_6, ti_7, ti_8, ti_9, ti_10, ti_11, ti_12, ti_13, ti_14, ti_15, ti_16, ti_17, ti_18, ti_19, ti_20, ti_28, ti_30, ti_31, ti_32, ti_40, ti_45, ti_47, ti_48, ti_49, ti_57, ti_58, ti_59, ti_61, ti_76, ti_84, ti_96, ti_99, ti_100, ti_114, ti_115, ti_120, ti_126, ti_840, ti_1024] at *); omega)), fun _ => kI k (if_pos c1)⟩, fun c1 => ⟨fun c2 => ?_, fun c2 => ⟨fun _ => kI k ?_, fun c3 => absurd c3 (by ((try simp only [Int32.lt_iff_toInt_lt, Int32.le_iff_toInt_le, ne_eq, ← Int32.toInt_inj, isP, ti_nI, ti_add, ti_sub, ti_mul, ti_neg, ti_0, ti_1, ti_2, ti_3, ti_4, ti_5, ti_6, ti_7, ti_8, ti_9, ti_10, ti_11, ti_12, ti_13, ti_14, ti_15, ti_16, ti_17, ti_18, ti_19, ti_20, ti_28, ti_30, ti_31, ti_32, ti_40, ti_45, ti_47, ti_48, ti_49, ti_57, ti_58, ti_59, ti_61, ti_76, ti_84, ti_96, ti_99, ti_100, ti_114, ti_115, ti_120, ti_126, ti_840, ti_1024] at *); omega))⟩⟩⟩
  · obtain ⟨i, hi, rfl⟩ := nI_of c1
    have hi2 : i < 2 * slotsS (s 0 0) - 1 := by ((try simp only [Int32.lt_iff_toInt_lt, Int32.le_iff_toInt_le, ne_eq, ← Int32.toInt_inj, isP, ti_nI, ti_add, ti_sub, ti_mul, ti_neg, ti_0, ti_1, ti_2, ti_3, ti_4, ti_5, ti_6, ti_7, ti_8, ti_9, ti_10, ti_11, ti_12, ti_13, ti_14, ti_15, ti_16, ti_17, ti_18, ti_19, ti_20, ti_28, ti_30, ti_31, ti_32, ti_40, ti_45, ti_47, ti_48, ti_49, ti_57, ti_58, ti_59, ti_61, ti_76, ti_84, ti_96, ti_99, ti_100, ti_114, ti_115, ti_120, ti_126, ti_840, ti_1024] at *); omega)
    have e1 : prX s (nI i) = nI (prS s i) := by
      unfold prX
      rw [if_neg c1, if_neg (by ((try simp only [Int32.lt_iff_toInt_lt, Int32.le_iff_toInt_le, ne_eq, ← Int32.toInt_inj, isP, ti_nI, ti_add, ti_sub, ti_mul, ti_neg, ti_0, ti_1, ti_2, ti_3, ti_4, ti_5, ti_6, ti_7, ti_8, ti_9, ti_10, ti_11, ti_12, ti_13, ti_14, ti_15, ti_16, ti_17, ti_18, ti_19, ti_20, ti_28, ti_30, ti_31, ti_32, ti_40, ti_45, ti_47, ti_48, ti_49, ti_57, ti_58, ti_59, ti_61, ti_76, ti_84, ti_96, ti_99, ti_100, ti_114, ti_115, ti_120, ti_126, ti_840, ti_1024] at *); omega)), clN hi]
    rw [e1] at k
    rw [show nI i / 2 = nI (i / 2) from pk_div hi (by decide) (by decide), show nI i - nI (i / 2) * 2 = nI (i % 2) from by rw [← pk_rem hi (show 0 < 2 by decide) (by decide), pk_div hi (by decide) (by decide)]; rfl]
    rw [nI_1, show nI (i / 2 + 1) / 4 = nI ((i / 2 + 1) / 4) from pk_div (by omega) (by decide) (by decide), show nI (i / 2 + 1) - nI ((i / 2 + 1) / 4) * 4 = nI ((i / 2 + 1) % 4) from by rw [← pk_rem (show i / 2 + 1 < 2147483648 by omega) (show 0 < 4 by decide) (by decide), pk_div (by omega) (by decide) (by decide)]; rfl]
    unfold prS at k
    refine ⟨fun c3 => ?_, fun c3 => ?_⟩
    · have c3 : i % 2 ≠ 0 := fun q => c3 (by rw [q]; rfl)
      rw [if_neg c3] at k
      refine ⟨fun c4 => kI k ?_, fun c4 => kI k ?_⟩
      · rw [if_neg (fun q => c4 (by rw [q]; rfl))]; rfl
      · rw [if_pos (nI_inj (by omega) (by decide) c4)]; rfl
    · have c3 : i % 2 = 0 := nI_inj (by omega) (by decide) c3
      rw [if_pos c3] at k
      have hv := w.2.2.2.1 0 (i / 2) (Nat.zero_le _) (by rw [TB_0]; omega)
      refine ok_standing h v (by omega) ⟨fun c4 => kI k ?_, fun c4 => kI k ?_⟩
      · rw [if_neg (fun q => c4 (by rw [q]; rfl)), ← nI_add]; rfl
      · rw [if_pos (nI_inj (by rcases hv with q | ⟨_, q⟩ <;> (have q := q; simp only [Nat.add_zero] at q; omega)) (by decide) c4)]; rfl
  · unfold prX
    rw [if_neg c1, if_pos (by ((try simp only [Int32.lt_iff_toInt_lt, Int32.le_iff_toInt_le, ne_eq, ← Int32.toInt_inj, isP, ti_nI, ti_add, ti_sub, ti_mul, ti_neg, ti_0, ti_1, ti_2, ti_3, ti_4, ti_5, ti_6, ti_7, ti_8, ti_9, ti_10, ti_11, ti_12, ti_13, ti_14, ti_15, ti_16, ti_17, ti_18, ti_19, ti_20, ti_28, ti_30, ti_31, ti_32, ti_40, ti_45, ti_47, ti_48, ti_49, ti_57, ti_58, ti_59, ti_61, ti_76, ti_84, ti_96, ti_99, ti_100, ti_114, ti_115, ti_120, ti_126, ti_840, ti_1024] at *); omega))]
/-- bytes of the brackets: of the rounds up to r -/
def offS (n r : Nat) : Nat := 2 * (slotsS n - TB n r)
def bbS (s : Sit) (r j : Nat) : Nat := if j % 2 = 0 then 48 + s (20 + r) (j / 2) else if j / 2 = TB (s 0 0) r - 1 then 59 else 44
def brS (s : Sit) (i : Nat) : Int32 := if 1 ≤ s 9 0 ∧ i < offS (s 0 0) 1 then nI (bbS s 1 i) else if 2 ≤ s 9 0 ∧ i < offS (s 0 0) 2 then nI (bbS s 2 (i - offS (s 0 0) 1)) else if 3 ≤ s 9 0 ∧ i < offS (s 0 0) 3 then nI (bbS s 3 (i - offS (s 0 0) 2)) else if 4 ≤ s 9 0 ∧ i < offS (s 0 0) 4 then nI (bbS s 4 (i - offS (s 0 0) 3)) else -2
def brX (s : Sit) (x : Int32) : Int32 := if x < 0 then nI (offS (s 0 0) (s 9 0)) else brS s x.toNatClampNeg
theorem offS_all : ∀ n, n ≤ 10 → offS n 0 = 0 ∧ ∀ r, r < lastS n → offS n (r + 1) = offS n r + 2 * TB n (r + 1) ∧ offS n (r + 1) ≤ 30 := by decide
theorem brS_in {s : Sit} (w : WD s) {r i : Nat} (hr : r < s 9 0) (h1 : offS (s 0 0) r ≤ i) (h2 : i < offS (s 0 0) (r + 1)) : brS s i = nI (bbS s (r + 1) (i - offS (s 0 0) r)) := by
  have o := offS_all _ w.2.2.1
  have hl := w.1
  have hl4 := lastS_le (s 0 0)
  have o1 := fun q => (o.2 q)
  have hr4 : r = 0 ∨ r = 1 ∨ r = 2 ∨ r = 3 := by omega
  unfold brS
  rcases hr4 with rfl | rfl | rfl | rfl
  · rw [if_pos ⟨by omega, h2⟩, o.1]; simp
  · have a1 := o1 0 (by omega)
    simp only [Nat.zero_add] at a1 h1 h2
    rw [if_neg (by omega), if_pos ⟨by omega, h2⟩]
  · have a1 := o1 0 (by omega)
    have a2 := o1 1 (by omega)
    simp only [Nat.zero_add, Nat.reduceAdd] at a1 a2 h1 h2
    rw [if_neg (by omega), if_neg (by omega), if_pos ⟨by omega, h2⟩]
  · have a1 := o1 0 (by omega)
    have a2 := o1 1 (by omega)
    have a3 := o1 2 (by omega)
    simp only [Nat.zero_add, Nat.reduceAdd] at a1 a2 a3 h1 h2
    rw [if_neg (by omega), if_neg (by omega), if_neg (by omega), if_pos ⟨by omega, h2⟩]
theorem brS_out {s : Sit} (w : WD s) {i : Nat} (h : offS (s 0 0) (s 9 0) ≤ i) : brS s i = -2 := by
  have o := offS_all _ w.2.2.1
  have hl := w.1
  have hl4 := lastS_le (s 0 0)
  unfold brS
  have hp : s 9 0 = 0 ∨ s 9 0 = 1 ∨ s 9 0 = 2 ∨ s 9 0 = 3 ∨ s 9 0 = 4 := by omega
  rcases hp with q | q | q | q | q <;> rw [q] at h hl ⊢
  · rw [if_neg (by omega), if_neg (by omega), if_neg (by omega), if_neg (by omega)]
  · rw [if_neg (by omega), if_neg (by omega), if_neg (by omega), if_neg (by omega)]
  · have a2 := o.2 1 (by omega)
    simp only [Nat.reduceAdd] at a2
    rw [if_neg (by omega), if_neg (by omega), if_neg (by omega), if_neg (by omega)]
  · have a2 := o.2 1 (by omega)
    have a3 := o.2 2 (by omega)
    simp only [Nat.reduceAdd] at a2 a3
    rw [if_neg (by omega), if_neg (by omega), if_neg (by omega), if_neg (by omega)]
  · have a2 := o.2 1 (by omega)
    have a3 := o.2 2 (by omega)
    have a4 := o.2 3 (by omega)
    simp only [Nat.reduceAdd] at a2 a3 a4
    rw [if_neg (by omega), if_neg (by omega), if_neg (by omega), if_neg (by omega)]
theorem ok_roundsByte {r j : Nat} {f : Int32 → qMI → qML → qMP → Prop} (h : DSh sh P e) (v : DV I L P e s) (hr : 1 ≤ r) (hr2 : r ≤ s 9 0) (hj : j < 2 * TB (s 0 0) r) (k : f (nI (bbS s r j)) I L P) : Sq (d + 3) mX1_roundsByte sh [.ref e, .int (nI r), .int (nI j), .int (nI (TB (s 0 0) r))] I L P (KI f) := by
  obtain ⟨v1, v2, v3, v4, v5, v6, w⟩ := id v
  have hl := w.1
  have t := TB_all _ w.2.2.1 r (by omega)
  unfold bbS at k
  have hj2 : j < 2147483648 := by omega
  refine sp_X1_roundsByte ?_
  unfold vc_X1_roundsByte_0
  rw [show nI j / 2 = nI (j / 2) from pk_div hj2 (by decide) (by decide), show nI j - nI (j / 2) * 2 = nI (j % 2) from by rw [← pk_rem hj2 (show 0 < 2 by decide) (by decide), pk_div hj2 (by decide) (by decide)]; rfl, show nI (TB (s 0 0) r) - 1 = nI (TB (s 0 0) r - 1) from pk_sub (b := 1) t.1]
  refine ⟨fun c1 => ?_, fun c1 => ?_⟩
  · rw [if_neg (fun q => c1 (by rw [q]; rfl))] at k
    refine ⟨fun c2 => kI k ?_, fun c2 => kI k ?_⟩
    · rw [if_neg (fun q => c2 (by rw [q]))]; rfl
    · rw [if_pos (nI_inj (by omega) (by omega) c2)]; rfl
  · rw [if_pos (nI_inj (by omega) (by decide) c1)] at k
    refine ⟨h.1, ok_cameThrough h v hr hr2 (by omega) (kI k ?_)⟩
    rw [← nI_add]; rfl
theorem ok_bracketsByte {x : Int32} {f : Int32 → qMI → qML → qMP → Prop} (h : DSh sh P e) (v : DV I L P e s) (h4 : I e 4 = nI (s 9 0)) (k : f (brX s x) I L P) : Sq (d + 4) mX1_bracketsByte sh [.ref e, .int x] I L P (KI f) := by
  obtain ⟨v1, v2, v3, v4, v5, v6, w⟩ := id v
  have hs := slotsS_in (s 0 0)
  have hn := w.2.2.1
  have hp := w.1
  have hl4 := lastS_le (s 0 0)
  have oo := offS_all _ hn
  refine sp_X1_bracketsByte (fun x2 x3 I' L' P' => I' = I ∧ L' = L ∧ P' = P ∧ ∃ r, r ≤ s 9 0 ∧ x2 = nI (offS (s 0 0) r) ∧ x3 = nI (r + 1) ∧ (0 ≤ x.toInt → (offS (s 0 0) r : Int) ≤ x.toInt)) (fun _ y _ _ _ => 20 - y.toNatClampNeg) ⟨rfl, rfl, rfl, 0, Nat.zero_le _, by rw [oo.1]; rfl, rfl, fun q => by rw [oo.1]; exact q⟩ ?_
  rintro x2 x3 I' L' P' ⟨rfl, rfl, rfl, r, hr, rfl, rfl, hx⟩
  have hof : offS (s 0 0) r ≤ 30 := by
    rcases Nat.eq_zero_or_pos r with z | z
    · rw [z, oo.1]; omega
    · have := (oo.2 (r - 1) (by omega)).2
      rwa [show r - 1 + 1 = r by omega] at this
  refine ⟨h.1, ?_⟩
  rw [h4, v2]
  refine ⟨fun c1 => ?_, fun c1 => ?_⟩
  · have c1 := (nI_ltI (by omega) (by omega)).mp c1
    have c1 : r = s 9 0 := by omega
    subst c1
    refine ⟨fun c2 => kI k ?_, fun c2 => kI k (if_pos (by ((try simp only [Int32.lt_iff_toInt_lt, Int32.le_iff_toInt_le, ne_eq, ← Int32.toInt_inj, isP, ti_nI, ti_add, ti_sub, ti_mul, ti_neg, ti_0, ti_1, ti_2, ti_3, ti_4, ti_5, ti_6, ti_7, ti_8, ti_9, ti_10, ti_11, ti_12, ti_13, ti_14, ti_15, ti_16, ti_17, ti_18, ti_19, ti_20, ti_28, ti_30, ti_31, ti_32, ti_40, ti_45, ti_47, ti_48, ti_49, ti_57, ti_58, ti_59, ti_61, ti_76, ti_84, ti_96, ti_99, ti_100, ti_114, ti_115, ti_120, ti_126, ti_840, ti_1024] at c2 ⊢); omega)))⟩
    obtain ⟨i, hi, rfl⟩ := nI_of (show ¬ x < 0 by ((try simp only [Int32.lt_iff_toInt_lt, Int32.le_iff_toInt_le, ne_eq, ← Int32.toInt_inj, isP, ti_nI, ti_add, ti_sub, ti_mul, ti_neg, ti_0, ti_1, ti_2, ti_3, ti_4, ti_5, ti_6, ti_7, ti_8, ti_9, ti_10, ti_11, ti_12, ti_13, ti_14, ti_15, ti_16, ti_17, ti_18, ti_19, ti_20, ti_28, ti_30, ti_31, ti_32, ti_40, ti_45, ti_47, ti_48, ti_49, ti_57, ti_58, ti_59, ti_61, ti_76, ti_84, ti_96, ti_99, ti_100, ti_114, ti_115, ti_120, ti_126, ti_840, ti_1024] at c2 ⊢); omega))
    unfold brX
    rw [if_neg (nI_pos hi), clN hi]
    rw [nI_toInt hi] at hx
    exact brS_out w (by have := hx (by omega); omega)
  · have c1 : r < s 9 0 := by
      rcases Nat.lt_or_ge r (s 9 0) with z | z
      · exact z
      · exact absurd (nI_lt (by omega) (by omega)) c1
    obtain ⟨o1, o2⟩ := oo.2 r (by omega)
    have t := TB_all _ hn (r + 1) (by omega)
    rw [shrN (by omega) (by omega), show (2 : Int32) * nI (slotsS (s 0 0) / 2 ^ (r + 1)) = nI (2 * TB (s 0 0) (r + 1)) from pk_mul 2 _, nI_add, ← o1]
    have hstep : ∀ z : 0 ≤ x.toInt → (offS (s 0 0) (r + 1) : Int) ≤ x.toInt, (I' = I' ∧ L' = L' ∧ P' = P' ∧ ∃ r_1, r_1 ≤ s 9 0 ∧ nI (offS (s 0 0) (r + 1)) = nI (offS (s 0 0) r_1) ∧ nI (r + 1) + 1 = nI (r_1 + 1) ∧ (0 ≤ x.toInt → (offS (s 0 0) r_1 : Int) ≤ x.toInt)) ∧ 20 - (nI (r + 1) + 1).toNatClampNeg < 20 - (nI (r + 1)).toNatClampNeg := fun z => by
      refine ⟨⟨rfl, rfl, rfl, r + 1, c1, rfl, nI_1 _, z⟩, ?_⟩
      rw [nI_1, clN (by omega), clN (by omega)]; omega
    refine ⟨fun c2 => hstep (fun q => ?_), fun c2 => ⟨fun c3 => hstep (fun q => ?_), fun c3 => ?_⟩⟩
    · exfalso
      have h0 := hx q
      have hxu := Int32.toInt_lt x
      clear hx hstep
      ((try simp only [Int32.lt_iff_toInt_lt, Int32.le_iff_toInt_le, ne_eq, ← Int32.toInt_inj, isP, ti_nI, ti_add, ti_sub, ti_mul, ti_neg, ti_0, ti_1, ti_2, ti_3, ti_4, ti_5, ti_6, ti_7, ti_8, ti_9, ti_10, ti_11, ti_12, ti_13, ti_14, ti_15, ti_16, ti_17, ti_18, ti_19, ti_20, ti_28, ti_30, ti_31, ti_32, ti_40, ti_45, ti_47, ti_48, ti_49, ti_57, ti_58, ti_59, ti_61, ti_76, ti_84, ti_96, ti_99, ti_100, ti_114, ti_115, ti_120, ti_126, ti_840, ti_1024] at c2 ⊢); omega)
    · have h0 := hx q
      have hxu := Int32.toInt_lt x
      clear hx hstep
      obtain ⟨i, hi, rfl⟩ := nI_of (show ¬ x < 0 by ((try simp only [Int32.lt_iff_toInt_lt, Int32.le_iff_toInt_le, ne_eq, ← Int32.toInt_inj, isP, ti_nI, ti_add, ti_sub, ti_mul, ti_neg, ti_0, ti_1, ti_2, ti_3, ti_4, ti_5, ti_6, ti_7, ti_8, ti_9, ti_10, ti_11, ti_12, ti_13, ti_14, ti_15, ti_16, ti_17, ti_18, ti_19, ti_20, ti_28, ti_30, ti_31, ti_32, ti_40, ti_45, ti_47, ti_48, ti_49, ti_57, ti_58, ti_59, ti_61, ti_76, ti_84, ti_96, ti_99, ti_100, ti_114, ti_115, ti_120, ti_126, ti_840, ti_1024] at q ⊢); omega))
      rw [nI_toInt hi] at h0 ⊢
      rw [pk_sub (by omega)] at c3
      have c3 := (nI_leI (by omega) (by omega)).mp c3
      omega
    · clear hstep
      have hx0 : 0 ≤ x.toInt := by
        have hxl := Int32.le_toInt x
        have hxu := Int32.toInt_lt x
        rcases Int.lt_or_le x.toInt 0 with z | z
        · exfalso
          clear hx
          ((try simp only [Int32.lt_iff_toInt_lt, Int32.le_iff_toInt_le, ne_eq, ← Int32.toInt_inj, isP, ti_nI, ti_add, ti_sub, ti_mul, ti_neg, ti_0, ti_1, ti_2, ti_3, ti_4, ti_5, ti_6, ti_7, ti_8, ti_9, ti_10, ti_11, ti_12, ti_13, ti_14, ti_15, ti_16, ti_17, ti_18, ti_19, ti_20, ti_28, ti_30, ti_31, ti_32, ti_40, ti_45, ti_47, ti_48, ti_49, ti_57, ti_58, ti_59, ti_61, ti_76, ti_84, ti_96, ti_99, ti_100, ti_114, ti_115, ti_120, ti_126, ti_840, ti_1024] at c2 c3 ⊢); omega)
        · exact z
      have h0 := hx hx0
      obtain ⟨i, hi, rfl⟩ := nI_of (show ¬ x < 0 by ((try simp only [Int32.lt_iff_toInt_lt, Int32.le_iff_toInt_le, ne_eq, ← Int32.toInt_inj, isP, ti_nI, ti_add, ti_sub, ti_mul, ti_neg, ti_0, ti_1, ti_2, ti_3, ti_4, ti_5, ti_6, ti_7, ti_8, ti_9, ti_10, ti_11, ti_12, ti_13, ti_14, ti_15, ti_16, ti_17, ti_18, ti_19, ti_20, ti_28, ti_30, ti_31, ti_32, ti_40, ti_45, ti_47, ti_48, ti_49, ti_57, ti_58, ti_59, ti_61, ti_76, ti_84, ti_96, ti_99, ti_100, ti_114, ti_115, ti_120, ti_126, ti_840, ti_1024] at hx0 ⊢); omega))
      rw [nI_toInt hi] at h0
      have hge : offS (s 0 0) r ≤ i := by omega
      rw [pk_sub hge] at c3 ⊢
      have hlt : i - offS (s 0 0) r < 2 * TB (s 0 0) (r + 1) := Nat.lt_of_not_le fun z => c3 (nI_le z (by omega))
      refine ok_roundsByte h v (by omega) (by omega) hlt (kI k ?_)
      unfold brX
      rw [if_neg (nI_pos hi), clN hi]
      exact brS_in w c1 hge (by omega)
/-! the tape -/
theorem ok_T_at {x : Int32} {tl : Nat} {f : Int32 → qMI → qML → qMP → Prop} (h1 : (shp sh e).1 = 7) (h2 : shp sh (P e 0) = (20, 120)) (h3 : I e 1 = nI tl) (h4 : tl ≤ 120) (k : f (if isP tl x then I (P e 0) x.toNatClampNeg else -1) I L P) : Sq (d + 1) mX7_at sh [.ref e, .int x] I L P (KI f) := by
  refine sp_X7_at ⟨fun c1 => kI k (if_neg (by ((try simp only [Int32.lt_iff_toInt_lt, Int32.le_iff_toInt_le, ne_eq, ← Int32.toInt_inj, isP, ti_nI, ti_add, ti_sub, ti_mul, ti_neg, ti_0, ti_1, ti_2, ti_3, ti_4, ti_5, ti_6, ti_7, ti_8, ti_9, ti_10, ti_11, ti_12, ti_13, ti_14, ti_15, ti_16, ti_17, ti_18, ti_19, ti_20, ti_28, ti_30, ti_31, ti_32, ti_40, ti_45, ti_47, ti_48, ti_49, ti_57, ti_58, ti_59, ti_61, ti_76, ti_84, ti_96, ti_99, ti_100, ti_114, ti_115, ti_120, ti_126, ti_840, ti_1024] at *); omega))), fun c1 => ⟨h1, ?_⟩⟩
  rw [h3, h2]
  refine ⟨fun c2 => kI k (if_neg (by ((try simp only [Int32.lt_iff_toInt_lt, Int32.le_iff_toInt_le, ne_eq, ← Int32.toInt_inj, isP, ti_nI, ti_add, ti_sub, ti_mul, ti_neg, ti_0, ti_1, ti_2, ti_3, ti_4, ti_5, ti_6, ti_7, ti_8, ti_9, ti_10, ti_11, ti_12, ti_13, ti_14, ti_15, ti_16, ti_17, ti_18, ti_19, ti_20, ti_28, ti_30, ti_31, ti_32, ti_40, ti_45, ti_47, ti_48, ti_49, ti_57, ti_58, ti_59, ti_61, ti_76, ti_84, ti_96, ti_99, ti_100, ti_114, ti_115, ti_120, ti_126, ti_840, ti_1024] at *); omega))), fun c2 => ⟨rfl, fun c3 => absurd c3 (by show ¬ nI 120 ≤ x; ((try simp only [Int32.lt_iff_toInt_lt, Int32.le_iff_toInt_le, ne_eq, ← Int32.toInt_inj, isP, ti_nI, ti_add, ti_sub, ti_mul, ti_neg, ti_0, ti_1, ti_2, ti_3, ti_4, ti_5, ti_6, ti_7, ti_8, ti_9, ti_10, ti_11, ti_12, ti_13, ti_14, ti_15, ti_16, ti_17, ti_18, ti_19, ti_20, ti_28, ti_30, ti_31, ti_32, ti_40, ti_45, ti_47, ti_48, ti_49, ti_57, ti_58, ti_59, ti_61, ti_76, ti_84, ti_96, ti_99, ti_100, ti_114, ti_115, ti_120, ti_126, ti_840, ti_1024] at *); omega)), fun c3 => ?_⟩⟩
  have hp : isP tl x := by ((try simp only [Int32.lt_iff_toInt_lt, Int32.le_iff_toInt_le, ne_eq, ← Int32.toInt_inj, isP, ti_nI, ti_add, ti_sub, ti_mul, ti_neg, ti_0, ti_1, ti_2, ti_3, ti_4, ti_5, ti_6, ti_7, ti_8, ti_9, ti_10, ti_11, ti_12, ti_13, ti_14, ti_15, ti_16, ti_17, ti_18, ti_19, ti_20, ti_28, ti_30, ti_31, ti_32, ti_40, ti_45, ti_47, ti_48, ti_49, ti_57, ti_58, ti_59, ti_61, ti_76, ti_84, ti_96, ti_99, ti_100, ti_114, ti_115, ti_120, ti_126, ti_840, ti_1024] at *); omega)
  obtain ⟨p, hp2, rfl⟩ := isP_ex hp
  exact ⟨vin p rfl (by show p < 120; omega) (by decide), kI k (if_pos hp)⟩
theorem ok_T_add {x : Int32} {tl : Nat} {f : Int32 → qMI → qML → qMP → Prop} (h1 : (shp sh e).1 = 7) (h2 : shp sh (P e 0) = (20, 120)) (h3 : I e 1 = nI tl) (h4 : tl ≤ 120) (k1 : tl = 120 → f 0 I L P) (k2 : tl < 120 → f 1 (uI (uI I (P e 0) tl x) e 1 (nI (tl + 1))) L P) : Sq (d + 1) mX7_add sh [.ref e, .int x] I L P (KI f) := by
  have n2 : e ≠ P e 0 := fun q => by rw [← q] at h2; rw [h2] at h1; exact absurd h1 (by decide)
  refine sp_X7_add ⟨h1, ?_⟩
  rw [h3, h2]
  refine ⟨fun c1 => absurd c1 (by ((try simp only [Int32.lt_iff_toInt_lt, Int32.le_iff_toInt_le, ne_eq, ← Int32.toInt_inj, isP, ti_nI, ti_add, ti_sub, ti_mul, ti_neg, ti_0, ti_1, ti_2, ti_3, ti_4, ti_5, ti_6, ti_7, ti_8, ti_9, ti_10, ti_11, ti_12, ti_13, ti_14, ti_15, ti_16, ti_17, ti_18, ti_19, ti_20, ti_28, ti_30, ti_31, ti_32, ti_40, ti_45, ti_47, ti_48, ti_49, ti_57, ti_58, ti_59, ti_61, ti_76, ti_84, ti_96, ti_99, ti_100, ti_114, ti_115, ti_120, ti_126, ti_840, ti_1024] at *); omega)), fun c1 => ⟨rfl, fun c2 => ⟨vin tl rfl (by have c2 : nI tl < nI 120 := c2; show tl < 120; ((try simp only [Int32.lt_iff_toInt_lt, Int32.le_iff_toInt_le, ne_eq, ← Int32.toInt_inj, isP, ti_nI, ti_add, ti_sub, ti_mul, ti_neg, ti_0, ti_1, ti_2, ti_3, ti_4, ti_5, ti_6, ti_7, ti_8, ti_9, ti_10, ti_11, ti_12, ti_13, ti_14, ti_15, ti_16, ti_17, ti_18, ti_19, ti_20, ti_28, ti_30, ti_31, ti_32, ti_40, ti_45, ti_47, ti_48, ti_49, ti_57, ti_58, ti_59, ti_61, ti_76, ti_84, ti_96, ti_99, ti_100, ti_114, ti_115, ti_120, ti_126, ti_840, ti_1024] at *); omega)) (by decide), fun I6 e6 I7 e7 => ?_⟩, fun c2 => ?_⟩⟩
  · have c2 : nI tl < nI 120 := c2
    have c2 : tl < 120 := by ((try simp only [Int32.lt_iff_toInt_lt, Int32.le_iff_toInt_le, ne_eq, ← Int32.toInt_inj, isP, ti_nI, ti_add, ti_sub, ti_mul, ti_neg, ti_0, ti_1, ti_2, ti_3, ti_4, ti_5, ti_6, ti_7, ti_8, ti_9, ti_10, ti_11, ti_12, ti_13, ti_14, ti_15, ti_16, ti_17, ti_18, ti_19, ti_20, ti_28, ti_30, ti_31, ti_32, ti_40, ti_45, ti_47, ti_48, ti_49, ti_57, ti_58, ti_59, ti_61, ti_76, ti_84, ti_96, ti_99, ti_100, ti_114, ti_115, ti_120, ti_126, ti_840, ti_1024] at *); omega)
    have k2 := k2 c2
    rw [clN (by omega)] at e6
    have : I6 e 1 = nI tl := by rw [e6, uI_ne e n2]; exact h3
    rw [this, nI_1, e6] at e7
    subst e7
    exact k2
  · have c2 : ¬ nI tl < nI 120 := c2
    exact k1 (by ((try simp only [Int32.lt_iff_toInt_lt, Int32.le_iff_toInt_le, ne_eq, ← Int32.toInt_inj, isP, ti_nI, ti_add, ti_sub, ti_mul, ti_neg, ti_0, ti_1, ti_2, ti_3, ti_4, ti_5, ti_6, ti_7, ti_8, ti_9, ti_10, ti_11, ti_12, ti_13, ti_14, ti_15, ti_16, ti_17, ti_18, ti_19, ti_20, ti_28, ti_30, ti_31, ti_32, ti_40, ti_45, ti_47, ti_48, ti_49, ti_57, ti_58, ti_59, ti_61, ti_76, ti_84, ti_96, ti_99, ti_100, ti_114, ti_115, ti_120, ti_126, ti_840, ti_1024] at *); omega))
end D3
