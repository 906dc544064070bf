/-! ===== calls that only tell ===== -/
def slotI (s : Sit) (p : Nat) : Nat := ((List.range (slotsS (s 0 0))).find? (fun t => s 20 t == p)).getD 0
theorem slotI_eq {s : Sit} (w : WD s) {p j : Nat} (hp : p < s 0 0) (hj : j < slotsS (s 0 0)) (e : s 20 j = p) : slotI s p = j := by
  have hn := w.2.2.1
  unfold slotI
  cases h : (List.range (slotsS (s 0 0))).find? (fun t => s 20 t == p) with
  | none =>
    have := List.find?_eq_none.mp h j (List.mem_range.mpr hj)
    rw [e] at this
    simp at this
  | some k =>
    have h1 := List.find?_some h
    have h2 := List.mem_range.mp (List.mem_of_find?_eq_some h)
    have h1 := beq_iff_eq.mp h1
    exact w.2.2.2.2.2.1 k j h2 hj (by rw [h1, e]) (by omega)
def ofV (s : Sit) (x y : Int32) : Int32 := if isP (s 0 0) x ∧ isP 5 y then (if y = 4 then (if seated s x.toNatClampNeg then nI (seatF s x.toNatClampNeg) else -2) else nI (s (1 + y.toNatClampNeg) x.toNatClampNeg)) else -1
def slotV (s : Sit) (x : Int32) : Int32 := if isP (slotsS (s 0 0)) x then (if s 7 0 = 1 then nI (s 20 x.toNatClampNeg) else -5) else -1
def whereV (s : Sit) (x : Int32) : Int32 := if isP (s 0 0) x then (if s 7 0 = 1 then nI (slotI s x.toNatClampNeg) else -5) else -1
def numberV (s : Sit) : Int64 := if s 7 0 = 1 then lN (s 8 0) else -5
def soonV (s : Sit) (x y : Int32) : Int32 := if isP (s 0 0) x ∧ isP (s 0 0) y ∧ x ≠ y then (if s 7 0 = 1 then nI (fcr (slotI s x.toNatClampNeg) (slotI s y.toNatClampNeg)) else -5) else -1
abbrev isRd (s : Sit) (x : Int32) : Prop := 1 ≤ x.toInt ∧ x.toInt ≤ lastS (s 0 0)
def throughV (s : Sit) (x y : Int32) : Int32 := if isRd s x ∧ isP (TB (s 0 0) x.toNatClampNeg) y then (if s 7 0 = 1 then (if x.toNatClampNeg ≤ s 9 0 then nI (s (20 + x.toNatClampNeg) y.toNatClampNeg) else -2) else -5) else -1
def metV (s : Sit) (x y : Int32) : Int32 := if isP (s 0 0) x ∧ isRd s y then (if s 7 0 = 1 then (if y.toNatClampNeg ≤ s 9 0 ∧ s (20 + (y.toNatClampNeg - 1)) (slotI s x.toNatClampNeg / 2 ^ (y.toNatClampNeg - 1)) = x.toNatClampNeg then nI (s (20 + (y.toNatClampNeg - 1)) ((slotI s x.toNatClampNeg / 2 ^ (y.toNatClampNeg - 1)) ^^^ 1)) else -2) else -5) else -1
def printV (s : Sit) (x : Int32) : Int32 := if -1 ≤ x then (if s 7 0 = 1 then prX s x else -5) else -1
def brackV (s : Sit) (x : Int32) : Int32 := if -1 ≤ x then (if s 7 0 = 1 then brX s x else -5) else -1
section QU
variable {d : Nat} {I : qMI} {L : qML} {P : qMP} {s : Sit}
theorem now_P (hP : LAY P) : P 1 0 = 2 ∧ P 2 0 = 3 ∧ P 2 1 = 5 ∧ P 1 2 = 14 ∧ P 1 3 = 82 ∧ P 82 2 = 86 ∧ P 1 4 = 88 ∧ P 1 5 = 112 ∧ P 1 6 = 136 ∧ P 1 7 = 139 ∧ P 1 8 = 141 ∧ P 1 1 = 8 :=
  ⟨ly_1_0 hP, ly_2_0 hP, ly_2_1 hP, ly_1_2 hP, ly_1_3 hP, ly_82_2 hP, ly_1_4 hP, ly_1_5 hP, ly_1_6 hP, ly_1_7 hP, ly_1_8 hP, ly_1_1 hP⟩
theorem now_d (hX : XS I L P 2 s) (hO : OKS s) : (I 5 0 = 0 ∧ s 7 0 = 0) ∨ (¬ I 5 0 = 0 ∧ s 7 0 = 1 ∧ DV I L P 5 s ∧ WD s) := by
  obtain ⟨hE, hd, g1, g2, g3, g4, v⟩ := hX
  rcases g3 with q | q
  · exact Or.inl ⟨by have g1 : I 5 0 = nI (s 7 0) := g1; rw [g1, q]; rfl, q⟩
  · exact Or.inr ⟨by have g1 : I 5 0 = nI (s 7 0) := g1; rw [g1, q]; decide, q, v q, (v q).2.2.2.2.2.2⟩
theorem cl_isP {n : Nat} {x : Int32} (h : isP n x) (hn : n < 2147483648) : ∃ p, p < n ∧ x = nI p ∧ x.toNatClampNeg = p := by
  obtain ⟨p, h1, h2⟩ := isP_ex h
  exact ⟨p, h1, h2, by rw [h2, clN (by omega)]⟩
theorem ok9_of {x y : Int32} {f : Int32 → qMI → qML → qMP → Prop} (hP : LAY P) (hX : XS I L P 2 s) (k : f (ofV s x y) I L P) : Sq (d + 4) mX9_of SH0 [.ref 1, .int x, .int y] I L P (KI f) := by
  obtain ⟨p1, p2, p3, -⟩ := now_P hP
  have hE := hX.1
  have hn := hE.2.2.2.2.2.2.1
  have hsl := slotsS_in (s 0 0)
  refine sp_X9_of ⟨by decide, by rw [p1]; decide, ?_⟩
  rw [p1, p2]
  refine ⟨by decide, ok_has hE ⟨fun c => kI k (if_neg fun q => b01_0.mp c q.1), fun c => ⟨fun c2 => kI k (if_neg fun q => by have := q.2.1; ((try simp only [Int32.lt_iff_toInt_lt, Int32.le_iff_toInt_le, ne_eq, ← Int32.toInt_inj, isP, ti_nI, ti_add, ti_sub, ti_mul, ti_neg, ti_0, ti_1, ti_2, ti_3, ti_4, ti_5, ti_6, ti_7, ti_8, ti_9, ti_10, ti_11, ti_12, ti_13, ti_14, ti_15, ti_16, ti_17, ti_18, ti_19, ti_20, ti_28, ti_30, ti_31, ti_32, ti_40, ti_45, ti_47, ti_48, ti_49, ti_57, ti_58, ti_59, ti_61, ti_76, ti_84, ti_96, ti_99, ti_100, ti_114, ti_115, ti_120, ti_126, ti_840, ti_1024] at c2 this ⊢); omega)), fun c2 => ⟨fun c3 => ⟨fun c4 => ?_, fun c4 => ?_⟩, fun c3 => kI k (if_neg fun q => by have := q.2.2; ((try simp only [Int32.lt_iff_toInt_lt, Int32.le_iff_toInt_le, ne_eq, ← Int32.toInt_inj, isP, ti_nI, ti_add, ti_sub, ti_mul, ti_neg, ti_0, ti_1, ti_2, ti_3, ti_4, ti_5, ti_6, ti_7, ti_8, ti_9, ti_10, ti_11, ti_12, ti_13, ti_14, ti_15, ti_16, ti_17, ti_18, ti_19, ti_20, ti_28, ti_30, ti_31, ti_32, ti_40, ti_45, ti_47, ti_48, ti_49, ti_57, ti_58, ti_59, ti_61, ti_76, ti_84, ti_96, ti_99, ti_100, ti_114, ti_115, ti_120, ti_126, ti_840, ti_1024] at c3 this ⊢); omega))⟩⟩⟩⟩
  · have c := b01_n0.mp c
    obtain ⟨p, hp, rfl, hc⟩ := cl_isP c (by omega)
    have e4 : y = 4 := by
      rw [← Int32.toInt_inj]
      ((try simp only [Int32.lt_iff_toInt_lt, Int32.le_iff_toInt_le, ne_eq, ← Int32.toInt_inj, isP, ti_nI, ti_add, ti_sub, ti_mul, ti_neg, ti_0, ti_1, ti_2, ti_3, ti_4, ti_5, ti_6, ti_7, ti_8, ti_9, ti_10, ti_11, ti_12, ti_13, ti_14, ti_15, ti_16, ti_17, ti_18, ti_19, ti_20, ti_28, ti_30, ti_31, ti_32, ti_40, ti_45, ti_47, ti_48, ti_49, ti_57, ti_58, ti_59, ti_61, ti_76, ti_84, ti_96, ti_99, ti_100, ti_114, ti_115, ti_120, ti_126, ti_840, ti_1024] at c3 c4 ⊢); omega)
    subst e4
    have e : ofV s (nI p) 4 = if seated s p then nI (seatF s p) else -2 := by
      unfold ofV
      rw [if_pos ⟨c, by decide⟩, if_pos rfl, hc]
    rw [e] at k
    refine ok_seedSlot hE hp ?_
    by_cases z : seated s p
    · have hlt := seatS_lt _ hn _ z.2 z.1
      rw [if_pos z] at k ⊢
      exact ⟨fun _ => k, fun q => absurd q (m1ne (by omega))⟩
    · rw [if_neg z] at k ⊢
      exact ⟨fun q => absurd rfl q, fun _ => k⟩
  · have c := b01_n0.mp c
    obtain ⟨p, hp, rfl, hc⟩ := cl_isP c (by omega)
    have hy : isP 4 y := by unfold isP; ((try simp only [Int32.lt_iff_toInt_lt, Int32.le_iff_toInt_le, ne_eq, ← Int32.toInt_inj, isP, ti_nI, ti_add, ti_sub, ti_mul, ti_neg, ti_0, ti_1, ti_2, ti_3, ti_4, ti_5, ti_6, ti_7, ti_8, ti_9, ti_10, ti_11, ti_12, ti_13, ti_14, ti_15, ti_16, ti_17, ti_18, ti_19, ti_20, ti_28, ti_30, ti_31, ti_32, ti_40, ti_45, ti_47, ti_48, ti_49, ti_57, ti_58, ti_59, ti_61, ti_76, ti_84, ti_96, ti_99, ti_100, ti_114, ti_115, ti_120, ti_126, ti_840, ti_1024] at c2 c4 ⊢); omega)
    obtain ⟨w, hw, rfl, hcw⟩ := cl_isP hy (by decide)
    have e : ofV s (nI p) (nI w) = nI (s (1 + w) p) := by
      unfold ofV
      rw [if_pos ⟨c, by unfold isP at hy ⊢; omega⟩, if_neg (fun q => by
        have := nI_inj (b := 4) (by omega) (by decide) q
        omega), hc, hcw]
    rw [e] at k
    exact ok_told hE hp hw k
theorem ok9_slot {x : Int32} {f : Int32 → qMI → qML → qMP → Prop} (hP : LAY P) (hX : XS I L P 2 s) (hO : OKS s) (k : f (slotV s x) I L P) : Sq (d + 3) mX9_slot SH0 [.ref 1, .int x] I L P (KI f) := by
  obtain ⟨p1, p2, p3, -⟩ := now_P hP
  have hE := hX.1
  have hsl := slotsS_in (s 0 0)
  refine sp_X9_slot ⟨by decide, by rw [p1]; decide, ?_⟩
  rw [p1, p2]
  refine ⟨by decide, ok_hasSlot hE ⟨fun c => ⟨by rw [p1]; decide, ?_⟩, fun c => kI k (if_neg (b01_0.mp c))⟩⟩
  have c := b01_n0.mp c
  rw [p1, p3]
  refine ⟨by decide, ?_⟩
  unfold slotV at k
  rw [if_pos c] at k
  rcases now_d hX hO with ⟨d1, d2⟩ | ⟨d1, d2, v, w⟩
  · rw [if_neg (by rw [d2]; decide)] at k
    exact ⟨fun _ => k, fun q => absurd d1 q⟩
  · rw [if_pos d2] at k
    obtain ⟨j, hj, rfl, hc⟩ := cl_isP c (by omega)
    rw [hc] at k
    exact ⟨fun q => absurd q d1, fun _ => ok_standing hX.2.1 v hj k⟩
theorem ok9_where {x : Int32} {f : Int32 → qMI → qML → qMP → Prop} (hP : LAY P) (hX : XS I L P 2 s) (hO : OKS s) (k : f (whereV s x) I L P) : Sq (d + 4) mX9_where SH0 [.ref 1, .int x] I L P (KI f) := by
  obtain ⟨p1, p2, p3, -⟩ := now_P hP
  have hE := hX.1
  have hn := hE.2.2.2.2.2.2.1
  refine sp_X9_where ⟨by decide, by rw [p1]; decide, ?_⟩
  rw [p1, p2]
  refine ⟨by decide, ok_has hE ⟨fun c => ⟨by rw [p1]; decide, ?_⟩, fun c => kI k (if_neg (b01_0.mp c))⟩⟩
  have c := b01_n0.mp c
  rw [p1, p3]
  refine ⟨by decide, ?_⟩
  unfold whereV at k
  rw [if_pos c] at k
  rcases now_d hX hO with ⟨d1, d2⟩ | ⟨d1, d2, v, w⟩
  · rw [if_neg (by rw [d2]; decide)] at k
    exact ⟨fun _ => k, fun q => absurd d1 q⟩
  · rw [if_pos d2] at k
    obtain ⟨j, hj, rfl, hc⟩ := cl_isP c (by omega)
    rw [hc] at k
    exact ⟨fun q => absurd q d1, fun _ => ok_slotOf hX.2.1 v hj fun i hi e => by rw [slotI_eq w hj hi e] at k; exact k⟩
theorem ok9_number {f : Int64 → qMI → qML → qMP → Prop} (hP : LAY P) (hX : XS I L P 2 s) (hO : OKS s) (k : f (numberV s) I L P) : Sq (d + 1) mX9_number SH0 [.ref 1] I L P (KL f) := by
  obtain ⟨p1, p2, p3, -⟩ := now_P hP
  refine sp_X9_number ⟨by decide, by rw [p1]; decide, ?_⟩
  rw [p1, p3]
  refine ⟨by decide, ?_⟩
  unfold numberV at k
  rcases now_d hX hO with ⟨d1, d2⟩ | ⟨d1, d2, v, w⟩
  · rw [if_neg (by rw [d2]; decide)] at k
    exact ⟨fun _ => k, fun q => absurd d1 q⟩
  · rw [if_pos d2] at k
    exact ⟨fun q => absurd q d1, fun _ => kL k v.1.symm⟩
theorem ok9_soonest {x y : Int32} {f : Int32 → qMI → qML → qMP → Prop} (hP : LAY P) (hX : XS I L P 2 s) (hO : OKS s) (k : f (soonV s x y) I L P) : Sq (d + 5) mX9_soonest SH0 [.ref 1, .int x, .int y] I L P (KI f) := by
  obtain ⟨p1, p2, p3, -⟩ := now_P hP
  have hE := hX.1
  have hn := hE.2.2.2.2.2.2.1
  refine sp_X9_soonest ⟨by decide, by rw [p1]; decide, ?_⟩
  rw [p1, p2]
  refine ⟨by decide, ok_hasBoth hE ⟨fun c => ⟨by rw [p1]; decide, ?_⟩, fun c => kI k (if_neg (b01_0.mp c))⟩⟩
  have c := b01_n0.mp c
  rw [p1, p3]
  refine ⟨by decide, ?_⟩
  unfold soonV at k
  rw [if_pos c] at k
  rcases now_d hX hO with ⟨d1, d2⟩ | ⟨d1, d2, v, w⟩
  · rw [if_neg (by rw [d2]; decide)] at k
    exact ⟨fun _ => k, fun q => absurd d1 q⟩
  · rw [if_pos d2] at k
    obtain ⟨p, hp, rfl, hc⟩ := cl_isP c.1 (by omega)
    obtain ⟨o, ho, rfl, hc2⟩ := cl_isP c.2.1 (by omega)
    rw [hc, hc2] at k
    exact ⟨fun q => absurd q d1, fun _ => ok_first hX.2.1 v hp ho fun j i hj ej hi ei => by rw [slotI_eq w hp hj ej, slotI_eq w ho hi ei] at k; exact k⟩
theorem cl_isRd {x : Int32} (h : isRd s x) : ∃ r, 1 ≤ r ∧ r ≤ lastS (s 0 0) ∧ x = nI r ∧ x.toNatClampNeg = r := by
  have hl := lastS_le (s 0 0)
  obtain ⟨r, h1, h2, h3⟩ := cl_isP (n := lastS (s 0 0) + 1) (x := x) ⟨by have := h.1; omega, by have := h.2; omega⟩ (by omega)
  refine ⟨r, ?_, by omega, h2, h3⟩
  have := h.1
  rw [h2, nI_toInt (by omega)] at this
  omega
theorem ok9_through {x y : Int32} {f : Int32 → qMI → qML → qMP → Prop} (hP : LAY P) (hX : XS I L P 2 s) (hO : OKS s) (k : f (throughV s x y) I L P) : Sq (d + 4) mX9_through SH0 [.ref 1, .int x, .int y] I L P (KI f) := by
  obtain ⟨p1, p2, p3, -⟩ := now_P hP
  have hE := hX.1
  have hn := hE.2.2.2.2.2.2.1
  have hsl := slotsS_in (s 0 0)
  have hl := lastS_le (s 0 0)
  refine sp_X9_through ⟨by decide, by rw [p1]; decide, ?_⟩
  rw [p1, p2]
  refine ⟨by decide, ok_hasRound hE ⟨fun c => kI k (if_neg fun q => b01_0.mp c q.1), fun c => ⟨fun c2 => kI k (if_neg fun q => by have := q.2.1; ((try simp only [Int32.lt_iff_toInt_lt, Int32.le_iff_toInt_le, ne_eq, ← Int32.toInt_inj, isP, ti_nI, ti_add, ti_sub, ti_mul, ti_neg, ti_0, ti_1, ti_2, ti_3, ti_4, ti_5, ti_6, ti_7, ti_8, ti_9, ti_10, ti_11, ti_12, ti_13, ti_14, ti_15, ti_16, ti_17, ti_18, ti_19, ti_20, ti_28, ti_30, ti_31, ti_32, ti_40, ti_45, ti_47, ti_48, ti_49, ti_57, ti_58, ti_59, ti_61, ti_76, ti_84, ti_96, ti_99, ti_100, ti_114, ti_115, ti_120, ti_126, ti_840, ti_1024] at c2 this ⊢); omega)), fun c2 => ⟨by rw [p1]; decide, ?_⟩⟩⟩⟩
  have c : isRd s x := b01_n0.mp c
  obtain ⟨r, hr1, hr2, rfl, hc⟩ := cl_isRd c
  have tt := TB_all _ hn r hr2
  rw [p1, p2]
  refine ⟨by decide, ok_slots hE.1 hE.2.2.1 hn ?_⟩
  rw [shrN (by omega) (by omega)]
  have htb : slotsS (s 0 0) / 2 ^ r = TB (s 0 0) r := rfl
  rw [htb]
  refine ⟨fun c3 => ?_, fun c3 => kI k (if_neg fun q => ?_)⟩
  · have hy : isP (TB (s 0 0) r) y := by
      have t1 : (nI (TB (s 0 0) r)).toInt = (TB (s 0 0) r : Int) := nI_toInt (by omega)
      rw [Int32.lt_iff_toInt_lt, t1] at c3
      rw [Int32.lt_iff_toInt_lt, ti_0] at c2
      exact ⟨by omega, c3⟩
    obtain ⟨j, hj, rfl, hcj⟩ := cl_isP hy (by omega)
    unfold throughV at k
    rw [hc, hcj, if_pos ⟨c, hy⟩] at k
    rw [p1, p3]
    refine ⟨by decide, by decide, ?_⟩
    rcases now_d hX hO with ⟨d1, d2⟩ | ⟨d1, d2, v, w⟩
    · rw [if_neg (by rw [d2]; decide)] at k
      exact ⟨fun q => absurd d1 q, fun _ => k⟩
    · rw [if_pos d2] at k
      have g2 : I 5 4 = nI (s 9 0) := hX.2.2.2.1
      have w1 := w.1
      rw [g2]
      refine ⟨fun _ => ⟨fun c4 => ?_, fun c4 => ?_⟩, fun q => absurd q d1⟩
      · rw [nI_leI (by omega) (by omega)] at c4
        rw [if_pos c4] at k
        exact ok_cameThrough hX.2.1 v hr1 c4 hj k
      · rw [nI_leI (by omega) (by omega)] at c4
        rw [if_neg c4] at k
        exact k
  · rw [hc] at q
    have q2 := q.2.2
    have t1 : (nI (TB (s 0 0) r)).toInt = (TB (s 0 0) r : Int) := nI_toInt (by omega)
    rw [Int32.lt_iff_toInt_lt, t1] at c3
    exact c3 q2
theorem ok9_met {x y : Int32} {f : Int32 → qMI → qML → qMP → Prop} (hP : LAY P) (hX : XS I L P 2 s) (hO : OKS s) (k : f (metV s x y) I L P) : Sq (d + 6) mX9_met SH0 [.ref 1, .int x, .int y] I L P (KI f) := by
  obtain ⟨p1, p2, p3, -⟩ := now_P hP
  have hE := hX.1
  have hn := hE.2.2.2.2.2.2.1
  have hl := lastS_le (s 0 0)
  refine sp_X9_met ⟨by decide, by rw [p1]; decide, ?_⟩
  rw [p1, p2]
  refine ⟨by decide, ok_has hE ⟨fun c => kI k (if_neg fun q => b01_0.mp c q.1), fun c => ⟨by rw [p1]; decide, ?_⟩⟩⟩
  have c := b01_n0.mp c
  obtain ⟨p, hp, rfl, hc⟩ := cl_isP c (by omega)
  rw [p1, p2]
  refine ⟨by decide, ok_hasRound hE ⟨fun c2 => ⟨by rw [p1]; decide, ?_⟩, fun c2 => kI k (if_neg fun q => b01_0.mp c2 q.2)⟩⟩
  have c2 : isRd s y := b01_n0.mp c2
  obtain ⟨r, hr1, hr2, rfl, hcr⟩ := cl_isRd c2
  unfold metV at k
  rw [hc, hcr, if_pos ⟨c, c2⟩] at k
  rw [p1, p3]
  refine ⟨by decide, ?_⟩
  rcases now_d hX hO with ⟨d1, d2⟩ | ⟨d1, d2, v, w⟩
  · rw [if_neg (by rw [d2]; decide)] at k
    exact ⟨fun q => absurd d1 q, fun _ => k⟩
  · rw [if_pos d2] at k
    have g2 : I 5 4 = nI (s 9 0) := hX.2.2.2.1
    have w1 := w.1
    obtain ⟨r0, rfl⟩ : ∃ r0, r = r0 + 1 := ⟨r - 1, by omega⟩
    rw [show r0 + 1 - 1 = r0 by omega] at k
    rw [g2, nI_pred]
    refine ⟨fun _ => ⟨fun c4 => ?_, fun c4 => ?_⟩, fun q => absurd q d1⟩
    · rw [nI_ltI (by omega) (by omega)] at c4
      rw [if_neg (fun q => by omega)] at k
      exact k
    · rw [nI_ltI (by omega) (by omega)] at c4
      refine ok_isIn hX.2.1 v hp (show r0 ≤ s 9 0 by omega) fun j hj ej => ?_
      rw [slotI_eq w hp hj ej] at k
      refine ⟨fun c5 => ?_, fun c5 => ?_⟩
      · have c5 := b01_0.mp c5
        rw [if_neg (fun q => c5 q.2)] at k
        exact k
      · have c5 := b01_n0.mp c5
        rw [if_pos ⟨by omega, c5⟩] at k
        refine ok_opponent hX.2.1 v hp (show r0 ≤ s 9 0 by omega) (by omega) fun i hi ei => ?_
        rw [← slotI_eq w hp hi ei, slotI_eq w hp hj ej]
        exact k
theorem ok9_print {x : Int32} {f : Int32 → qMI → qML → qMP → Prop} (hP : LAY P) (hX : XS I L P 2 s) (hO : OKS s) (k : f (printV s x) I L P) : Sq (d + 4) mX9_print SH0 [.ref 1, .int x] I L P (KI f) := by
  obtain ⟨p1, p2, p3, -⟩ := now_P hP
  refine sp_X9_print ⟨fun c => ⟨by decide, by rw [p1]; decide, ?_⟩, fun c => kI k (if_neg c)⟩
  unfold printV at k
  rw [if_pos c] at k
  rw [p1, p3]
  refine ⟨by decide, ?_⟩
  rcases now_d hX hO with ⟨d1, d2⟩ | ⟨d1, d2, v, w⟩
  · rw [if_neg (by rw [d2]; decide)] at k
    exact ⟨fun _ => k, fun q => absurd d1 q⟩
  · rw [if_pos d2] at k
    exact ⟨fun q => absurd q d1, fun _ => ok_printedByte hX.2.1 v k⟩
theorem ok9_brackets {x : Int32} {f : Int32 → qMI → qML → qMP → Prop} (hP : LAY P) (hX : XS I L P 2 s) (hO : OKS s) (k : f (brackV s x) I L P) : Sq (d + 5) mX9_brackets SH0 [.ref 1, .int x] I L P (KI f) := by
  obtain ⟨p1, p2, p3, -⟩ := now_P hP
  refine sp_X9_brackets ⟨fun c => ⟨by decide, by rw [p1]; decide, ?_⟩, fun c => kI k (if_neg c)⟩
  unfold brackV at k
  rw [if_pos c] at k
  rw [p1, p3]
  refine ⟨by decide, ?_⟩
  rcases now_d hX hO with ⟨d1, d2⟩ | ⟨d1, d2, v, w⟩
  · rw [if_neg (by rw [d2]; decide)] at k
    exact ⟨fun _ => k, fun q => absurd d1 q⟩
  · rw [if_pos d2] at k
    exact ⟨fun q => absurd q d1, fun _ => ok_bracketsByte hX.2.1 v hX.2.2.2.1 k⟩
end QU
