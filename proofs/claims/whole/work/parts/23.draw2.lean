section DQ
variable {d : Nat} {sh : List qSh} {I : qMI} {L : qML} {P : qMP} {e u : Nat} {s : Sit}
def winV (s : Sit) (a b h : Nat) : Nat := if a = 10 ∨ b = 10 then (if a = 10 then b else a) else if h ≠ 0 then h - 1 else if beatsS s a b then a else b
theorem winS_V (s : Sit) (k : Nat) : winS s k = winV s (s (20 + s 9 0) (2 * k)) (s (20 + s 9 0) (2 * k + 1)) (s 11 k) := rfl
theorem raw_comesThrough {B a b h : Nat} {f : Int32 → qMI → qML → qMP → Prop} (hd : DSh sh P e) (hE : ES sh I P u s) (hB : 1 ≤ B) (hB2 : B < 16) (ea : I (P e 5) (2 * B) = nI a) (eb : I (P e 5) (2 * B + 1) = nI b) (eh : I (P e 6) B = nI h - 1) (ha : a < s 0 0 ∨ a = 10) (hb : b < s 0 0 ∨ b = 10) (hh : h ≠ 0 → h - 1 = a ∨ h - 1 = b) (k : f (nI (winV s a b h)) I L P) : Sq (d + 4) mX1_comesThrough sh [.ref e, .int (nI B), .ref u] I L P (KI f) := by
  have hn := hE.2.2.2.2.2.2.1
  have hh2 : h ≤ 11 := by
    rcases Nat.eq_zero_or_pos h with q | q
    · omega
    · have := hh (by omega); omega
  refine sp_X1_comesThrough ⟨hd.1, ?_⟩
  rw [show (2 : Int32) * nI B = nI (2 * B) from pk_mul 2 B, nI_1]
  refine raw_cameTo hd (by omega) (by omega) (raw_cameTo hd (by omega) (by omega) ?_)
  rw [ea, eb, hd.2.2]
  have hm : ∀ z, z ≤ 10 → ¬ ((-1 : Int32) = nI z) := by decide +kernel
  have hz : nI h - 1 = nI h - 1 := rfl
  have key : a ≠ 10 → b ≠ 10 → ((nI h - 1 = nI a → KI f (some (.int (nI h - 1))) I L P) ∧ (¬ nI h - 1 = nI a → ((¬ nI h - 1 = nI b → (shp sh u).1 = 2 ∧ Sq (d + 3) mX2_beats sh [.ref u, .int (nI a), .int (nI b)] I L P (KI fun r36 I37 L38 P39 => (r36 = 0 → KI f (some (.int (nI b))) I37 L38 P39) ∧ (¬ r36 = 0 → KI f (some (.int (nI a))) I37 L38 P39))) ∧ (nI h - 1 = nI b → KI f (some (.int (nI h - 1))) I L P)))) := by
    intro h1 h2
    have v1 : winV s a b h = if h ≠ 0 then h - 1 else if beatsS s a b then a else b := if_neg (by omega)
    have hsub : h ≠ 0 → nI h - 1 = nI (h - 1) := fun q => pk_sub (a := h) (b := 1) (by omega)
    have h0 : h = 0 → nI h - 1 = -1 := fun q => by rw [q]; rfl
    refine ⟨fun c => ?_, fun c => ⟨fun c2 => ⟨hE.1, ok_beats hE (by omega) (by omega) ⟨fun c3 => ?_, fun c3 => ?_⟩⟩, fun c2 => ?_⟩⟩
    · rcases Nat.eq_zero_or_pos h with q | q
      · rw [h0 q] at c; exact absurd c (hm a (by omega))
      · exact kI k (by rw [v1, if_pos (by omega), hsub (by omega)])
    · rcases Nat.eq_zero_or_pos h with q | q
      · exact kI k (by rw [v1, if_neg (by omega), if_neg (b01_0.mp c3)])
      · exfalso
        have := hh (by omega)
        rw [hsub (by omega)] at c c2
        rcases this with z | z
        · exact c (by rw [z])
        · exact c2 (by rw [z])
    · rcases Nat.eq_zero_or_pos h with q | q
      · exact kI k (by rw [v1, if_neg (by omega), if_pos (b01_n0.mp c3)])
      · exfalso
        have := hh (by omega)
        rw [hsub (by omega)] at c c2
        rcases this with z | z
        · exact c (by rw [z])
        · exact c2 (by rw [z])
    · rcases Nat.eq_zero_or_pos h with q | q
      · rw [h0 q] at c2; exact absurd c2 (hm b (by omega))
      · exact kI k (by rw [v1, if_pos (by omega), hsub (by omega)])
  refine ⟨fun c1 => ⟨fun c2 => absurd c1 c2, fun c2 => ?_⟩, fun c1 => ⟨fun c2 => ⟨fun c3 => absurd c3 (by ((try simp only [Int32.lt_iff_toInt_lt, Int32.le_iff_toInt_le, ne_eq, ← Int32.toInt_inj, isP, ti_nI, ti_add, ti_sub, ti_mul, ti_neg, ti_0, ti_1, ti_2, ti_3, ti_4, ti_5, ti_6, ti_7, ti_8, ti_9, ti_10, ti_11, ti_12, ti_13, ti_14, ti_15, ti_16, ti_17, ti_18, ti_19, ti_20, ti_28, ti_30, ti_31, ti_32, ti_40, ti_45, ti_47, ti_48, ti_49, ti_57, ti_58, ti_59, ti_61, ti_76, ti_84, ti_96, ti_99, ti_100, ti_114, ti_115, ti_120, ti_126, ti_840, ti_1024] at *); omega)), fun c3 => ⟨rfl, fun c4 => absurd c4 (by show ¬ nI 16 ≤ nI B; ((try simp only [Int32.lt_iff_toInt_lt, Int32.le_iff_toInt_le, ne_eq, ← Int32.toInt_inj, isP, ti_nI, ti_add, ti_sub, ti_mul, ti_neg, ti_0, ti_1, ti_2, ti_3, ti_4, ti_5, ti_6, ti_7, ti_8, ti_9, ti_10, ti_11, ti_12, ti_13, ti_14, ti_15, ti_16, ti_17, ti_18, ti_19, ti_20, ti_28, ti_30, ti_31, ti_32, ti_40, ti_45, ti_47, ti_48, ti_49, ti_57, ti_58, ti_59, ti_61, ti_76, ti_84, ti_96, ti_99, ti_100, ti_114, ti_115, ti_120, ti_126, ti_840, ti_1024] at *); omega)), fun c4 => ⟨vin B rfl hB2 (by decide), ?_⟩⟩⟩, fun c2 => ⟨fun c3 => ?_, fun c3 => absurd c3 c1⟩⟩⟩
  · have c2 : a = 10 := nI_inj (by omega) (by decide) c2
    exact kI k (by rw [show winV s a b h = b by unfold winV; rw [if_pos (Or.inl c2), if_pos c2]])
  · have h1 : a ≠ 10 := fun q => c1 (by rw [q]; rfl)
    have h2 : b ≠ 10 := fun q => c2 (by rw [q]; rfl)
    rw [clN (by omega), eh]
    exact key h1 h2
  · have h1 : a ≠ 10 := fun q => c1 (by rw [q]; rfl)
    have c2 : b = 10 := nI_inj (by omega) (by decide) c2
    exact kI k (by rw [show winV s a b h = a by unfold winV; rw [if_pos (Or.inr c2), if_neg h1]])
theorem ES.cfg {sh : List qSh} {I : qMI} {P : qMP} {e : Nat} {s t : Sit} (h : ES sh I P e s) (q : ∀ x, x < 7 → ∀ y, t x y = s x y) : ES sh I P e t := by
  obtain ⟨a, b, c, d, f, g, w1, w2, w3, w4, w5⟩ := h
  refine ⟨a, b, by rw [q 0 (by omega)]; exact c, by rw [q 5 (by omega)]; exact d, by rw [q 6 (by omega)]; exact f, fun p w hp hw => ?_, by rw [q 0 (by omega)]; exact w1, by rw [q 5 (by omega)]; exact w2, by rw [q 6 (by omega)]; exact w3, fun p hp => ?_, fun p r hp hr hne => ?_⟩
  · rw [q 0 (by omega)] at hp
    rw [q (1 + w) (by omega)]
    exact g p w hp hw
  · rw [q 0 (by omega)] at hp
    rw [q 1 (by omega), q 2 (by omega), q 3 (by omega), q 4 (by omega)]
    exact w4 p hp
  · rw [q 0 (by omega)] at hp hr
    rw [q 3 (by omega), q 3 (by omega)]
    exact w5 p r hp hr hne
theorem playS_cfg (s : Sit) : ∀ x, x < 7 → ∀ y, playS s x y = s x y := fun x hx y => by
  unfold playS
  rw [if_neg (by omega), if_neg (by omega), if_neg (by omega)]
theorem playS_9 (s : Sit) : playS s 9 0 = s 9 0 + 1 := if_pos ⟨rfl, rfl⟩
theorem playS_new (s : Sit) (k : Nat) : playS s (20 + (s 9 0 + 1)) k = winS s k := by
  unfold playS
  rw [if_neg (by omega), if_pos rfl]
theorem playS_old (s : Sit) {x y : Nat} (h9 : ¬ (x = 9 ∧ y = 0)) (hx : x ≠ 20 + (s 9 0 + 1)) (h11 : x ≠ 11) : playS s x y = s x y := by
  unfold playS
  rw [if_neg h9, if_neg hx, if_neg h11]
theorem winS_in {s : Sit} (w : WD s) (hr : s 9 0 < lastS (s 0 0)) {k : Nat} (hk : k < TB (s 0 0) (s 9 0 + 1)) : winS s k < s 0 0 ∧ (winS s k = s (20 + s 9 0) (2 * k) ∨ winS s k = s (20 + s 9 0) (2 * k + 1)) := by
  have t := TB_all _ w.2.2.1 (s 9 0) (by omega)
  have t2 := t.2.2.2.1 hr
  have ha := w.2.2.2.1 (s 9 0) (2 * k) (Nat.le_refl _) (by omega)
  have hb := w.2.2.2.1 (s 9 0) (2 * k + 1) (Nat.le_refl _) (by omega)
  have hn := w.2.2.1
  have hbye : s (20 + s 9 0) (2 * k) ≠ 10 ∨ s (20 + s 9 0) (2 * k + 1) ≠ 10 := by
    rcases Nat.eq_zero_or_pos (s 9 0) with z | z
    · rw [z] at hk ⊢
      exact w.2.2.2.2.2.2.2.1 k hk
    · omega
  have hh := w.2.2.2.2.2.2.2.2 k hr hk
  unfold winS
  generalize s (20 + s 9 0) (2 * k) = a at *
  generalize s (20 + s 9 0) (2 * k + 1) = b at *
  generalize s 11 k = h at *
  by_cases c : a = 10 ∨ b = 10
  · rw [if_pos c]
    by_cases c2 : a = 10
    · rw [if_pos c2]; exact ⟨by omega, Or.inr rfl⟩
    · rw [if_neg c2]; exact ⟨by omega, Or.inl rfl⟩
  · rw [if_neg c]
    by_cases c2 : h ≠ 0
    · rw [if_pos c2]; have := hh c2; exact ⟨by omega, this⟩
    · rw [if_neg c2]
      by_cases c3 : beatsS s a b
      · rw [if_pos c3]; exact ⟨by omega, Or.inl rfl⟩
      · rw [if_neg c3]; exact ⟨by omega, Or.inr rfl⟩
theorem WD.play {s : Sit} (w : WD s) (hr : s 9 0 < lastS (s 0 0)) : WD (playS s) := by
  have e0 : playS s 0 0 = s 0 0 := playS_cfg s 0 (by omega) 0
  have e20 : ∀ k, playS s 20 k = s 20 k := fun k => playS_old s (by omega) (by omega) (by omega)
  obtain ⟨w1, w2, w3, w4, w5, w6, w7, w8, w9⟩ := id w
  unfold WD
  rw [e0, playS_9]
  refine ⟨by omega, w2, w3, fun r k h1 h2 => ?_, fun p hp => ?_, fun j k hj hk q1 q2 => ?_, fun r k h1 h2 => ?_, fun k hk => ?_, fun k _ _ h3 => ?_⟩
  · by_cases c : r = s 9 0 + 1
    · subst c
      rw [playS_new]
      exact Or.inl (winS_in w hr h2).1
    · rw [playS_old s (by omega) (by omega) (by omega)]
      exact w4 r k (by omega) h2
  · obtain ⟨k, hk, q⟩ := w5 p hp
    exact ⟨k, hk, by rw [e20]; exact q⟩
  · rw [e20] at q1 q2
    rw [e20] at q1
    exact w6 j k hj hk q1 q2
  · by_cases c : r = s 9 0
    · subst c
      rw [playS_new, playS_old s (by omega) (by omega) (by omega), playS_old s (by omega) (by omega) (by omega)]
      exact (winS_in w hr h2).2
    · rw [playS_old s (by omega) (by omega) (by omega), playS_old s (by omega) (by omega) (by omega), playS_old s (by omega) (by omega) (by omega)]
      exact w7 r k (by omega) h2
  · rw [e20, e20]
    exact w8 k hk
  · exfalso
    apply h3
    unfold playS
    rw [if_neg (by omega), if_neg (by omega), if_pos rfl]
theorem ok_goOn {f : qMI → qML → qMP → Prop} (h : DS sh I L P e s) (h7 : s 7 0 = 1) (hE : ES sh I P u s) (hr : s 9 0 < lastS (s 0 0)) (k : ∀ I', (∀ r, r ≠ e → r ≠ P e 5 → I' r = I r) → DS sh I' L P e (playS s) → f I' L P) : Sq (d + 5) mX1_goOn sh [.ref e, .ref u] I L P (KV f) := by
  obtain ⟨hd, g1, g2, g3, g4, v⟩ := id h
  have v := v h7
  obtain ⟨v1, v2, v3, v4, v5, v6, w⟩ := id v
  have hn := w.2.2.1
  have t := TB_all _ hn (s 9 0) (by omega)
  have t2 := t.2.2.2.1 hr
  have t1 := TB_all _ hn (s 9 0 + 1) (by omega)
  have t3 := t1.2.2.2.2 (by omega)
  have hll := lastS_le (s 0 0)
  have hsl := slotsS_in (s 0 0)
  have ne5 : e ≠ P e 5 := fun q => by have := hd.1; rw [q, hd.2.1] at this; exact absurd this (by decide)
  have ne65 : P e 6 ≠ P e 5 := fun q => by have := hd.2.2; rw [q, hd.2.1] at this; exact absurd this (by decide)
  have neu : u ≠ P e 5 := fun q => by have := hE.1; rw [q, hd.2.1] at this; exact absurd this (by decide)
  have neu3 : P u 3 ≠ P e 5 := fun q => by have := hE.2.1; rw [q, hd.2.1] at this; exact absurd this (by decide)
  have hx0 : nI (slotsS (s 0 0)) >>> ((nI (s 9 0) + 1) &&& 31) = nI (TB (s 0 0) (s 9 0 + 1)) := by
    rw [nI_1, shrN (by omega) (by omega)]; rfl
  refine sp_X1_goOn (fun x2 x3 I' L' P' => L' = L ∧ P' = P ∧ x2 = nI (TB (s 0 0) (s 9 0 + 1)) ∧ ∃ k, k ≤ TB (s 0 0) (s 9 0 + 1) ∧ x3 = nI (TB (s 0 0) (s 9 0 + 1) + k) ∧ (∀ r, r ≠ P e 5 → I' r = I r) ∧ ∀ z, I' (P e 5) z = if TB (s 0 0) (s 9 0 + 1) ≤ z ∧ z < TB (s 0 0) (s 9 0 + 1) + k then nI (winS s (z - TB (s 0 0) (s 9 0 + 1))) else I (P e 5) z) (fun _ x _ _ _ => 40 - x.toNatClampNeg) ⟨hd.1, ok_canGoOn h ⟨fun c1 => ?_, fun c1 => ?_⟩⟩ ?_
  · rw [v2, g2, hx0]
    exact ⟨rfl, rfl, rfl, 0, Nat.zero_le _, rfl, fun _ _ => rfl, fun z => (if_neg (by omega)).symm⟩
  · exact absurd ⟨h7, hr⟩ (b01_0.mp c1)
  · rintro x2 x3 I1 L' P' ⟨rfl, rfl, rfl, k0, hk0, rfl, hI, hz⟩
    unfold vc_X1_goOn_1
    rw [show (2 : Int32) * nI (TB (s 0 0) (s 9 0 + 1)) = nI (2 * TB (s 0 0) (s 9 0 + 1)) from pk_mul 2 _]
    refine ⟨fun c1 => ⟨hd.1, fun I3 e3 => ?_⟩, fun c1 => ?_⟩
    · have hk : k0 = TB (s 0 0) (s 9 0 + 1) := by
        generalize TB (s 0 0) (s 9 0 + 1) = B at *
        have c1 : 2 * B ≤ B + k0 := by ((try simp only [Int32.lt_iff_toInt_lt, Int32.le_iff_toInt_le, ne_eq, ← Int32.toInt_inj, isP, ti_nI, ti_add, ti_sub, ti_mul, ti_neg, ti_0, ti_1, ti_2, ti_3, ti_4, ti_5, ti_6, ti_7, ti_8, ti_9, ti_10, ti_11, ti_12, ti_13, ti_14, ti_15, ti_16, ti_17, ti_18, ti_19, ti_20, ti_28, ti_30, ti_31, ti_32, ti_40, ti_45, ti_47, ti_48, ti_49, ti_57, ti_58, ti_59, ti_61, ti_76, ti_84, ti_96, ti_99, ti_100, ti_114, ti_115, ti_120, ti_126, ti_840, ti_1024] at *); omega)
        omega
      subst hk
      refine k I3 (fun r q1 q2 => by rw [e3, uI_ne r q1]; exact hI r q2) ?_
      have hI3 : ∀ r, r ≠ e → I3 r = I1 r := fun r q => by rw [e3, uI_ne r q]
      have e0 : playS s 0 0 = s 0 0 := playS_cfg s 0 (by omega) 0
      have e3e : ∀ j, j ≠ 4 → I3 e j = I e j := fun j hj => by rw [e3]; show (if _ then _ else _) = _; rw [if_neg (fun q => hj q.2), hI e ne5]
      refine ⟨hd, by rw [e3e 0 (by decide), playS_old s (by omega) (by omega) (by omega)]; exact g1, ?_, by rw [playS_old s (by omega) (by omega) (by omega)]; exact g3, fun q => ?_, fun _ => ?_⟩
      · rw [playS_9, e3]
        show (if _ then _ else _) = _
        rw [if_pos ⟨rfl, rfl⟩, hI e ne5, g2, nI_1]
      · rw [playS_old s (by omega) (by omega) (by omega), h7] at q
        exact absurd q (by decide)
      · unfold DV
        rw [e0, playS_9, playS_old s (by omega) (by omega) (by omega)]
        refine ⟨v1, by rw [e3e 2 (by decide)]; exact v2, by rw [e3e 3 (by decide)]; exact v3, fun r j hr1 hj => ?_, fun j hr1 hj => ?_, fun r j hr1 hr2 hj => ?_, w.play hr⟩
        · rw [hI3 _ (fun q => ne5 q.symm), hz]
          by_cases c : r = s 9 0 + 1
          · subst c
            rw [if_pos (by omega), playS_new]
            exact congrArg (fun q => nI (winS s q)) (by omega)
          · have hle : r ≤ s 9 0 := by omega
            have hT : 2 * TB (s 0 0) (s 9 0 + 1) ≤ TB (s 0 0) r := by
              have key : ∀ n, n ≤ 10 → ∀ a, a < lastS n → ∀ r, r ≤ a → 2 * TB n (a + 1) ≤ TB n r := by decide +kernel
              exact key _ hn _ hr _ hle
            rw [if_neg (by omega), playS_old s (by omega) (by omega) (by omega)]
            exact v4 r j hle hj
        · rw [hI3 _ (fun q => by rw [← q] at hd; have := hd.2.2; rw [q] at this; have h0 := hd.1; rw [← q, hd.2.2] at h0; exact absurd h0 (by decide)), hI _ ne65]
          have z := v6 (s 9 0 + 1 + 1) j (by omega) (by omega) hj
          rw [z]
          unfold playS
          rw [if_neg (by omega), if_neg (by omega), if_pos rfl]
          rfl
        · rw [hI3 _ (fun q => by have h0 := hd.1; rw [← q, hd.2.2] at h0; exact absurd h0 (by decide)), hI _ ne65]
          exact v6 r j (by omega) hr2 hj
    · have hk : k0 < TB (s 0 0) (s 9 0 + 1) := by
        generalize TB (s 0 0) (s 9 0 + 1) = B at *
        have c1 : ¬ 2 * B ≤ B + k0 := by ((try simp only [Int32.lt_iff_toInt_lt, Int32.le_iff_toInt_le, ne_eq, ← Int32.toInt_inj, isP, ti_nI, ti_add, ti_sub, ti_mul, ti_neg, ti_0, ti_1, ti_2, ti_3, ti_4, ti_5, ti_6, ti_7, ti_8, ti_9, ti_10, ti_11, ti_12, ti_13, ti_14, ti_15, ti_16, ti_17, ti_18, ti_19, ti_20, ti_28, ti_30, ti_31, ti_32, ti_40, ti_45, ti_47, ti_48, ti_49, ti_57, ti_58, ti_59, ti_61, ti_76, ti_84, ti_96, ti_99, ti_100, ti_114, ti_115, ti_120, ti_126, ti_840, ti_1024] at *); omega)
        omega
      refine ⟨hd.1, ?_⟩
      rw [hd.2.2, hd.2.1]
      refine ⟨rfl, fun c2 => absurd c2 (by show ¬ nI 16 ≤ nI _; generalize TB (s 0 0) (s 9 0 + 1) = B at *; ((try simp only [Int32.lt_iff_toInt_lt, Int32.le_iff_toInt_le, ne_eq, ← Int32.toInt_inj, isP, ti_nI, ti_add, ti_sub, ti_mul, ti_neg, ti_0, ti_1, ti_2, ti_3, ti_4, ti_5, ti_6, ti_7, ti_8, ti_9, ti_10, ti_11, ti_12, ti_13, ti_14, ti_15, ti_16, ti_17, ti_18, ti_19, ti_20, ti_28, ti_30, ti_31, ti_32, ti_40, ti_45, ti_47, ti_48, ti_49, ti_57, ti_58, ti_59, ti_61, ti_76, ti_84, ti_96, ti_99, ti_100, ti_114, ti_115, ti_120, ti_126, ti_840, ti_1024] at *); omega)), fun c2 => ?_⟩
      have hE1 : ES sh I1 P' u s := hE.congr (hI u neu) (hI _ neu3) rfl
      have ha := w.2.2.2.1 (s 9 0) (2 * k0) (Nat.le_refl _) (by omega)
      have hb := w.2.2.2.1 (s 9 0) (2 * k0 + 1) (Nat.le_refl _) (by omega)
      have hh := w.2.2.2.2.2.2.2.2 k0 hr hk
      refine raw_comesThrough hd hE1 (by omega) (by omega) (a := s (20 + s 9 0) (2 * k0)) (b := s (20 + s 9 0) (2 * k0 + 1)) (h := s 11 k0) ?_ ?_ ?_ (by omega) (by omega) hh ?_
      · rw [hz, if_neg (by omega), show 2 * (TB (s 0 0) (s 9 0 + 1) + k0) = TB (s 0 0) (s 9 0) + 2 * k0 by omega]
        exact v4 _ _ (Nat.le_refl _) (by omega)
      · rw [hz, if_neg (by omega), show 2 * (TB (s 0 0) (s 9 0 + 1) + k0) + 1 = TB (s 0 0) (s 9 0) + (2 * k0 + 1) by omega]
        exact v4 _ _ (Nat.le_refl _) (by omega)
      · rw [hI _ ne65]
        exact v5 k0 hr hk
      · refine ⟨rfl, vin _ rfl (by show _ < 32; omega) (by decide), fun I14 e14 => ?_⟩
        rw [clN (by omega)] at e14
        refine ⟨⟨rfl, rfl, rfl, k0 + 1, hk, by rw [nI_1]; rfl, fun r q => by rw [e14, uI_ne r q]; exact hI r q, fun z => ?_⟩, ?_⟩
        · rw [e14]
          show (if P' e 5 = P' e 5 ∧ z = TB (s 0 0) (s 9 0 + 1) + k0 then _ else I1 (P' e 5) z) = _
          by_cases c : z = TB (s 0 0) (s 9 0 + 1) + k0
          · rw [if_pos ⟨rfl, c⟩, if_pos (by omega), winS_V]
            rw [show z - TB (s 0 0) (s 9 0 + 1) = k0 by omega]
          · rw [if_neg (fun q => c q.2), hz]
            by_cases c2 : TB (s 0 0) (s 9 0 + 1) ≤ z ∧ z < TB (s 0 0) (s 9 0 + 1) + k0
            · rw [if_pos c2, if_pos (by omega)]
            · rw [if_neg c2, if_neg (by omega)]
        · rw [nI_1, clN (by omega), clN (by omega)]
          omega
end DQ
