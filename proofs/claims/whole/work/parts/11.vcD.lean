/-! BracketDraws$Counter.isFor(LBracketDraws$Entries;)Z -/
def vc_X0_isFor_0 (d : Nat) (sh : List qSh) (K : Option Value → qMI → qML → qMP → Prop) (a0 : Nat) (a1 : Nat) (I : qMI) (L : qML) (P : qMP) : Prop :=
  ((shp sh a0).1 = 0) ∧ ((((I a0 2) = 0) → (K (some (.int 0)) I L P)) ∧ ((¬ (I a0 2) = 0) → (((shp sh (P a0 1)).1 = 2) ∧ (Sq d mX2_sameDraws sh [.ref (P a0 1), .ref a1] I L P (KI fun r4 I5 L6 P7 => ((r4 = 0) → (K (some (.int 0)) I5 L6 P7)) ∧ ((¬ r4 = 0) → (K (some (.int 1)) I5 L6 P7)))))))
set_option maxRecDepth 100000 in
set_option maxHeartbeats 4000000 in
theorem rg_X0_isFor_0 {X : qCT} {d : Nat} {sh : List qSh} {K : Option Value → qMI → qML → qMP → Prop} {a0 : Nat} {a1 : Nat} {I : qMI} {L : qML} {P : qMP} (C : qCB X RX0 cX0_isFor 2 (d + 1) 0 0) (hk : qCK X (some .boolean) 0 0 (fun v sh' I' L' P' => sh' = sh ∧ K v I' L' P')) (h : vc_X0_isFor_0 d sh K a0 a1 I L P) : qG X 0 [some (.ref a0), some (.ref a1)] [] sh I L P 0 0 := by
  unfold vc_X0_isFor_0 at h
  refine q_aload_n C dX0_isFor_0 rfl ?_
  have s1 := h.1
  replace h := h.2
  refine q_getI C fl_RX0_41 rfl s1 dX0_isFor_1 ?_
  refine q_if_eq (tgt := 22) C dX0_isFor_4 (by decide) (fun c2 => ?_) (fun c2 => ?_)
  · replace h := h.1 c2
    refine q_iconst (v := 0) C dX0_isFor_22 (by decide) ?_
    exact q_zret C hk (Or.inl rfl) dX0_isFor_23 ⟨rfl, h⟩
  · replace h := h.2 c2
    refine q_aload_n C dX0_isFor_7 rfl ?_
    refine q_getP C fl_RX0_21 rfl s1 dX0_isFor_8 ?_
    refine q_aload_n C dX0_isFor_11 rfl ?_
    have s3 := h.1
    replace h := h.2
    refine q_cVi (as := [.ref a1]) (st := []) (r := P a0 1) C mv_X2_sameDraws ml_RX0_45 dX0_isFor_12 rfl s3 rfl (Nat.le_of_ble_eq_true rfl) ⟨Nat.le_refl _, Nat.le_refl _⟩ h (fun r4 I5 L6 P7 h => ?_)
    refine q_if_eq (tgt := 22) C dX0_isFor_15 (by decide) (fun c8 => ?_) (fun c8 => ?_)
    · replace h := h.1 c8
      refine q_iconst (v := 0) C dX0_isFor_22 (by decide) ?_
      exact q_zret C hk (Or.inl rfl) dX0_isFor_23 ⟨rfl, h⟩
    · replace h := h.2 c8
      refine q_iconst (v := 1) C dX0_isFor_18 (by decide) ?_
      refine q_goto (tgt := 23) C dX0_isFor_19 (by decide) ?_
      exact q_zret C hk (Or.inr rfl) dX0_isFor_23 ⟨rfl, h⟩
theorem sp_X0_isFor {d : Nat} {sh : List qSh} {K : Option Value → qMI → qML → qMP → Prop} {a0 : Nat} {a1 : Nat} {I : qMI} {L : qML} {P : qMP} (h0 : vc_X0_isFor_0 d sh K a0 a1 I L P) : Sq (d + 1) mX0_isFor sh [.ref a0, .ref a1] I L P K := by
  refine Sq_of (by decide +kernel) (Nat.le_of_ble_eq_true rfl) (fun X C hk hn => ?_)
  exact rg_X0_isFor_0 C hk h0
/-! BracketDraws$Counter.begin(LBracketDraws$Entries;)V -/
def vc_X0_begin_0 (d : Nat) (sh : List qSh) (K : Option Value → qMI → qML → qMP → Prop) (T1 : Int32 → qMI → qML → qMP → Prop) (T2 : Int32 → qMI → qML → qMP → Prop) (a0 : Nat) (a1 : Nat) (I : qMI) (L : qML) (P : qMP) : Prop :=
  ((shp sh a0).1 = 0) ∧ (((shp sh (P a0 1)).1 = 2) ∧ (Sq d mX2_copyFrom sh [.ref (P a0 1), .ref a1] I L P (KV fun I3 L4 P5 => ∀ I6 : qMI, I6 = uI I3 a0 2 0 → (((shp sh (P5 a0 0)).1 = 5) ∧ (Sq d mX5_begin sh [.ref (P5 a0 0), .ref a1] I6 L4 P5 (KV fun I8 L9 P10 => ((shp sh a1).1 = 2) ∧ (Sq d mX2_all sh [.ref a1] I8 L9 P10 (KI fun r12 I13 L14 P15 => ∀ I16 : qMI, I16 = uI I13 a0 4 r12 → (Sq d mX2_slots sh [.ref a1] I16 L14 P15 (KI fun r17 I18 L19 P20 => ∀ I21 : qMI, I21 = uI I18 a0 5 r17 → (Sq d mX2_rounds sh [.ref a1] I21 L19 P20 (KI fun r22 I23 L24 P25 => ∀ I26 : qMI, I26 = uI I23 a0 6 r22 → (∀ I27 : qMI, I27 = uI I26 a0 7 0 → (T1 0 I27 L24 P25))))))))))))))
set_option maxRecDepth 100000 in
set_option maxHeartbeats 4000000 in
theorem rg_X0_begin_0 {X : qCT} {d : Nat} {sh : List qSh} {K : Option Value → qMI → qML → qMP → Prop} {T1 : Int32 → qMI → qML → qMP → Prop} {T2 : Int32 → qMI → qML → qMP → Prop} {a0 : Nat} {a1 : Nat} {I : qMI} {L : qML} {P : qMP} (C : qCB X RX0 cX0_begin 3 (d + 1) 0 0) (hk : qCK X (none) 0 0 (fun v sh' I' L' P' => sh' = sh ∧ K v I' L' P')) (hT1 : ∀ (x2 : Int32) (I : qMI) (L : qML) (P : qMP), T1 x2 I L P → qG X 52 [some (.ref a0), some (.ref a1), some (.int x2)] [] sh I L P 0 0) (hT2 : ∀ (x2 : Int32) (I : qMI) (L : qML) (P : qMP), T2 x2 I L P → qG X 76 [some (.ref a0), some (.ref a1), some (.int x2)] [] sh I L P 0 0) (h : vc_X0_begin_0 d sh K T1 T2 a0 a1 I L P) : qG X 0 [some (.ref a0), some (.ref a1), none] [] sh I L P 0 0 := by
  unfold vc_X0_begin_0 at h
  refine q_aload_n C dX0_begin_0 rfl ?_
  have s1 := h.1
  replace h := h.2
  refine q_getP C fl_RX0_21 rfl s1 dX0_begin_1 ?_
  refine q_aload_n C dX0_begin_4 rfl ?_
  have s2 := h.1
  replace h := h.2
  refine q_cVv (as := [.ref a1]) (st := []) (r := P a0 1) C mv_X2_copyFrom ml_RX0_49 dX0_begin_5 rfl s2 rfl (Nat.le_of_ble_eq_true rfl) ⟨Nat.le_refl _, Nat.le_refl _⟩ h (fun I3 L4 P5 h => ?_)
  refine q_aload_n C dX0_begin_8 rfl ?_
  refine q_iconst (v := 0) C dX0_begin_9 (by decide) ?_
  refine q_putZ C fl_RX0_41 (fun T hT => by cases hT; rfl) rfl s1 (Or.inl rfl) dX0_begin_10 (fun I6 eI6 => ?_)
  replace h := h I6 eI6
  refine q_aload_n C dX0_begin_13 rfl ?_
  refine q_getP C fl_RX0_12 rfl s1 dX0_begin_14 ?_
  refine q_aload_n C dX0_begin_17 rfl ?_
  have s7 := h.1
  replace h := h.2
  refine q_cVv (as := [.ref a1]) (st := []) (r := P5 a0 0) C mv_X5_begin ml_RX0_53 dX0_begin_18 rfl s7 rfl (Nat.le_of_ble_eq_true rfl) ⟨Nat.le_refl _, Nat.le_refl _⟩ h (fun I8 L9 P10 h => ?_)
  refine q_aload_n C dX0_begin_21 rfl ?_
  refine q_aload_n C dX0_begin_22 rfl ?_
  have s11 := h.1
  replace h := h.2
  refine q_cVi (as := []) (st := [.ref a0]) (r := a1) C mv_X2_all ml_RX0_56 dX0_begin_23 rfl s11 rfl (Nat.le_of_ble_eq_true rfl) ⟨Nat.le_refl _, Nat.le_refl _⟩ h (fun r12 I13 L14 P15 h => ?_)
  refine q_putI C fl_RX0_60 (fun T hT => by cases hT; rfl) rfl s1 dX0_begin_26 (fun I16 eI16 => ?_)
  replace h := h I16 eI16
  refine q_aload_n C dX0_begin_29 rfl ?_
  refine q_aload_n C dX0_begin_30 rfl ?_
  refine q_cVi (as := []) (st := [.ref a0]) (r := a1) C mv_X2_slots ml_RX0_62 dX0_begin_31 rfl s11 rfl (Nat.le_of_ble_eq_true rfl) ⟨Nat.le_refl _, Nat.le_refl _⟩ h (fun r17 I18 L19 P20 h => ?_)
  refine q_putI C fl_RX0_25 (fun T hT => by cases hT; rfl) rfl s1 dX0_begin_34 (fun I21 eI21 => ?_)
  replace h := h I21 eI21
  refine q_aload_n C dX0_begin_37 rfl ?_
  refine q_aload_n C dX0_begin_38 rfl ?_
  refine q_cVi (as := []) (st := [.ref a0]) (r := a1) C mv_X2_rounds ml_RX0_64 dX0_begin_39 rfl s11 rfl (Nat.le_of_ble_eq_true rfl) ⟨Nat.le_refl _, Nat.le_refl _⟩ h (fun r22 I23 L24 P25 h => ?_)
  refine q_putI C fl_RX0_29 (fun T hT => by cases hT; rfl) rfl s1 dX0_begin_42 (fun I26 eI26 => ?_)
  replace h := h I26 eI26
  refine q_aload_n C dX0_begin_45 rfl ?_
  refine q_iconst (v := 0) C dX0_begin_46 (by decide) ?_
  refine q_putI C fl_RX0_66 (fun T hT => by cases hT; rfl) rfl s1 dX0_begin_47 (fun I27 eI27 => ?_)
  replace h := h I27 eI27
  refine q_iconst (v := 0) C dX0_begin_50 (by decide) ?_
  refine q_istore_n (lo1 := [some (.ref a0), some (.ref a1), some (.int 0)]) C dX0_begin_51 (by decide) rfl ?_
  exact hT1 _ _ _ _ h
def vc_X0_begin_1 (d : Nat) (sh : List qSh) (K : Option Value → qMI → qML → qMP → Prop) (T1 : Int32 → qMI → qML → qMP → Prop) (T2 : Int32 → qMI → qML → qMP → Prop) (a0 : Nat) (a1 : Nat) (x2 : Int32) (I : qMI) (L : qML) (P : qMP) : Prop :=
  ((shp sh a0).1 = 0) ∧ (((shp sh (P a0 8)).1 = 20) ∧ ((((nI (shp sh (P a0 8)).2) ≤ x2) → (T2 0 I L P)) ∧ ((¬ (nI (shp sh (P a0 8)).2) ≤ x2) → ((vp_in x2 (shp sh (P a0 8)).2) ∧ (∀ I5 : qMI, I5 = uI I (P a0 8) (Int32.toNatClampNeg x2) 0 → (T1 (x2 + 1) I5 L P))))))
set_option maxRecDepth 100000 in
set_option maxHeartbeats 4000000 in
theorem rg_X0_begin_1 {X : qCT} {d : Nat} {sh : List qSh} {K : Option Value → qMI → qML → qMP → Prop} {T1 : Int32 → qMI → qML → qMP → Prop} {T2 : Int32 → qMI → qML → qMP → Prop} {a0 : Nat} {a1 : Nat} {x2 : Int32} {I : qMI} {L : qML} {P : qMP} (C : qCB X RX0 cX0_begin 3 (d + 1) 0 0) (hk : qCK X (none) 0 0 (fun v sh' I' L' P' => sh' = sh ∧ K v I' L' P')) (hT1 : ∀ (x2 : Int32) (I : qMI) (L : qML) (P : qMP), T1 x2 I L P → qG X 52 [some (.ref a0), some (.ref a1), some (.int x2)] [] sh I L P 0 0) (hT2 : ∀ (x2 : Int32) (I : qMI) (L : qML) (P : qMP), T2 x2 I L P → qG X 76 [some (.ref a0), some (.ref a1), some (.int x2)] [] sh I L P 0 0) (h : vc_X0_begin_1 d sh K T1 T2 a0 a1 x2 I L P) : qG X 52 [some (.ref a0), some (.ref a1), some (.int x2)] [] sh I L P 0 0 := by
  unfold vc_X0_begin_1 at h
  refine q_iload_n C dX0_begin_52 rfl ?_
  refine q_aload_n C dX0_begin_53 rfl ?_
  have s1 := h.1
  replace h := h.2
  refine q_getP C fl_RX0_32 rfl s1 dX0_begin_54 ?_
  have s2 := h.1
  replace h := h.2
  refine q_alen20 C s2 dX0_begin_57 ?_
  refine q_icmp_ge (tgt := 74) C dX0_begin_58 (by decide) (fun c3 => ?_) (fun c3 => ?_)
  · replace h := h.1 c3
    refine q_iconst (v := 0) C dX0_begin_74 (by decide) ?_
    refine q_istore_n (lo1 := [some (.ref a0), some (.ref a1), some (.int 0)]) C dX0_begin_75 (by decide) rfl ?_
    exact hT2 _ _ _ _ h
  · replace h := h.2 c3
    refine q_aload_n C dX0_begin_61 rfl ?_
    refine q_getP C fl_RX0_32 rfl s1 dX0_begin_62 ?_
    refine q_iload_n C dX0_begin_65 rfl ?_
    refine q_iconst (v := 0) C dX0_begin_66 (by decide) ?_
    have s4 := h.1
    replace h := h.2
    refine q_iast C s2 s4 dX0_begin_67 (fun I5 eI5 => ?_)
    replace h := h I5 eI5
    refine q_iinc (w := 1) (lo1 := [some (.ref a0), some (.ref a1), some (.int (x2 + 1))]) C dX0_begin_68 rfl (by decide) (by decide) rfl ?_
    refine q_goto (tgt := 52) C dX0_begin_71 (by decide) ?_
    exact hT1 _ _ _ _ h
def vc_X0_begin_2 (d : Nat) (sh : List qSh) (K : Option Value → qMI → qML → qMP → Prop) (T1 : Int32 → qMI → qML → qMP → Prop) (T2 : Int32 → qMI → qML → qMP → Prop) (a0 : Nat) (a1 : Nat) (x2 : Int32) (I : qMI) (L : qML) (P : qMP) : Prop :=
  ((shp sh a1).1 = 2) ∧ ((((I a1 0) ≤ x2) → (K none I L P)) ∧ ((¬ (I a1 0) ≤ x2) → (Sq d mX2_seedSlot sh [.ref a1, .int x2] I L P (KI fun r3 I4 L5 P6 => ((shp sh a0).1 = 0) ∧ (Sq d mX0_pin sh [.ref a0, .int x2, .int r3] I4 L5 P6 (KI fun r8 I9 L10 P11 => T2 (x2 + 1) I9 L10 P11))))))
set_option maxRecDepth 100000 in
set_option maxHeartbeats 4000000 in
theorem rg_X0_begin_2 {X : qCT} {d : Nat} {sh : List qSh} {K : Option Value → qMI → qML → qMP → Prop} {T1 : Int32 → qMI → qML → qMP → Prop} {T2 : Int32 → qMI → qML → qMP → Prop} {a0 : Nat} {a1 : Nat} {x2 : Int32} {I : qMI} {L : qML} {P : qMP} (C : qCB X RX0 cX0_begin 3 (d + 1) 0 0) (hk : qCK X (none) 0 0 (fun v sh' I' L' P' => sh' = sh ∧ K v I' L' P')) (hT1 : ∀ (x2 : Int32) (I : qMI) (L : qML) (P : qMP), T1 x2 I L P → qG X 52 [some (.ref a0), some (.ref a1), some (.int x2)] [] sh I L P 0 0) (hT2 : ∀ (x2 : Int32) (I : qMI) (L : qML) (P : qMP), T2 x2 I L P → qG X 76 [some (.ref a0), some (.ref a1), some (.int x2)] [] sh I L P 0 0) (h : vc_X0_begin_2 d sh K T1 T2 a0 a1 x2 I L P) : qG X 76 [some (.ref a0), some (.ref a1), some (.int x2)] [] sh I L P 0 0 := by
  unfold vc_X0_begin_2 at h
  refine q_iload_n C dX0_begin_76 rfl ?_
  refine q_aload_n C dX0_begin_77 rfl ?_
  have s1 := h.1
  replace h := h.2
  refine q_getI C fl_RX0_69 rfl s1 dX0_begin_78 ?_
  refine q_icmp_ge (tgt := 101) C dX0_begin_81 (by decide) (fun c2 => ?_) (fun c2 => ?_)
  · replace h := h.1 c2
    exact q_vret C hk dX0_begin_101 ⟨rfl, h⟩
  · replace h := h.2 c2
    refine q_aload_n C dX0_begin_84 rfl ?_
    refine q_iload_n C dX0_begin_85 rfl ?_
    refine q_aload_n C dX0_begin_86 rfl ?_
    refine q_iload_n C dX0_begin_87 rfl ?_
    refine q_cVi (as := [.int x2]) (st := [.int x2, .ref a0]) (r := a1) C mv_X2_seedSlot ml_RX0_72 dX0_begin_88 rfl s1 rfl (Nat.le_of_ble_eq_true rfl) ⟨Nat.le_refl _, Nat.le_refl _⟩ h (fun r3 I4 L5 P6 h => ?_)
    have s7 := h.1
    replace h := h.2
    refine q_cVi (as := [.int x2, .int r3]) (st := []) (r := a0) C mv_X0_pin ml_RX0_76 dX0_begin_91 rfl s7 rfl (Nat.le_of_ble_eq_true rfl) ⟨Nat.le_refl _, Nat.le_refl _⟩ h (fun r8 I9 L10 P11 h => ?_)
    refine q_pop C dX0_begin_94 rfl ?_
    refine q_iinc (w := 1) (lo1 := [some (.ref a0), some (.ref a1), some (.int (x2 + 1))]) C dX0_begin_95 rfl (by decide) (by decide) rfl ?_
    refine q_goto (tgt := 76) C dX0_begin_98 (by decide) ?_
    exact hT2 _ _ _ _ h
theorem sp_X0_begin {d : Nat} {sh : List qSh} {K : Option Value → qMI → qML → qMP → Prop} {a0 : Nat} {a1 : Nat} {I : qMI} {L : qML} {P : qMP} (T1 : Int32 → qMI → qML → qMP → Prop) (m1 : Int32 → qMI → qML → qMP → Nat) (T2 : Int32 → qMI → qML → qMP → Prop) (m2 : Int32 → qMI → qML → qMP → Nat) (h0 : vc_X0_begin_0 d sh K T1 T2 a0 a1 I L P)
    (h1 : ∀ (x2 : Int32) (I : qMI) (L : qML) (P : qMP), T1 x2 I L P → vc_X0_begin_1 d sh K (fun w0 I' L' P' => T1 w0 I' L' P' ∧ m1 w0 I' L' P' < m1 x2 I L P) (fun w0 I' L' P' => T2 w0 I' L' P' ∧ m2 w0 I' L' P' < m1 x2 I L P) a0 a1 x2 I L P)
    (h2 : ∀ (x2 : Int32) (I : qMI) (L : qML) (P : qMP), T2 x2 I L P → vc_X0_begin_2 d sh K (fun w0 I' L' P' => T1 w0 I' L' P' ∧ m1 w0 I' L' P' < m2 x2 I L P) (fun w0 I' L' P' => T2 w0 I' L' P' ∧ m2 w0 I' L' P' < m2 x2 I L P) a0 a1 x2 I L P) : Sq (d + 1) mX0_begin sh [.ref a0, .ref a1] I L P K := by
  refine Sq_of (by decide +kernel) (Nat.le_of_ble_eq_true rfl) (fun X C hk hn => ?_)
  have go : ∀ N : Nat, (∀ (x2 : Int32) (I : qMI) (L : qML) (P : qMP), T1 x2 I L P → m1 x2 I L P < N → qG X 52 [some (.ref a0), some (.ref a1), some (.int x2)] [] sh I L P 0 0) ∧ (∀ (x2 : Int32) (I : qMI) (L : qML) (P : qMP), T2 x2 I L P → m2 x2 I L P < N → qG X 76 [some (.ref a0), some (.ref a1), some (.int x2)] [] sh I L P 0 0) := by
    intro N
    induction N with
    | zero => exact ⟨fun _ _ _ _ _ q => absurd q (Nat.not_lt_zero _), fun _ _ _ _ _ q => absurd q (Nat.not_lt_zero _)⟩
    | succ N ih =>
      exact ⟨fun b0 I1 L1 P1 t q => rg_X0_begin_1 C hk (fun z0 I2 L2 P2 z => ih.1 z0 I2 L2 P2 z.1 (Nat.lt_of_lt_of_le z.2 (Nat.le_of_lt_succ q))) (fun z0 I2 L2 P2 z => ih.2 z0 I2 L2 P2 z.1 (Nat.lt_of_lt_of_le z.2 (Nat.le_of_lt_succ q))) (h1 b0 I1 L1 P1 t), fun b0 I1 L1 P1 t q => rg_X0_begin_2 C hk (fun z0 I2 L2 P2 z => ih.1 z0 I2 L2 P2 z.1 (Nat.lt_of_lt_of_le z.2 (Nat.le_of_lt_succ q))) (fun z0 I2 L2 P2 z => ih.2 z0 I2 L2 P2 z.1 (Nat.lt_of_lt_of_le z.2 (Nat.le_of_lt_succ q))) (h2 b0 I1 L1 P1 t)⟩
  exact rg_X0_begin_0 C hk (fun b0 I1 L1 P1 t => (go (m1 b0 I1 L1 P1 + 1)).1 b0 I1 L1 P1 t (Nat.lt_succ_self _)) (fun b0 I1 L1 P1 t => (go (m2 b0 I1 L1 P1 + 1)).2 b0 I1 L1 P1 t (Nat.lt_succ_self _)) h0
/-! BracketDraws$Counter.pin(II)Z -/
def vc_X0_pin_0 (d : Nat) (sh : List qSh) (K : Option Value → qMI → qML → qMP → Prop) (T1 : Int32 → qMI → qML → qMP → Prop) (a0 : Nat) (x1 : Int32) (x2 : Int32) (I : qMI) (L : qML) (P : qMP) : Prop :=
  ((x2 < 0) → (K (some (.int 0)) I L P)) ∧ ((¬ x2 < 0) → (((shp sh a0).1 = 0) ∧ ((((I a0 5) ≤ x2) → (K (some (.int 0)) I L P)) ∧ ((¬ (I a0 5) ≤ x2) → (((shp sh (P a0 8)).1 = 20) ∧ ((vp_in ((I a0 5) + x2) (shp sh (P a0 8)).2) ∧ ((((I (P a0 8) (Int32.toNatClampNeg ((I a0 5) + x2))) = 0) → (∀ I7 : qMI, I7 = uI I a0 7 ((I a0 7) ||| ((1 : Int32) <<< (x1 &&& 31))) → (T1 ((I7 a0 5) + x2) I7 L P))) ∧ ((¬ (I (P a0 8) (Int32.toNatClampNeg ((I a0 5) + x2))) = 0) → (K (some (.int 0)) I L P)))))))))
set_option maxRecDepth 100000 in
set_option maxHeartbeats 4000000 in
theorem rg_X0_pin_0 {X : qCT} {d : Nat} {sh : List qSh} {K : Option Value → qMI → qML → qMP → Prop} {T1 : Int32 → qMI → qML → qMP → Prop} {a0 : Nat} {x1 : Int32} {x2 : Int32} {I : qMI} {L : qML} {P : qMP} (C : qCB X RX0 cX0_pin 4 (d + 1) 0 0) (hk : qCK X (some .boolean) 0 0 (fun v sh' I' L' P' => sh' = sh ∧ K v I' L' P')) (hT1 : ∀ (x3 : Int32) (I : qMI) (L : qML) (P : qMP), T1 x3 I L P → qG X 47 [some (.ref a0), some (.int x1), some (.int x2), some (.int x3)] [] sh I L P 0 0) (h : vc_X0_pin_0 d sh K T1 a0 x1 x2 I L P) : qG X 0 [some (.ref a0), some (.int x1), some (.int x2), none] [] sh I L P 0 0 := by
  unfold vc_X0_pin_0 at h
  refine q_iload_n C dX0_pin_0 rfl ?_
  refine q_if_lt (tgt := 26) C dX0_pin_1 (by decide) (fun c1 => ?_) (fun c1 => ?_)
  · replace h := h.1 c1
    refine q_iconst (v := 0) C dX0_pin_26 (by decide) ?_
    exact q_zret C hk (Or.inl rfl) dX0_pin_27 ⟨rfl, h⟩
  · replace h := h.2 c1
    refine q_iload_n C dX0_pin_4 rfl ?_
    refine q_aload_n C dX0_pin_5 rfl ?_
    have s2 := h.1
    replace h := h.2
    refine q_getI C fl_RX0_25 rfl s2 dX0_pin_6 ?_
    refine q_icmp_ge (tgt := 26) C dX0_pin_9 (by decide) (fun c3 => ?_) (fun c3 => ?_)
    · replace h := h.1 c3
      refine q_iconst (v := 0) C dX0_pin_26 (by decide) ?_
      exact q_zret C hk (Or.inl rfl) dX0_pin_27 ⟨rfl, h⟩
    · replace h := h.2 c3
      refine q_aload_n C dX0_pin_12 rfl ?_
      refine q_getP C fl_RX0_32 rfl s2 dX0_pin_13 ?_
      refine q_aload_n C dX0_pin_16 rfl ?_
      refine q_getI C fl_RX0_25 rfl s2 dX0_pin_17 ?_
      refine q_iload_n C dX0_pin_20 rfl ?_
      refine q_iadd C dX0_pin_21 ?_
      have s4 := h.1
      replace h := h.2
      have s5 := h.1
      replace h := h.2
      refine q_iald C s4 s5 dX0_pin_22 ?_
      refine q_if_eq (tgt := 28) C dX0_pin_23 (by decide) (fun c6 => ?_) (fun c6 => ?_)
      · replace h := h.1 c6
        refine q_aload_n C dX0_pin_28 rfl ?_
        refine q_dup C dX0_pin_29 rfl ?_
        refine q_getI C fl_RX0_66 rfl s2 dX0_pin_30 ?_
        refine q_iconst (v := 1) C dX0_pin_33 (by decide) ?_
        refine q_iload_n C dX0_pin_34 rfl ?_
        refine q_ishl C dX0_pin_35 ?_
        refine q_ior C dX0_pin_36 ?_
        refine q_putI C fl_RX0_66 (fun T hT => by cases hT; rfl) rfl s2 dX0_pin_37 (fun I7 eI7 => ?_)
        replace h := h I7 eI7
        refine q_aload_n C dX0_pin_40 rfl ?_
        refine q_getI C fl_RX0_25 rfl s2 dX0_pin_41 ?_
        refine q_iload_n C dX0_pin_44 rfl ?_
        refine q_iadd C dX0_pin_45 ?_
        refine q_istore_n (lo1 := [some (.ref a0), some (.int x1), some (.int x2), some (.int ((I7 a0 5) + x2))]) C dX0_pin_46 (by decide) rfl ?_
        exact hT1 _ _ _ _ h
      · replace h := h.2 c6
        refine q_iconst (v := 0) C dX0_pin_26 (by decide) ?_
        exact q_zret C hk (Or.inl rfl) dX0_pin_27 ⟨rfl, h⟩
def vc_X0_pin_1 (d : Nat) (sh : List qSh) (K : Option Value → qMI → qML → qMP → Prop) (T1 : Int32 → qMI → qML → qMP → Prop) (a0 : Nat) (x1 : Int32) (x2 : Int32) (x3 : Int32) (I : qMI) (L : qML) (P : qMP) : Prop :=
  ((x3 < 1) → (K (some (.int 1)) I L P)) ∧ ((¬ x3 < 1) → (((shp sh a0).1 = 0) ∧ (((shp sh (P a0 8)).1 = 20) ∧ ((vp_in x3 (shp sh (P a0 8)).2) ∧ (∀ I5 : qMI, I5 = uI I (P a0 8) (Int32.toNatClampNeg x3) ((I (P a0 8) (Int32.toNatClampNeg x3)) ||| ((1 : Int32) <<< (x1 &&& 31))) → (T1 (x3 / 2) I5 L P))))))
set_option maxRecDepth 100000 in
set_option maxHeartbeats 4000000 in
theorem rg_X0_pin_1 {X : qCT} {d : Nat} {sh : List qSh} {K : Option Value → qMI → qML → qMP → Prop} {T1 : Int32 → qMI → qML → qMP → Prop} {a0 : Nat} {x1 : Int32} {x2 : Int32} {x3 : Int32} {I : qMI} {L : qML} {P : qMP} (C : qCB X RX0 cX0_pin 4 (d + 1) 0 0) (hk : qCK X (some .boolean) 0 0 (fun v sh' I' L' P' => sh' = sh ∧ K v I' L' P')) (hT1 : ∀ (x3 : Int32) (I : qMI) (L : qML) (P : qMP), T1 x3 I L P → qG X 47 [some (.ref a0), some (.int x1), some (.int x2), some (.int x3)] [] sh I L P 0 0) (h : vc_X0_pin_1 d sh K T1 a0 x1 x2 x3 I L P) : qG X 47 [some (.ref a0), some (.int x1), some (.int x2), some (.int x3)] [] sh I L P 0 0 := by
  unfold vc_X0_pin_1 at h
  refine q_iload_n C dX0_pin_47 rfl ?_
  refine q_iconst (v := 1) C dX0_pin_48 (by decide) ?_
  refine q_icmp_lt (tgt := 71) C dX0_pin_49 (by decide) (fun c1 => ?_) (fun c1 => ?_)
  · replace h := h.1 c1
    refine q_iconst (v := 1) C dX0_pin_71 (by decide) ?_
    exact q_zret C hk (Or.inr rfl) dX0_pin_72 ⟨rfl, h⟩
  · replace h := h.2 c1
    refine q_aload_n C dX0_pin_52 rfl ?_
    have s2 := h.1
    replace h := h.2
    refine q_getP C fl_RX0_32 rfl s2 dX0_pin_53 ?_
    refine q_iload_n C dX0_pin_56 rfl ?_
    refine q_dup2 C dX0_pin_57 rfl rfl ?_
    have s3 := h.1
    replace h := h.2
    have s4 := h.1
    replace h := h.2
    refine q_iald C s3 s4 dX0_pin_58 ?_
    refine q_iconst (v := 1) C dX0_pin_59 (by decide) ?_
    refine q_iload_n C dX0_pin_60 rfl ?_
    refine q_ishl C dX0_pin_61 ?_
    refine q_ior C dX0_pin_62 ?_
    refine q_iast C s3 s4 dX0_pin_63 (fun I5 eI5 => ?_)
    replace h := h I5 eI5
    refine q_iload_n C dX0_pin_64 rfl ?_
    refine q_iconst (v := 2) C dX0_pin_65 (by decide) ?_
    refine q_idiv C dX0_pin_66 (by decide) ?_
    refine q_istore_n (lo1 := [some (.ref a0), some (.int x1), some (.int x2), some (.int (x3 / 2))]) C dX0_pin_67 (by decide) rfl ?_
    refine q_goto (tgt := 47) C dX0_pin_68 (by decide) ?_
    exact hT1 _ _ _ _ h
theorem sp_X0_pin {d : Nat} {sh : List qSh} {K : Option Value → qMI → qML → qMP → Prop} {a0 : Nat} {x1 : Int32} {x2 : Int32} {I : qMI} {L : qML} {P : qMP} (T1 : Int32 → qMI → qML → qMP → Prop) (m1 : Int32 → qMI → qML → qMP → Nat) (h0 : vc_X0_pin_0 d sh K T1 a0 x1 x2 I L P)
    (h1 : ∀ (x3 : Int32) (I : qMI) (L : qML) (P : qMP), T1 x3 I L P → vc_X0_pin_1 d sh K (fun w0 I' L' P' => T1 w0 I' L' P' ∧ m1 w0 I' L' P' < m1 x3 I L P) a0 x1 x2 x3 I L P) : Sq (d + 1) mX0_pin sh [.ref a0, .int x1, .int x2] I L P K := by
  refine Sq_of (by decide +kernel) (Nat.le_of_ble_eq_true rfl) (fun X C hk hn => ?_)
  have go : ∀ N : Nat, (∀ (x3 : Int32) (I : qMI) (L : qML) (P : qMP), T1 x3 I L P → m1 x3 I L P < N → qG X 47 [some (.ref a0), some (.int x1), some (.int x2), some (.int x3)] [] sh I L P 0 0) := by
    intro N
    induction N with
    | zero => exact fun _ _ _ _ _ q => absurd q (Nat.not_lt_zero _)
    | succ N ih =>
      exact fun b0 I1 L1 P1 t q => rg_X0_pin_1 C hk (fun z0 I2 L2 P2 z => ih z0 I2 L2 P2 z.1 (Nat.lt_of_lt_of_le z.2 (Nat.le_of_lt_succ q))) (h1 b0 I1 L1 P1 t)
  exact rg_X0_pin_0 C hk (fun b0 I1 L1 P1 t => (go (m1 b0 I1 L1 P1 + 1)) b0 I1 L1 P1 t (Nat.lt_succ_self _)) h0
/-! BracketDraws$Counter.total()J -/
def vc_X0_total_0 (d : Nat) (sh : List qSh) (K : Option Value → qMI → qML → qMP → Prop) (T1 : Int32 → qMI → qML → qMP → Prop) (T2 : Int32 → Int32 → Int32 → qMI → qML → qMP → Prop) (a0 : Nat) (I : qMI) (L : qML) (P : qMP) : Prop :=
  T1 1 I L P
set_option maxRecDepth 100000 in
set_option maxHeartbeats 4000000 in
theorem rg_X0_total_0 {X : qCT} {d : Nat} {sh : List qSh} {K : Option Value → qMI → qML → qMP → Prop} {T1 : Int32 → qMI → qML → qMP → Prop} {T2 : Int32 → Int32 → Int32 → qMI → qML → qMP → Prop} {a0 : Nat} {I : qMI} {L : qML} {P : qMP} (C : qCB X RX0 cX0_total 4 (d + 1) 0 0) (hk : qCK X (some .long) 0 0 (fun v sh' I' L' P' => sh' = sh ∧ K v I' L' P')) (hT1 : ∀ (x1 : Int32) (I : qMI) (L : qML) (P : qMP), T1 x1 I L P → qG X 2 [some (.ref a0), some (.int x1), none, none] [] sh I L P 0 0) (hT2 : ∀ (x1 : Int32) (x2 : Int32) (x3 : Int32) (I : qMI) (L : qML) (P : qMP), T2 x1 x2 x3 I L P → qG X 19 [some (.ref a0), some (.int x1), some (.int x2), some (.int x3)] [] sh I L P 0 0) (h : vc_X0_total_0 d sh K T1 T2 a0 I L P) : qG X 0 [some (.ref a0), none, none, none] [] sh I L P 0 0 := by
  unfold vc_X0_total_0 at h
  refine q_iconst (v := 1) C dX0_total_0 (by decide) ?_
  refine q_istore_n (lo1 := [some (.ref a0), some (.int 1), none, none]) C dX0_total_1 (by decide) rfl ?_
  exact hT1 _ _ _ _ h
def vc_X0_total_1 (d : Nat) (sh : List qSh) (K : Option Value → qMI → qML → qMP → Prop) (T1 : Int32 → qMI → qML → qMP → Prop) (T2 : Int32 → Int32 → Int32 → qMI → qML → qMP → Prop) (a0 : Nat) (x1 : Int32) (I : qMI) (L : qML) (P : qMP) : Prop :=
  ((shp sh a0).1 = 0) ∧ ((((I a0 6) < x1) → (Sq d mX0_waysOf sh [.ref a0, .int 1, .int (I a0 4)] I L P (KL fun r3 I4 L5 P6 => ∀ L7 : qML, L7 = uL L5 a0 3 r3 → (∀ I8 : qMI, I8 = uI I4 a0 2 1 → (K (some (.long (L7 a0 3))) I8 L7 P6))))) ∧ ((¬ (I a0 6) < x1) → (T2 x1 ((I a0 5) >>> (x1 &&& 31)) ((I a0 5) >>> (x1 &&& 31)) I L P)))
set_option maxRecDepth 100000 in
set_option maxHeartbeats 4000000 in
theorem rg_X0_total_1 {X : qCT} {d : Nat} {sh : List qSh} {K : Option Value → qMI → qML → qMP → Prop} {T1 : Int32 → qMI → qML → qMP → Prop} {T2 : Int32 → Int32 → Int32 → qMI → qML → qMP → Prop} {a0 : Nat} {x1 : Int32} {I : qMI} {L : qML} {P : qMP} (C : qCB X RX0 cX0_total 4 (d + 1) 0 0) (hk : qCK X (some .long) 0 0 (fun v sh' I' L' P' => sh' = sh ∧ K v I' L' P')) (hT1 : ∀ (x1 : Int32) (I : qMI) (L : qML) (P : qMP), T1 x1 I L P → qG X 2 [some (.ref a0), some (.int x1), none, none] [] sh I L P 0 0) (hT2 : ∀ (x1 : Int32) (x2 : Int32) (x3 : Int32) (I : qMI) (L : qML) (P : qMP), T2 x1 x2 x3 I L P → qG X 19 [some (.ref a0), some (.int x1), some (.int x2), some (.int x3)] [] sh I L P 0 0) (h : vc_X0_total_1 d sh K T1 T2 a0 x1 I L P) : qG X 2 [some (.ref a0), some (.int x1), none, none] [] sh I L P 0 0 := by
  unfold vc_X0_total_1 at h
  refine q_iload_n C dX0_total_2 rfl ?_
  refine q_aload_n C dX0_total_3 rfl ?_
  have s1 := h.1
  replace h := h.2
  refine q_getI C fl_RX0_29 rfl s1 dX0_total_4 ?_
  refine q_icmp_gt (tgt := 44) C dX0_total_7 (by decide) (fun c2 => ?_) (fun c2 => ?_)
  · replace h := h.1 c2
    refine q_aload_n C dX0_total_44 rfl ?_
    refine q_aload_n C dX0_total_45 rfl ?_
    refine q_iconst (v := 1) C dX0_total_46 (by decide) ?_
    refine q_aload_n C dX0_total_47 rfl ?_
    refine q_getI C fl_RX0_60 rfl s1 dX0_total_48 ?_
    refine q_cVl (as := [.int 1, .int (I a0 4)]) (st := [.ref a0]) (r := a0) C mv_X0_waysOf ml_RX0_84 dX0_total_51 rfl s1 rfl (Nat.le_of_ble_eq_true rfl) ⟨Nat.le_refl _, Nat.le_refl _⟩ h (fun r3 I4 L5 P6 h => ?_)
    refine q_putL C fl_RX0_88 (fun T hT => by cases hT; rfl) rfl s1 dX0_total_54 (fun L7 eL7 => ?_)
    replace h := h L7 eL7
    refine q_aload_n C dX0_total_57 rfl ?_
    refine q_iconst (v := 1) C dX0_total_58 (by decide) ?_
    refine q_putZ C fl_RX0_41 (fun T hT => by cases hT; rfl) rfl s1 (Or.inr rfl) dX0_total_59 (fun I8 eI8 => ?_)
    replace h := h I8 eI8
    refine q_aload_n C dX0_total_62 rfl ?_
    refine q_getL C fl_RX0_88 rfl s1 dX0_total_63 ?_
    exact q_lret C hk dX0_total_66 ⟨rfl, h⟩
  · replace h := h.2 c2
    refine q_aload_n C dX0_total_10 rfl ?_
    refine q_getI C fl_RX0_25 rfl s1 dX0_total_11 ?_
    refine q_iload_n C dX0_total_14 rfl ?_
    refine q_ishr C dX0_total_15 ?_
    refine q_istore_n (lo1 := [some (.ref a0), some (.int x1), some (.int ((I a0 5) >>> (x1 &&& 31))), none]) C dX0_total_16 (by decide) rfl ?_
    refine q_iload_n C dX0_total_17 rfl ?_
    refine q_istore_n (lo1 := [some (.ref a0), some (.int x1), some (.int ((I a0 5) >>> (x1 &&& 31))), some (.int ((I a0 5) >>> (x1 &&& 31)))]) C dX0_total_18 (by decide) rfl ?_
    exact hT2 _ _ _ _ _ _ h
def vc_X0_total_2 (d : Nat) (sh : List qSh) (K : Option Value → qMI → qML → qMP → Prop) (T1 : Int32 → qMI → qML → qMP → Prop) (T2 : Int32 → Int32 → Int32 → qMI → qML → qMP → Prop) (a0 : Nat) (x1 : Int32) (x2 : Int32) (x3 : Int32) (I : qMI) (L : qML) (P : qMP) : Prop :=
  (((2 * x2) ≤ x3) → (T1 (x1 + 1) I L P)) ∧ ((¬ (2 * x2) ≤ x3) → (((shp sh a0).1 = 0) ∧ (Sq d mX0_fillRow sh [.ref a0, .int x3, .int x1] I L P (KV fun I3 L4 P5 => T2 x1 x2 (x3 + 1) I3 L4 P5))))
set_option maxRecDepth 100000 in
set_option maxHeartbeats 4000000 in
theorem rg_X0_total_2 {X : qCT} {d : Nat} {sh : List qSh} {K : Option Value → qMI → qML → qMP → Prop} {T1 : Int32 → qMI → qML → qMP → Prop} {T2 : Int32 → Int32 → Int32 → qMI → qML → qMP → Prop} {a0 : Nat} {x1 : Int32} {x2 : Int32} {x3 : Int32} {I : qMI} {L : qML} {P : qMP} (C : qCB X RX0 cX0_total 4 (d + 1) 0 0) (hk : qCK X (some .long) 0 0 (fun v sh' I' L' P' => sh' = sh ∧ K v I' L' P')) (hT1 : ∀ (x1 : Int32) (I : qMI) (L : qML) (P : qMP), T1 x1 I L P → qG X 2 [some (.ref a0), some (.int x1), none, none] [] sh I L P 0 0) (hT2 : ∀ (x1 : Int32) (x2 : Int32) (x3 : Int32) (I : qMI) (L : qML) (P : qMP), T2 x1 x2 x3 I L P → qG X 19 [some (.ref a0), some (.int x1), some (.int x2), some (.int x3)] [] sh I L P 0 0) (h : vc_X0_total_2 d sh K T1 T2 a0 x1 x2 x3 I L P) : qG X 19 [some (.ref a0), some (.int x1), some (.int x2), some (.int x3)] [] sh I L P 0 0 := by
  unfold vc_X0_total_2 at h
  refine q_iload_n C dX0_total_19 rfl ?_
  refine q_iconst (v := 2) C dX0_total_20 (by decide) ?_
  refine q_iload_n C dX0_total_21 rfl ?_
  refine q_imul C dX0_total_22 ?_
  refine q_icmp_ge (tgt := 38) C dX0_total_23 (by decide) (fun c1 => ?_) (fun c1 => ?_)
  · replace h := h.1 c1
    refine q_iinc (w := 1) (lo1 := [some (.ref a0), some (.int (x1 + 1)), some (.int x2), some (.int x3)]) C dX0_total_38 rfl (by decide) (by decide) rfl ?_
    refine q_goto (tgt := 2) C dX0_total_41 (by decide) ?_
    refine q_kill 2 (lo1 := [some (.ref a0), some (.int (x1 + 1)), none, some (.int x3)]) rfl ?_
    refine q_kill 3 (lo1 := [some (.ref a0), some (.int (x1 + 1)), none, none]) rfl ?_
    exact hT1 _ _ _ _ h
  · replace h := h.2 c1
    refine q_aload_n C dX0_total_26 rfl ?_
    refine q_iload_n C dX0_total_27 rfl ?_
    refine q_iload_n C dX0_total_28 rfl ?_
    have s2 := h.1
    replace h := h.2
    refine q_cVv (as := [.int x3, .int x1]) (st := []) (r := a0) C mv_X0_fillRow ml_RX0_80 dX0_total_29 rfl s2 rfl (Nat.le_of_ble_eq_true rfl) ⟨Nat.le_refl _, Nat.le_refl _⟩ h (fun I3 L4 P5 h => ?_)
    refine q_iinc (w := 1) (lo1 := [some (.ref a0), some (.int x1), some (.int x2), some (.int (x3 + 1))]) C dX0_total_32 rfl (by decide) (by decide) rfl ?_
    refine q_goto (tgt := 19) C dX0_total_35 (by decide) ?_
    exact hT2 _ _ _ _ _ _ h
theorem sp_X0_total {d : Nat} {sh : List qSh} {K : Option Value → qMI → qML → qMP → Prop} {a0 : Nat} {I : qMI} {L : qML} {P : qMP} (T1 : Int32 → qMI → qML → qMP → Prop) (m1 : Int32 → qMI → qML → qMP → Nat) (T2 : Int32 → Int32 → Int32 → qMI → qML → qMP → Prop) (m2 : Int32 → Int32 → Int32 → qMI → qML → qMP → Nat) (h0 : vc_X0_total_0 d sh K T1 T2 a0 I L P)
    (h1 : ∀ (x1 : Int32) (I : qMI) (L : qML) (P : qMP), T1 x1 I L P → vc_X0_total_1 d sh K (fun w0 I' L' P' => T1 w0 I' L' P' ∧ m1 w0 I' L' P' < m1 x1 I L P) (fun w0 w1 w2 I' L' P' => T2 w0 w1 w2 I' L' P' ∧ m2 w0 w1 w2 I' L' P' < m1 x1 I L P) a0 x1 I L P)
    (h2 : ∀ (x1 : Int32) (x2 : Int32) (x3 : Int32) (I : qMI) (L : qML) (P : qMP), T2 x1 x2 x3 I L P → vc_X0_total_2 d sh K (fun w0 I' L' P' => T1 w0 I' L' P' ∧ m1 w0 I' L' P' < m2 x1 x2 x3 I L P) (fun w0 w1 w2 I' L' P' => T2 w0 w1 w2 I' L' P' ∧ m2 w0 w1 w2 I' L' P' < m2 x1 x2 x3 I L P) a0 x1 x2 x3 I L P) : Sq (d + 1) mX0_total sh [.ref a0] I L P K := by
  refine Sq_of (by decide +kernel) (Nat.le_of_ble_eq_true rfl) (fun X C hk hn => ?_)
  have go : ∀ N : Nat, (∀ (x1 : Int32) (I : qMI) (L : qML) (P : qMP), T1 x1 I L P → m1 x1 I L P < N → qG X 2 [some (.ref a0), some (.int x1), none, none] [] sh I L P 0 0) ∧ (∀ (x1 : Int32) (x2 : Int32) (x3 : Int32) (I : qMI) (L : qML) (P : qMP), T2 x1 x2 x3 I L P → m2 x1 x2 x3 I L P < N → qG X 19 [some (.ref a0), some (.int x1), some (.int x2), some (.int x3)] [] sh I L P 0 0) := by
    intro N
    induction N with
    | zero => exact ⟨fun _ _ _ _ _ q => absurd q (Nat.not_lt_zero _), fun _ _ _ _ _ _ _ q => absurd q (Nat.not_lt_zero _)⟩
    | succ N ih =>
      exact ⟨fun b0 I1 L1 P1 t q => rg_X0_total_1 C hk (fun z0 I2 L2 P2 z => ih.1 z0 I2 L2 P2 z.1 (Nat.lt_of_lt_of_le z.2 (Nat.le_of_lt_succ q))) (fun z0 z1 z2 I2 L2 P2 z => ih.2 z0 z1 z2 I2 L2 P2 z.1 (Nat.lt_of_lt_of_le z.2 (Nat.le_of_lt_succ q))) (h1 b0 I1 L1 P1 t), fun b0 b1 b2 I1 L1 P1 t q => rg_X0_total_2 C hk (fun z0 I2 L2 P2 z => ih.1 z0 I2 L2 P2 z.1 (Nat.lt_of_lt_of_le z.2 (Nat.le_of_lt_succ q))) (fun z0 z1 z2 I2 L2 P2 z => ih.2 z0 z1 z2 I2 L2 P2 z.1 (Nat.lt_of_lt_of_le z.2 (Nat.le_of_lt_succ q))) (h2 b0 b1 b2 I1 L1 P1 t)⟩
  exact rg_X0_total_0 C hk (fun b0 I1 L1 P1 t => (go (m1 b0 I1 L1 P1 + 1)).1 b0 I1 L1 P1 t (Nat.lt_succ_self _)) (fun b0 b1 b2 I1 L1 P1 t => (go (m2 b0 b1 b2 I1 L1 P1 + 1)).2 b0 b1 b2 I1 L1 P1 t (Nat.lt_succ_self _)) h0
/-! BracketDraws$Counter.waysOf(II)J -/
def vc_X0_waysOf_0 (d : Nat) (sh : List qSh) (K : Option Value → qMI → qML → qMP → Prop) (a0 : Nat) (x1 : Int32) (x2 : Int32) (I : qMI) (L : qML) (P : qMP) : Prop :=
  ((x1 < 1) → (K (some (.long 0)) I L P)) ∧ ((¬ x1 < 1) → (((shp sh a0).1 = 0) ∧ ((((2 * (I a0 5)) ≤ x1) → (K (some (.long 0)) I L P)) ∧ ((¬ (2 * (I a0 5)) ≤ x1) → (((¬ (x2 &&& ((I a0 4) ^^^ ((-1)))) = 0) → (K (some (.long 0)) I L P)) ∧ (((x2 &&& ((I a0 4) ^^^ ((-1)))) = 0) → (((shp sh (P a0 8)).1 = 20) ∧ ((vp_in x1 (shp sh (P a0 8)).2) ∧ ((((x2 &&& (I a0 7)) = (I (P a0 8) (Int32.toNatClampNeg x1))) → (((x1 < (I a0 5)) → (((shp sh (P a0 9)).1 = 24) ∧ ((vp_in x1 (shp sh (P a0 9)).2) ∧ (((shp sh (P (P a0 9) (Int32.toNatClampNeg x1))).1 = 21) ∧ ((vp_in (x2 &&& 1023) (shp sh (P (P a0 9) (Int32.toNatClampNeg x1))).2) ∧ (K (some (.long (L (P (P a0 9) (Int32.toNatClampNeg x1)) (Int32.toNatClampNeg (x2 &&& 1023))))) I L P)))))) ∧ ((¬ x1 < (I a0 5)) → (Sq d mJ6_bitCount_0f7a4 sh [.int x2] I L P (KI fun r13 I14 L15 P16 => ((1 < r13) → (K (some (.long 0)) I14 L15 P16)) ∧ ((¬ 1 < r13) → (K (some (.long 1)) I14 L15 P16))))))) ∧ ((¬ (x2 &&& (I a0 7)) = (I (P a0 8) (Int32.toNatClampNeg x1))) → (K (some (.long 0)) I L P)))))))))))
set_option maxRecDepth 100000 in
set_option maxHeartbeats 4000000 in
theorem rg_X0_waysOf_0 {X : qCT} {d : Nat} {sh : List qSh} {K : Option Value → qMI → qML → qMP → Prop} {a0 : Nat} {x1 : Int32} {x2 : Int32} {I : qMI} {L : qML} {P : qMP} (C : qCB X RX0 cX0_waysOf 3 (d + 1) 0 0) (hk : qCK X (some .long) 0 0 (fun v sh' I' L' P' => sh' = sh ∧ K v I' L' P')) (h : vc_X0_waysOf_0 d sh K a0 x1 x2 I L P) : qG X 0 [some (.ref a0), some (.int x1), some (.int x2)] [] sh I L P 0 0 := by
  unfold vc_X0_waysOf_0 at h
  refine q_iload_n C dX0_waysOf_0 rfl ?_
  refine q_iconst (v := 1) C dX0_waysOf_1 (by decide) ?_
  refine q_icmp_lt (tgt := 41) C dX0_waysOf_2 (by decide) (fun c1 => ?_) (fun c1 => ?_)
  · replace h := h.1 c1
    refine q_lconst (v := 0) C dX0_waysOf_41 (by decide) ?_
    exact q_lret C hk dX0_waysOf_42 ⟨rfl, h⟩
  · replace h := h.2 c1
    refine q_iload_n C dX0_waysOf_5 rfl ?_
    refine q_iconst (v := 2) C dX0_waysOf_6 (by decide) ?_
    refine q_aload_n C dX0_waysOf_7 rfl ?_
    have s2 := h.1
    replace h := h.2
    refine q_getI C fl_RX0_25 rfl s2 dX0_waysOf_8 ?_
    refine q_imul C dX0_waysOf_11 ?_
    refine q_icmp_ge (tgt := 41) C dX0_waysOf_12 (by decide) (fun c3 => ?_) (fun c3 => ?_)
    · replace h := h.1 c3
      refine q_lconst (v := 0) C dX0_waysOf_41 (by decide) ?_
      exact q_lret C hk dX0_waysOf_42 ⟨rfl, h⟩
    · replace h := h.2 c3
      refine q_iload_n C dX0_waysOf_15 rfl ?_
      refine q_aload_n C dX0_waysOf_16 rfl ?_
      refine q_getI C fl_RX0_60 rfl s2 dX0_waysOf_17 ?_
      refine q_iconst (v := (-1)) C dX0_waysOf_20 (by decide) ?_
      refine q_ixor C dX0_waysOf_21 ?_
      refine q_iand C dX0_waysOf_22 ?_
      refine q_if_ne (tgt := 41) C dX0_waysOf_23 (by decide) (fun c4 => ?_) (fun c4 => ?_)
      · replace h := h.1 c4
        refine q_lconst (v := 0) C dX0_waysOf_41 (by decide) ?_
        exact q_lret C hk dX0_waysOf_42 ⟨rfl, h⟩
      · replace h := h.2 c4
        refine q_iload_n C dX0_waysOf_26 rfl ?_
        refine q_aload_n C dX0_waysOf_27 rfl ?_
        refine q_getI C fl_RX0_66 rfl s2 dX0_waysOf_28 ?_
        refine q_iand C dX0_waysOf_31 ?_
        refine q_aload_n C dX0_waysOf_32 rfl ?_
        refine q_getP C fl_RX0_32 rfl s2 dX0_waysOf_33 ?_
        refine q_iload_n C dX0_waysOf_36 rfl ?_
        have s5 := h.1
        replace h := h.2
        have s6 := h.1
        replace h := h.2
        refine q_iald C s5 s6 dX0_waysOf_37 ?_
        refine q_icmp_eq (tgt := 43) C dX0_waysOf_38 (by decide) (fun c7 => ?_) (fun c7 => ?_)
        · replace h := h.1 c7
          refine q_iload_n C dX0_waysOf_43 rfl ?_
          refine q_aload_n C dX0_waysOf_44 rfl ?_
          refine q_getI C fl_RX0_25 rfl s2 dX0_waysOf_45 ?_
          refine q_icmp_lt (tgt := 65) C dX0_waysOf_48 (by decide) (fun c8 => ?_) (fun c8 => ?_)
          · replace h := h.1 c8
            refine q_aload_n C dX0_waysOf_65 rfl ?_
            refine q_getP C fl_RX0_38 rfl s2 dX0_waysOf_66 ?_
            refine q_iload_n C dX0_waysOf_69 rfl ?_
            have s9 := h.1
            replace h := h.2
            have s10 := h.1
            replace h := h.2
            refine q_aaldJ C s9 s10 dX0_waysOf_70 ?_
            refine q_iload_n C dX0_waysOf_71 rfl ?_
            refine q_sipush (v := 1023) C dX0_waysOf_72 (by decide) ?_
            refine q_iand C dX0_waysOf_75 ?_
            have s11 := h.1
            replace h := h.2
            have s12 := h.1
            replace h := h.2
            refine q_lald C s11 s12 dX0_waysOf_76 ?_
            exact q_lret C hk dX0_waysOf_77 ⟨rfl, h⟩
          · replace h := h.2 c8
            refine q_iload_n C dX0_waysOf_51 rfl ?_
            refine q_cSi (as := [.int x2]) (st := []) C ms_J6_bitCount_0f7a4 ml_RX0_92 dX0_waysOf_52 rfl rfl (Nat.le_of_ble_eq_true rfl) ⟨Nat.le_refl _, Nat.le_refl _⟩ h (fun r13 I14 L15 P16 h => ?_)
            refine q_iconst (v := 1) C dX0_waysOf_55 (by decide) ?_
            refine q_icmp_gt (tgt := 63) C dX0_waysOf_56 (by decide) (fun c17 => ?_) (fun c17 => ?_)
            · replace h := h.1 c17
              refine q_lconst (v := 0) C dX0_waysOf_63 (by decide) ?_
              exact q_lret C hk dX0_waysOf_64 ⟨rfl, h⟩
            · replace h := h.2 c17
              refine q_lconst (v := 1) C dX0_waysOf_59 (by decide) ?_
              refine q_goto (tgt := 64) C dX0_waysOf_60 (by decide) ?_
              exact q_lret C hk dX0_waysOf_64 ⟨rfl, h⟩
        · replace h := h.2 c7
          refine q_lconst (v := 0) C dX0_waysOf_41 (by decide) ?_
          exact q_lret C hk dX0_waysOf_42 ⟨rfl, h⟩
theorem sp_X0_waysOf {d : Nat} {sh : List qSh} {K : Option Value → qMI → qML → qMP → Prop} {a0 : Nat} {x1 : Int32} {x2 : Int32} {I : qMI} {L : qML} {P : qMP} (h0 : vc_X0_waysOf_0 d sh K a0 x1 x2 I L P) : Sq (d + 1) mX0_waysOf sh [.ref a0, .int x1, .int x2] I L P K := by
  refine Sq_of (by decide +kernel) (Nat.le_of_ble_eq_true rfl) (fun X C hk hn => ?_)
  exact rg_X0_waysOf_0 C hk h0
/-! BracketDraws$Counter.fillRow(II)V -/
def vc_X0_fillRow_0 (d : Nat) (sh : List qSh) (K : Option Value → qMI → qML → qMP → Prop) (T1 : Nat → Int32 → Int32 → Int32 → Int32 → Int32 → qMI → qML → qMP → Prop) (a0 : Nat) (x1 : Int32) (x2 : Int32) (I : qMI) (L : qML) (P : qMP) : Prop :=
  ((x1 < 1) → (K none I L P)) ∧ ((¬ x1 < 1) → (((shp sh a0).1 = 0) ∧ (((x1 < (I a0 5)) → (((shp sh (P a0 9)).1 = 24) ∧ ((vp_in x1 (shp sh (P a0 9)).2) ∧ (Sq d mX0_twinOf sh [.ref a0, .int x1, .int x2] I L P (KI fun r6 I7 L8 P9 => ((r6 = ((-1))) → (Sq d mJ6_bitCount_0f7a4 sh [.int ((I7 a0 4) &&& ((I7 a0 7) ^^^ ((-1))))] I7 L8 P9 (KI fun r11 I12 L13 P14 => T1 (P (P a0 9) (Int32.toNatClampNeg x1)) r6 ((I7 a0 4) &&& ((I7 a0 7) ^^^ ((-1)))) ((1 : Int32) <<< (r11 &&& 31)) 0 0 I12 L13 P14))) ∧ ((¬ r6 = ((-1))) → (((shp sh (P9 a0 9)).1 = 24) ∧ ((vp_in r6 (shp sh (P9 a0 9)).2) ∧ (((shp sh (P (P a0 9) (Int32.toNatClampNeg x1))).1 = 21) ∧ (((shp sh (P9 (P9 a0 9) (Int32.toNatClampNeg r6))).1 = 21) ∧ ((¬ (nI (shp sh (P (P a0 9) (Int32.toNatClampNeg x1))).2) < 0) ∧ ((Int32.toNatClampNeg 0 + Int32.toNatClampNeg (nI (shp sh (P (P a0 9) (Int32.toNatClampNeg x1))).2) ≤ (shp sh (P9 (P9 a0 9) (Int32.toNatClampNeg r6))).2) ∧ ((Int32.toNatClampNeg 0 + Int32.toNatClampNeg (nI (shp sh (P (P a0 9) (Int32.toNatClampNeg x1))).2) ≤ (shp sh (P (P a0 9) (Int32.toNatClampNeg x1))).2) ∧ (∀ L22 : qML, L22 = cLo L8 (P9 (P9 a0 9) (Int32.toNatClampNeg r6)) (P (P a0 9) (Int32.toNatClampNeg x1)) (Int32.toNatClampNeg 0) (Int32.toNatClampNeg 0) (Int32.toNatClampNeg (nI (shp sh (P (P a0 9) (Int32.toNatClampNeg x1))).2)) → (K none I7 L22 P9))))))))))))))) ∧ ((¬ x1 < (I a0 5)) → (K none I L P)))))
set_option maxRecDepth 100000 in
set_option maxHeartbeats 4000000 in
theorem rg_X0_fillRow_0 {X : qCT} {d : Nat} {sh : List qSh} {K : Option Value → qMI → qML → qMP → Prop} {T1 : Nat → Int32 → Int32 → Int32 → Int32 → Int32 → qMI → qML → qMP → Prop} {a0 : Nat} {x1 : Int32} {x2 : Int32} {I : qMI} {L : qML} {P : qMP} (C : qCB X RX0 cX0_fillRow 12 (d + 1) 0 0) (hk : qCK X (none) 0 0 (fun v sh' I' L' P' => sh' = sh ∧ K v I' L' P')) (hT1 : ∀ (a3 : Nat) (x4 : Int32) (x5 : Int32) (x6 : Int32) (x7 : Int32) (x8 : Int32) (I : qMI) (L : qML) (P : qMP), T1 a3 x4 x5 x6 x7 x8 I L P → qG X 79 [some (.ref a0), some (.int x1), some (.int x2), some (.ref a3), some (.int x4), some (.int x5), some (.int x6), some (.int x7), some (.int x8), none, none, none] [] sh I L P 0 0) (h : vc_X0_fillRow_0 d sh K T1 a0 x1 x2 I L P) : qG X 0 [some (.ref a0), some (.int x1), some (.int x2), none, none, none, none, none, none, none, none, none] [] sh I L P 0 0 := by
  unfold vc_X0_fillRow_0 at h
  refine q_iload_n C dX0_fillRow_0 rfl ?_
  refine q_iconst (v := 1) C dX0_fillRow_1 (by decide) ?_
  refine q_icmp_lt (tgt := 13) C dX0_fillRow_2 (by decide) (fun c1 => ?_) (fun c1 => ?_)
  · replace h := h.1 c1
    exact q_vret C hk dX0_fillRow_13 ⟨rfl, h⟩
  · replace h := h.2 c1
    refine q_iload_n C dX0_fillRow_5 rfl ?_
    refine q_aload_n C dX0_fillRow_6 rfl ?_
    have s2 := h.1
    replace h := h.2
    refine q_getI C fl_RX0_25 rfl s2 dX0_fillRow_7 ?_
    refine q_icmp_lt (tgt := 14) C dX0_fillRow_10 (by decide) (fun c3 => ?_) (fun c3 => ?_)
    · replace h := h.1 c3
      refine q_aload_n C dX0_fillRow_14 rfl ?_
      refine q_getP C fl_RX0_38 rfl s2 dX0_fillRow_15 ?_
      refine q_iload_n C dX0_fillRow_18 rfl ?_
      have s4 := h.1
      replace h := h.2
      have s5 := h.1
      replace h := h.2
      refine q_aaldJ C s4 s5 dX0_fillRow_19 ?_
      refine q_astore_n (lo1 := [some (.ref a0), some (.int x1), some (.int x2), some (.ref (P (P a0 9) (Int32.toNatClampNeg x1))), none, none, none, none, none, none, none, none]) C dX0_fillRow_20 (by decide) rfl ?_
      refine q_aload_n C dX0_fillRow_21 rfl ?_
      refine q_iload_n C dX0_fillRow_22 rfl ?_
      refine q_iload_n C dX0_fillRow_23 rfl ?_
      refine q_cVi (as := [.int x1, .int x2]) (st := []) (r := a0) C mv_X0_twinOf ml_RX0_97 dX0_fillRow_24 rfl s2 rfl (Nat.le_of_ble_eq_true rfl) ⟨Nat.le_refl _, Nat.le_refl _⟩ h (fun r6 I7 L8 P9 h => ?_)
      refine q_istore (lo1 := [some (.ref a0), some (.int x1), some (.int x2), some (.ref (P (P a0 9) (Int32.toNatClampNeg x1))), some (.int r6), none, none, none, none, none, none, none]) C dX0_fillRow_27 (by decide) rfl ?_
      refine q_iload C dX0_fillRow_29 rfl ?_
      refine q_iconst (v := (-1)) C dX0_fillRow_31 (by decide) ?_
      refine q_icmp_eq (tgt := 51) C dX0_fillRow_32 (by decide) (fun c10 => ?_) (fun c10 => ?_)
      · replace h := h.1 c10
        refine q_aload_n C dX0_fillRow_51 rfl ?_
        refine q_getI C fl_RX0_60 rfl s2 dX0_fillRow_52 ?_
        refine q_aload_n C dX0_fillRow_55 rfl ?_
        refine q_getI C fl_RX0_66 rfl s2 dX0_fillRow_56 ?_
        refine q_iconst (v := (-1)) C dX0_fillRow_59 (by decide) ?_
        refine q_ixor C dX0_fillRow_60 ?_
        refine q_iand C dX0_fillRow_61 ?_
        refine q_istore (lo1 := [some (.ref a0), some (.int x1), some (.int x2), some (.ref (P (P a0 9) (Int32.toNatClampNeg x1))), some (.int r6), some (.int ((I7 a0 4) &&& ((I7 a0 7) ^^^ ((-1))))), none, none, none, none, none, none]) C dX0_fillRow_62 (by decide) rfl ?_
        refine q_iconst (v := 1) C dX0_fillRow_64 (by decide) ?_
        refine q_iload C dX0_fillRow_65 rfl ?_
        refine q_cSi (as := [.int ((I7 a0 4) &&& ((I7 a0 7) ^^^ ((-1))))]) (st := [.int 1]) C ms_J6_bitCount_0f7a4 ml_RX0_92 dX0_fillRow_67 rfl rfl (Nat.le_of_ble_eq_true rfl) ⟨Nat.le_refl _, Nat.le_refl _⟩ h (fun r11 I12 L13 P14 h => ?_)
        refine q_ishl C dX0_fillRow_70 ?_
        refine q_istore (lo1 := [some (.ref a0), some (.int x1), some (.int x2), some (.ref (P (P a0 9) (Int32.toNatClampNeg x1))), some (.int r6), some (.int ((I7 a0 4) &&& ((I7 a0 7) ^^^ ((-1))))), some (.int ((1 : Int32) <<< (r11 &&& 31))), none, none, none, none, none]) C dX0_fillRow_71 (by decide) rfl ?_
        refine q_iconst (v := 0) C dX0_fillRow_73 (by decide) ?_
        refine q_istore (lo1 := [some (.ref a0), some (.int x1), some (.int x2), some (.ref (P (P a0 9) (Int32.toNatClampNeg x1))), some (.int r6), some (.int ((I7 a0 4) &&& ((I7 a0 7) ^^^ ((-1))))), some (.int ((1 : Int32) <<< (r11 &&& 31))), some (.int 0), none, none, none, none]) C dX0_fillRow_74 (by decide) rfl ?_
        refine q_iconst (v := 0) C dX0_fillRow_76 (by decide) ?_
        refine q_istore (lo1 := [some (.ref a0), some (.int x1), some (.int x2), some (.ref (P (P a0 9) (Int32.toNatClampNeg x1))), some (.int r6), some (.int ((I7 a0 4) &&& ((I7 a0 7) ^^^ ((-1))))), some (.int ((1 : Int32) <<< (r11 &&& 31))), some (.int 0), some (.int 0), none, none, none]) C dX0_fillRow_77 (by decide) rfl ?_
        exact hT1 _ _ _ _ _ _ _ _ _ h
      · replace h := h.2 c10
        refine q_aload_n C dX0_fillRow_35 rfl ?_
        refine q_getP C fl_RX0_38 rfl s2 dX0_fillRow_36 ?_
        refine q_iload C dX0_fillRow_39 rfl ?_
        have s15 := h.1
        replace h := h.2
        have s16 := h.1
        replace h := h.2
        refine q_aaldJ C s15 s16 dX0_fillRow_41 ?_
        refine q_iconst (v := 0) C dX0_fillRow_42 (by decide) ?_
        refine q_aload_n C dX0_fillRow_43 rfl ?_
        refine q_iconst (v := 0) C dX0_fillRow_44 (by decide) ?_
        refine q_aload_n C dX0_fillRow_45 rfl ?_
        have s17 := h.1
        replace h := h.2
        refine q_alen21 C s17 dX0_fillRow_46 ?_
        have s18 := h.1
        replace h := h.2
        have s19 := h.1
        replace h := h.2
        have s20 := h.1
        replace h := h.2
        have s21 := h.1
        replace h := h.2
        refine q_copyL C ml_RX0_101 s18 s17 (by decide) (by decide) s19 s20 s21 (Nat.le_of_ble_eq_true rfl) dX0_fillRow_47 (fun L22 eL22 => ?_)
        replace h := h L22 eL22
        exact q_vret C hk dX0_fillRow_50 ⟨rfl, h⟩
    · replace h := h.2 c3
      exact q_vret C hk dX0_fillRow_13 ⟨rfl, h⟩
def vc_X0_fillRow_1 (d : Nat) (sh : List qSh) (K : Option Value → qMI → qML → qMP → Prop) (T1 : Nat → Int32 → Int32 → Int32 → Int32 → Int32 → qMI → qML → qMP → Prop) (a0 : Nat) (x1 : Int32) (x2 : Int32) (a3 : Nat) (x4 : Int32) (x5 : Int32) (x6 : Int32) (x7 : Int32) (x8 : Int32) (I : qMI) (L : qML) (P : qMP) : Prop :=
  ((x6 ≤ x8) → (K none I L P)) ∧ ((¬ x6 ≤ x8) → (((shp sh a0).1 = 0) ∧ (((shp sh (P a0 8)).1 = 20) ∧ ((vp_in x1 (shp sh (P a0 8)).2) ∧ (((shp sh (P a0 0)).1 = 5) ∧ (Sq d mX5_fits sh [.ref (P a0 0), .int ((I (P a0 8) (Int32.toNatClampNeg x1)) ||| x7), .int x2] I L P (KI fun r6 I7 L8 P9 => ((r6 = 0) → (((shp sh a3).1 = 21) ∧ ((vp_in (((I (P a0 8) (Int32.toNatClampNeg x1)) ||| x7) &&& 1023) (shp sh a3).2) ∧ (∀ L13 : qML, L13 = uL L8 a3 (Int32.toNatClampNeg (((I (P a0 8) (Int32.toNatClampNeg x1)) ||| x7) &&& 1023)) 0 → (T1 a3 x4 x5 x6 ((x7 - x5) &&& x5) (x8 + 1) I7 L13 P9))))) ∧ ((¬ r6 = 0) → (((¬ x2 = 1) → (Sq d mX0_halvesWays sh [.ref a0, .int x1, .int x7] I7 L8 P9 (KL fun r15 I16 L17 P18 => ((shp sh a3).1 = 21) ∧ ((vp_in (((I (P a0 8) (Int32.toNatClampNeg x1)) ||| x7) &&& 1023) (shp sh a3).2) ∧ (∀ L21 : qML, L21 = uL L17 a3 (Int32.toNatClampNeg (((I (P a0 8) (Int32.toNatClampNeg x1)) ||| x7) &&& 1023)) r15 → (T1 a3 x4 x5 x6 ((x7 - x5) &&& x5) (x8 + 1) I16 L21 P18)))))) ∧ ((x2 = 1) → (Sq d mX0_pairWays sh [.ref a0, .int x1, .int ((I (P a0 8) (Int32.toNatClampNeg x1)) ||| x7)] I7 L8 P9 (KL fun r22 I23 L24 P25 => ((shp sh a3).1 = 21) ∧ ((vp_in (((I (P a0 8) (Int32.toNatClampNeg x1)) ||| x7) &&& 1023) (shp sh a3).2) ∧ (∀ L28 : qML, L28 = uL L24 a3 (Int32.toNatClampNeg (((I (P a0 8) (Int32.toNatClampNeg x1)) ||| x7) &&& 1023)) r22 → (T1 a3 x4 x5 x6 ((x7 - x5) &&& x5) (x8 + 1) I23 L28 P25)))))))))))))))
set_option maxRecDepth 100000 in
set_option maxHeartbeats 4000000 in
theorem rg_X0_fillRow_1 {X : qCT} {d : Nat} {sh : List qSh} {K : Option Value → qMI → qML → qMP → Prop} {T1 : Nat → Int32 → Int32 → Int32 → Int32 → Int32 → qMI → qML → qMP → Prop} {a0 : Nat} {x1 : Int32} {x2 : Int32} {a3 : Nat} {x4 : Int32} {x5 : Int32} {x6 : Int32} {x7 : Int32} {x8 : Int32} {I : qMI} {L : qML} {P : qMP} (C : qCB X RX0 cX0_fillRow 12 (d + 1) 0 0) (hk : qCK X (none) 0 0 (fun v sh' I' L' P' => sh' = sh ∧ K v I' L' P')) (hT1 : ∀ (a3 : Nat) (x4 : Int32) (x5 : Int32) (x6 : Int32) (x7 : Int32) (x8 : Int32) (I : qMI) (L : qML) (P : qMP), T1 a3 x4 x5 x6 x7 x8 I L P → qG X 79 [some (.ref a0), some (.int x1), some (.int x2), some (.ref a3), some (.int x4), some (.int x5), some (.int x6), some (.int x7), some (.int x8), none, none, none] [] sh I L P 0 0) (h : vc_X0_fillRow_1 d sh K T1 a0 x1 x2 a3 x4 x5 x6 x7 x8 I L P) : qG X 79 [some (.ref a0), some (.int x1), some (.int x2), some (.ref a3), some (.int x4), some (.int x5), some (.int x6), some (.int x7), some (.int x8), none, none, none] [] sh I L P 0 0 := by
  unfold vc_X0_fillRow_1 at h
  refine q_iload C dX0_fillRow_79 rfl ?_
  refine q_iload C dX0_fillRow_81 rfl ?_
  refine q_icmp_ge (tgt := 163) C dX0_fillRow_83 (by decide) (fun c1 => ?_) (fun c1 => ?_)
  · replace h := h.1 c1
    exact q_vret C hk dX0_fillRow_163 ⟨rfl, h⟩
  · replace h := h.2 c1
    refine q_aload_n C dX0_fillRow_86 rfl ?_
    have s2 := h.1
    replace h := h.2
    refine q_getP C fl_RX0_32 rfl s2 dX0_fillRow_87 ?_
    refine q_iload_n C dX0_fillRow_90 rfl ?_
    have s3 := h.1
    replace h := h.2
    have s4 := h.1
    replace h := h.2
    refine q_iald C s3 s4 dX0_fillRow_91 ?_
    refine q_iload C dX0_fillRow_92 rfl ?_
    refine q_ior C dX0_fillRow_94 ?_
    refine q_istore (lo1 := [some (.ref a0), some (.int x1), some (.int x2), some (.ref a3), some (.int x4), some (.int x5), some (.int x6), some (.int x7), some (.int x8), some (.int ((I (P a0 8) (Int32.toNatClampNeg x1)) ||| x7)), none, none]) C dX0_fillRow_95 (by decide) rfl ?_
    refine q_lconst (v := 0) C dX0_fillRow_97 (by decide) ?_
    refine q_lstore (lo1 := [some (.ref a0), some (.int x1), some (.int x2), some (.ref a3), some (.int x4), some (.int x5), some (.int x6), some (.int x7), some (.int x8), some (.int ((I (P a0 8) (Int32.toNatClampNeg x1)) ||| x7)), some (.long 0), none]) C dX0_fillRow_98 (by decide) rfl ?_
    refine q_aload_n C dX0_fillRow_100 rfl ?_
    refine q_getP C fl_RX0_12 rfl s2 dX0_fillRow_101 ?_
    refine q_iload C dX0_fillRow_104 rfl ?_
    refine q_iload_n C dX0_fillRow_106 rfl ?_
    have s5 := h.1
    replace h := h.2
    refine q_cVi (as := [.int ((I (P a0 8) (Int32.toNatClampNeg x1)) ||| x7), .int x2]) (st := []) (r := P a0 0) C mv_X5_fits ml_RX0_107 dX0_fillRow_107 rfl s5 rfl (Nat.le_of_ble_eq_true rfl) ⟨Nat.le_refl _, Nat.le_refl _⟩ h (fun r6 I7 L8 P9 h => ?_)
    refine q_if_eq (tgt := 137) C dX0_fillRow_110 (by decide) (fun c10 => ?_) (fun c10 => ?_)
    · replace h := h.1 c10
      refine q_aload_n C dX0_fillRow_137 rfl ?_
      refine q_iload C dX0_fillRow_138 rfl ?_
      refine q_sipush (v := 1023) C dX0_fillRow_140 (by decide) ?_
      refine q_iand C dX0_fillRow_143 ?_
      refine q_lload C dX0_fillRow_144 rfl ?_
      have s11 := h.1
      replace h := h.2
      have s12 := h.1
      replace h := h.2
      refine q_last C s11 s12 dX0_fillRow_146 (fun L13 eL13 => ?_)
      replace h := h L13 eL13
      refine q_iload C dX0_fillRow_147 rfl ?_
      refine q_iload C dX0_fillRow_149 rfl ?_
      refine q_isub C dX0_fillRow_151 ?_
      refine q_iload C dX0_fillRow_152 rfl ?_
      refine q_iand C dX0_fillRow_154 ?_
      refine q_istore (lo1 := [some (.ref a0), some (.int x1), some (.int x2), some (.ref a3), some (.int x4), some (.int x5), some (.int x6), some (.int ((x7 - x5) &&& x5)), some (.int x8), some (.int ((I (P a0 8) (Int32.toNatClampNeg x1)) ||| x7)), some (.long 0), none]) C dX0_fillRow_155 (by decide) rfl ?_
      refine q_iinc (w := 1) (lo1 := [some (.ref a0), some (.int x1), some (.int x2), some (.ref a3), some (.int x4), some (.int x5), some (.int x6), some (.int ((x7 - x5) &&& x5)), some (.int (x8 + 1)), some (.int ((I (P a0 8) (Int32.toNatClampNeg x1)) ||| x7)), some (.long 0), none]) C dX0_fillRow_157 rfl (by decide) (by decide) rfl ?_
      refine q_goto (tgt := 79) C dX0_fillRow_160 (by decide) ?_
      refine q_kill 9 (lo1 := [some (.ref a0), some (.int x1), some (.int x2), some (.ref a3), some (.int x4), some (.int x5), some (.int x6), some (.int ((x7 - x5) &&& x5)), some (.int (x8 + 1)), none, some (.long 0), none]) rfl ?_
      refine q_kill 10 (lo1 := [some (.ref a0), some (.int x1), some (.int x2), some (.ref a3), some (.int x4), some (.int x5), some (.int x6), some (.int ((x7 - x5) &&& x5)), some (.int (x8 + 1)), none, none, none]) rfl ?_
      exact hT1 _ _ _ _ _ _ _ _ _ h
    · replace h := h.2 c10
      refine q_iload_n C dX0_fillRow_113 rfl ?_
      refine q_iconst (v := 1) C dX0_fillRow_114 (by decide) ?_
      refine q_icmp_ne (tgt := 128) C dX0_fillRow_115 (by decide) (fun c14 => ?_) (fun c14 => ?_)
      · replace h := h.1 c14
        refine q_aload_n C dX0_fillRow_128 rfl ?_
        refine q_iload_n C dX0_fillRow_129 rfl ?_
        refine q_iload C dX0_fillRow_130 rfl ?_
        refine q_cVl (as := [.int x1, .int x7]) (st := []) (r := a0) C mv_X0_halvesWays ml_RX0_113 dX0_fillRow_132 rfl s2 rfl (Nat.le_of_ble_eq_true rfl) ⟨Nat.le_refl _, Nat.le_refl _⟩ h (fun r15 I16 L17 P18 h => ?_)
        refine q_lstore (lo1 := [some (.ref a0), some (.int x1), some (.int x2), some (.ref a3), some (.int x4), some (.int x5), some (.int x6), some (.int x7), some (.int x8), some (.int ((I (P a0 8) (Int32.toNatClampNeg x1)) ||| x7)), some (.long r15), none]) C dX0_fillRow_135 (by decide) rfl ?_
        refine q_aload_n C dX0_fillRow_137 rfl ?_
        refine q_iload C dX0_fillRow_138 rfl ?_
        refine q_sipush (v := 1023) C dX0_fillRow_140 (by decide) ?_
        refine q_iand C dX0_fillRow_143 ?_
        refine q_lload C dX0_fillRow_144 rfl ?_
        have s19 := h.1
        replace h := h.2
        have s20 := h.1
        replace h := h.2
        refine q_last C s19 s20 dX0_fillRow_146 (fun L21 eL21 => ?_)
        replace h := h L21 eL21
        refine q_iload C dX0_fillRow_147 rfl ?_
        refine q_iload C dX0_fillRow_149 rfl ?_
        refine q_isub C dX0_fillRow_151 ?_
        refine q_iload C dX0_fillRow_152 rfl ?_
        refine q_iand C dX0_fillRow_154 ?_
        refine q_istore (lo1 := [some (.ref a0), some (.int x1), some (.int x2), some (.ref a3), some (.int x4), some (.int x5), some (.int x6), some (.int ((x7 - x5) &&& x5)), some (.int x8), some (.int ((I (P a0 8) (Int32.toNatClampNeg x1)) ||| x7)), some (.long r15), none]) C dX0_fillRow_155 (by decide) rfl ?_
        refine q_iinc (w := 1) (lo1 := [some (.ref a0), some (.int x1), some (.int x2), some (.ref a3), some (.int x4), some (.int x5), some (.int x6), some (.int ((x7 - x5) &&& x5)), some (.int (x8 + 1)), some (.int ((I (P a0 8) (Int32.toNatClampNeg x1)) ||| x7)), some (.long r15), none]) C dX0_fillRow_157 rfl (by decide) (by decide) rfl ?_
        refine q_goto (tgt := 79) C dX0_fillRow_160 (by decide) ?_
        refine q_kill 9 (lo1 := [some (.ref a0), some (.int x1), some (.int x2), some (.ref a3), some (.int x4), some (.int x5), some (.int x6), some (.int ((x7 - x5) &&& x5)), some (.int (x8 + 1)), none, some (.long r15), none]) rfl ?_
        refine q_kill 10 (lo1 := [some (.ref a0), some (.int x1), some (.int x2), some (.ref a3), some (.int x4), some (.int x5), some (.int x6), some (.int ((x7 - x5) &&& x5)), some (.int (x8 + 1)), none, none, none]) rfl ?_
        exact hT1 _ _ _ _ _ _ _ _ _ h
      · replace h := h.2 c14
        refine q_aload_n C dX0_fillRow_118 rfl ?_
        refine q_iload_n C dX0_fillRow_119 rfl ?_
        refine q_iload C dX0_fillRow_120 rfl ?_
        refine q_cVl (as := [.int x1, .int ((I (P a0 8) (Int32.toNatClampNeg x1)) ||| x7)]) (st := []) (r := a0) C mv_X0_pairWays ml_RX0_110 dX0_fillRow_122 rfl s2 rfl (Nat.le_of_ble_eq_true rfl) ⟨Nat.le_refl _, Nat.le_refl _⟩ h (fun r22 I23 L24 P25 h => ?_)
        refine q_goto (tgt := 135) C dX0_fillRow_125 (by decide) ?_
        refine q_lstore (lo1 := [some (.ref a0), some (.int x1), some (.int x2), some (.ref a3), some (.int x4), some (.int x5), some (.int x6), some (.int x7), some (.int x8), some (.int ((I (P a0 8) (Int32.toNatClampNeg x1)) ||| x7)), some (.long r22), none]) C dX0_fillRow_135 (by decide) rfl ?_
        refine q_aload_n C dX0_fillRow_137 rfl ?_
        refine q_iload C dX0_fillRow_138 rfl ?_
        refine q_sipush (v := 1023) C dX0_fillRow_140 (by decide) ?_
        refine q_iand C dX0_fillRow_143 ?_
        refine q_lload C dX0_fillRow_144 rfl ?_
        have s26 := h.1
        replace h := h.2
        have s27 := h.1
        replace h := h.2
        refine q_last C s26 s27 dX0_fillRow_146 (fun L28 eL28 => ?_)
        replace h := h L28 eL28
        refine q_iload C dX0_fillRow_147 rfl ?_
        refine q_iload C dX0_fillRow_149 rfl ?_
        refine q_isub C dX0_fillRow_151 ?_
        refine q_iload C dX0_fillRow_152 rfl ?_
        refine q_iand C dX0_fillRow_154 ?_
        refine q_istore (lo1 := [some (.ref a0), some (.int x1), some (.int x2), some (.ref a3), some (.int x4), some (.int x5), some (.int x6), some (.int ((x7 - x5) &&& x5)), some (.int x8), some (.int ((I (P a0 8) (Int32.toNatClampNeg x1)) ||| x7)), some (.long r22), none]) C dX0_fillRow_155 (by decide) rfl ?_
        refine q_iinc (w := 1) (lo1 := [some (.ref a0), some (.int x1), some (.int x2), some (.ref a3), some (.int x4), some (.int x5), some (.int x6), some (.int ((x7 - x5) &&& x5)), some (.int (x8 + 1)), some (.int ((I (P a0 8) (Int32.toNatClampNeg x1)) ||| x7)), some (.long r22), none]) C dX0_fillRow_157 rfl (by decide) (by decide) rfl ?_
        refine q_goto (tgt := 79) C dX0_fillRow_160 (by decide) ?_
        refine q_kill 9 (lo1 := [some (.ref a0), some (.int x1), some (.int x2), some (.ref a3), some (.int x4), some (.int x5), some (.int x6), some (.int ((x7 - x5) &&& x5)), some (.int (x8 + 1)), none, some (.long r22), none]) rfl ?_
        refine q_kill 10 (lo1 := [some (.ref a0), some (.int x1), some (.int x2), some (.ref a3), some (.int x4), some (.int x5), some (.int x6), some (.int ((x7 - x5) &&& x5)), some (.int (x8 + 1)), none, none, none]) rfl ?_
        exact hT1 _ _ _ _ _ _ _ _ _ h
theorem sp_X0_fillRow {d : Nat} {sh : List qSh} {K : Option Value → qMI → qML → qMP → Prop} {a0 : Nat} {x1 : Int32} {x2 : Int32} {I : qMI} {L : qML} {P : qMP} (T1 : Nat → Int32 → Int32 → Int32 → Int32 → Int32 → qMI → qML → qMP → Prop) (m1 : Nat → Int32 → Int32 → Int32 → Int32 → Int32 → qMI → qML → qMP → Nat) (h0 : vc_X0_fillRow_0 d sh K T1 a0 x1 x2 I L P)
    (h1 : ∀ (a3 : Nat) (x4 : Int32) (x5 : Int32) (x6 : Int32) (x7 : Int32) (x8 : Int32) (I : qMI) (L : qML) (P : qMP), T1 a3 x4 x5 x6 x7 x8 I L P → vc_X0_fillRow_1 d sh K (fun w0 w1 w2 w3 w4 w5 I' L' P' => T1 w0 w1 w2 w3 w4 w5 I' L' P' ∧ m1 w0 w1 w2 w3 w4 w5 I' L' P' < m1 a3 x4 x5 x6 x7 x8 I L P) a0 x1 x2 a3 x4 x5 x6 x7 x8 I L P) : Sq (d + 1) mX0_fillRow sh [.ref a0, .int x1, .int x2] I L P K := by
  refine Sq_of (by decide +kernel) (Nat.le_of_ble_eq_true rfl) (fun X C hk hn => ?_)
  have go : ∀ N : Nat, (∀ (a3 : Nat) (x4 : Int32) (x5 : Int32) (x6 : Int32) (x7 : Int32) (x8 : Int32) (I : qMI) (L : qML) (P : qMP), T1 a3 x4 x5 x6 x7 x8 I L P → m1 a3 x4 x5 x6 x7 x8 I L P < N → qG X 79 [some (.ref a0), some (.int x1), some (.int x2), some (.ref a3), some (.int x4), some (.int x5), some (.int x6), some (.int x7), some (.int x8), none, none, none] [] sh I L P 0 0) := by
    intro N
    induction N with
    | zero => exact fun _ _ _ _ _ _ _ _ _ _ q => absurd q (Nat.not_lt_zero _)
    | succ N ih =>
      exact fun b0 b1 b2 b3 b4 b5 I1 L1 P1 t q => rg_X0_fillRow_1 C hk (fun z0 z1 z2 z3 z4 z5 I2 L2 P2 z => ih z0 z1 z2 z3 z4 z5 I2 L2 P2 z.1 (Nat.lt_of_lt_of_le z.2 (Nat.le_of_lt_succ q))) (h1 b0 b1 b2 b3 b4 b5 I1 L1 P1 t)
  exact rg_X0_fillRow_0 C hk (fun b0 b1 b2 b3 b4 b5 I1 L1 P1 t => (go (m1 b0 b1 b2 b3 b4 b5 I1 L1 P1 + 1)) b0 b1 b2 b3 b4 b5 I1 L1 P1 t (Nat.lt_succ_self _)) h0
/-! BracketDraws$Counter.twinOf(II)I -/
def vc_X0_twinOf_0 (d : Nat) (sh : List qSh) (K : Option Value → qMI → qML → qMP → Prop) (T1 : Int32 → qMI → qML → qMP → Prop) (a0 : Nat) (x1 : Int32) (x2 : Int32) (I : qMI) (L : qML) (P : qMP) : Prop :=
  ((shp sh a0).1 = 0) ∧ (T1 ((I a0 5) >>> (x2 &&& 31)) I L P)
set_option maxRecDepth 100000 in
set_option maxHeartbeats 4000000 in
theorem rg_X0_twinOf_0 {X : qCT} {d : Nat} {sh : List qSh} {K : Option Value → qMI → qML → qMP → Prop} {T1 : Int32 → qMI → qML → qMP → Prop} {a0 : Nat} {x1 : Int32} {x2 : Int32} {I : qMI} {L : qML} {P : qMP} (C : qCB X RX0 cX0_twinOf 4 (d + 1) 0 0) (hk : qCK X (some .int) 0 0 (fun v sh' I' L' P' => sh' = sh ∧ K v I' L' P')) (hT1 : ∀ (x3 : Int32) (I : qMI) (L : qML) (P : qMP), T1 x3 I L P → qG X 7 [some (.ref a0), some (.int x1), some (.int x2), some (.int x3)] [] sh I L P 0 0) (h : vc_X0_twinOf_0 d sh K T1 a0 x1 x2 I L P) : qG X 0 [some (.ref a0), some (.int x1), some (.int x2), none] [] sh I L P 0 0 := by
  unfold vc_X0_twinOf_0 at h
  refine q_aload_n C dX0_twinOf_0 rfl ?_
  have s1 := h.1
  replace h := h.2
  refine q_getI C fl_RX0_25 rfl s1 dX0_twinOf_1 ?_
  refine q_iload_n C dX0_twinOf_4 rfl ?_
  refine q_ishr C dX0_twinOf_5 ?_
  refine q_istore_n (lo1 := [some (.ref a0), some (.int x1), some (.int x2), some (.int ((I a0 5) >>> (x2 &&& 31)))]) C dX0_twinOf_6 (by decide) rfl ?_
  exact hT1 _ _ _ _ h
def vc_X0_twinOf_1 (d : Nat) (sh : List qSh) (K : Option Value → qMI → qML → qMP → Prop) (T1 : Int32 → qMI → qML → qMP → Prop) (a0 : Nat) (x1 : Int32) (x2 : Int32) (x3 : Int32) (I : qMI) (L : qML) (P : qMP) : Prop :=
  ((shp sh a0).1 = 0) ∧ (((shp sh (P a0 8)).1 = 20) ∧ ((vp_in x1 (shp sh (P a0 8)).2) ∧ (((¬ (I (P a0 8) (Int32.toNatClampNeg x1)) = 0) → (K (some (.int ((-1)))) I L P)) ∧ (((I (P a0 8) (Int32.toNatClampNeg x1)) = 0) → (((x1 ≤ x3) → (K (some (.int ((-1)))) I L P)) ∧ ((¬ x1 ≤ x3) → ((vp_in x3 (shp sh (P a0 8)).2) ∧ (((¬ (I (P a0 8) (Int32.toNatClampNeg x3)) = 0) → (T1 (x3 + 1) I L P)) ∧ (((I (P a0 8) (Int32.toNatClampNeg x3)) = 0) → (K (some (.int x3)) I L P))))))))))
set_option maxRecDepth 100000 in
set_option maxHeartbeats 4000000 in
theorem rg_X0_twinOf_1 {X : qCT} {d : Nat} {sh : List qSh} {K : Option Value → qMI → qML → qMP → Prop} {T1 : Int32 → qMI → qML → qMP → Prop} {a0 : Nat} {x1 : Int32} {x2 : Int32} {x3 : Int32} {I : qMI} {L : qML} {P : qMP} (C : qCB X RX0 cX0_twinOf 4 (d + 1) 0 0) (hk : qCK X (some .int) 0 0 (fun v sh' I' L' P' => sh' = sh ∧ K v I' L' P')) (hT1 : ∀ (x3 : Int32) (I : qMI) (L : qML) (P : qMP), T1 x3 I L P → qG X 7 [some (.ref a0), some (.int x1), some (.int x2), some (.int x3)] [] sh I L P 0 0) (h : vc_X0_twinOf_1 d sh K T1 a0 x1 x2 x3 I L P) : qG X 7 [some (.ref a0), some (.int x1), some (.int x2), some (.int x3)] [] sh I L P 0 0 := by
  unfold vc_X0_twinOf_1 at h
  refine q_aload_n C dX0_twinOf_7 rfl ?_
  have s1 := h.1
  replace h := h.2
  refine q_getP C fl_RX0_32 rfl s1 dX0_twinOf_8 ?_
  refine q_iload_n C dX0_twinOf_11 rfl ?_
  have s2 := h.1
  replace h := h.2
  have s3 := h.1
  replace h := h.2
  refine q_iald C s2 s3 dX0_twinOf_12 ?_
  refine q_if_ne (tgt := 38) C dX0_twinOf_13 (by decide) (fun c4 => ?_) (fun c4 => ?_)
  · replace h := h.1 c4
    refine q_iconst (v := (-1)) C dX0_twinOf_38 (by decide) ?_
    exact q_iret C hk dX0_twinOf_39 ⟨rfl, h⟩
  · replace h := h.2 c4
    refine q_iload_n C dX0_twinOf_16 rfl ?_
    refine q_iload_n C dX0_twinOf_17 rfl ?_
    refine q_icmp_ge (tgt := 38) C dX0_twinOf_18 (by decide) (fun c5 => ?_) (fun c5 => ?_)
    · replace h := h.1 c5
      refine q_iconst (v := (-1)) C dX0_twinOf_38 (by decide) ?_
      exact q_iret C hk dX0_twinOf_39 ⟨rfl, h⟩
    · replace h := h.2 c5
      refine q_aload_n C dX0_twinOf_21 rfl ?_
      refine q_getP C fl_RX0_32 rfl s1 dX0_twinOf_22 ?_
      refine q_iload_n C dX0_twinOf_25 rfl ?_
      have s6 := h.1
      replace h := h.2
      refine q_iald C s2 s6 dX0_twinOf_26 ?_
      refine q_if_ne (tgt := 32) C dX0_twinOf_27 (by decide) (fun c7 => ?_) (fun c7 => ?_)
      · replace h := h.1 c7
        refine q_iinc (w := 1) (lo1 := [some (.ref a0), some (.int x1), some (.int x2), some (.int (x3 + 1))]) C dX0_twinOf_32 rfl (by decide) (by decide) rfl ?_
        refine q_goto (tgt := 7) C dX0_twinOf_35 (by decide) ?_
        exact hT1 _ _ _ _ h
      · replace h := h.2 c7
        refine q_iload_n C dX0_twinOf_30 rfl ?_
        exact q_iret C hk dX0_twinOf_31 ⟨rfl, h⟩
theorem sp_X0_twinOf {d : Nat} {sh : List qSh} {K : Option Value → qMI → qML → qMP → Prop} {a0 : Nat} {x1 : Int32} {x2 : Int32} {I : qMI} {L : qML} {P : qMP} (T1 : Int32 → qMI → qML → qMP → Prop) (m1 : Int32 → qMI → qML → qMP → Nat) (h0 : vc_X0_twinOf_0 d sh K T1 a0 x1 x2 I L P)
    (h1 : ∀ (x3 : Int32) (I : qMI) (L : qML) (P : qMP), T1 x3 I L P → vc_X0_twinOf_1 d sh K (fun w0 I' L' P' => T1 w0 I' L' P' ∧ m1 w0 I' L' P' < m1 x3 I L P) a0 x1 x2 x3 I L P) : Sq (d + 1) mX0_twinOf sh [.ref a0, .int x1, .int x2] I L P K := by
  refine Sq_of (by decide +kernel) (Nat.le_of_ble_eq_true rfl) (fun X C hk hn => ?_)
  have go : ∀ N : Nat, (∀ (x3 : Int32) (I : qMI) (L : qML) (P : qMP), T1 x3 I L P → m1 x3 I L P < N → qG X 7 [some (.ref a0), some (.int x1), some (.int x2), some (.int x3)] [] sh I L P 0 0) := by
    intro N
    induction N with
    | zero => exact fun _ _ _ _ _ q => absurd q (Nat.not_lt_zero _)
    | succ N ih =>
      exact fun b0 I1 L1 P1 t q => rg_X0_twinOf_1 C hk (fun z0 I2 L2 P2 z => ih z0 I2 L2 P2 z.1 (Nat.lt_of_lt_of_le z.2 (Nat.le_of_lt_succ q))) (h1 b0 I1 L1 P1 t)
  exact rg_X0_twinOf_0 C hk (fun b0 I1 L1 P1 t => (go (m1 b0 I1 L1 P1 + 1)) b0 I1 L1 P1 t (Nat.lt_succ_self _)) h0
/-! BracketDraws$Counter.pairWays(II)J -/
def vc_X0_pairWays_0 (d : Nat) (sh : List qSh) (K : Option Value → qMI → qML → qMP → Prop) (T1 : Int32 → Int32 → Int64 → Int32 → qMI → qML → qMP → Prop) (a0 : Nat) (x1 : Int32) (x2 : Int32) (I : qMI) (L : qML) (P : qMP) : Prop :=
  Sq d mJ6_bitCount_0f7a4 sh [.int x2] I L P (KI fun r1 I2 L3 P4 => T1 ((1 : Int32) <<< (r1 &&& 31)) 0 0 0 I2 L3 P4)
set_option maxRecDepth 100000 in
set_option maxHeartbeats 4000000 in
theorem rg_X0_pairWays_0 {X : qCT} {d : Nat} {sh : List qSh} {K : Option Value → qMI → qML → qMP → Prop} {T1 : Int32 → Int32 → Int64 → Int32 → qMI → qML → qMP → Prop} {a0 : Nat} {x1 : Int32} {x2 : Int32} {I : qMI} {L : qML} {P : qMP} (C : qCB X RX0 cX0_pairWays 8 (d + 1) 0 0) (hk : qCK X (some .long) 0 0 (fun v sh' I' L' P' => sh' = sh ∧ K v I' L' P')) (hT1 : ∀ (x3 : Int32) (x4 : Int32) (l5 : Int64) (x7 : Int32) (I : qMI) (L : qML) (P : qMP), T1 x3 x4 l5 x7 I L P → qG X 16 [some (.ref a0), some (.int x1), some (.int x2), some (.int x3), some (.int x4), some (.long l5), none, some (.int x7)] [] sh I L P 0 0) (h : vc_X0_pairWays_0 d sh K T1 a0 x1 x2 I L P) : qG X 0 [some (.ref a0), some (.int x1), some (.int x2), none, none, none, none, none] [] sh I L P 0 0 := by
  unfold vc_X0_pairWays_0 at h
  refine q_iconst (v := 1) C dX0_pairWays_0 (by decide) ?_
  refine q_iload_n C dX0_pairWays_1 rfl ?_
  refine q_cSi (as := [.int x2]) (st := [.int 1]) C ms_J6_bitCount_0f7a4 ml_RX0_92 dX0_pairWays_2 rfl rfl (Nat.le_of_ble_eq_true rfl) ⟨Nat.le_refl _, Nat.le_refl _⟩ h (fun r1 I2 L3 P4 h => ?_)
  refine q_ishl C dX0_pairWays_5 ?_
  refine q_istore_n (lo1 := [some (.ref a0), some (.int x1), some (.int x2), some (.int ((1 : Int32) <<< (r1 &&& 31))), none, none, none, none]) C dX0_pairWays_6 (by decide) rfl ?_
  refine q_iconst (v := 0) C dX0_pairWays_7 (by decide) ?_
  refine q_istore (lo1 := [some (.ref a0), some (.int x1), some (.int x2), some (.int ((1 : Int32) <<< (r1 &&& 31))), some (.int 0), none, none, none]) C dX0_pairWays_8 (by decide) rfl ?_
  refine q_lconst (v := 0) C dX0_pairWays_10 (by decide) ?_
  refine q_lstore (lo1 := [some (.ref a0), some (.int x1), some (.int x2), some (.int ((1 : Int32) <<< (r1 &&& 31))), some (.int 0), some (.long 0), none, none]) C dX0_pairWays_11 (by decide) rfl ?_
  refine q_iconst (v := 0) C dX0_pairWays_13 (by decide) ?_
  refine q_istore (lo1 := [some (.ref a0), some (.int x1), some (.int x2), some (.int ((1 : Int32) <<< (r1 &&& 31))), some (.int 0), some (.long 0), none, some (.int 0)]) C dX0_pairWays_14 (by decide) rfl ?_
  exact hT1 _ _ _ _ _ _ _ h
def vc_X0_pairWays_1 (d : Nat) (sh : List qSh) (K : Option Value → qMI → qML → qMP → Prop) (T1 : Int32 → Int32 → Int64 → Int32 → qMI → qML → qMP → Prop) (a0 : Nat) (x1 : Int32) (x2 : Int32) (x3 : Int32) (x4 : Int32) (l5 : Int64) (x7 : Int32) (I : qMI) (L : qML) (P : qMP) : Prop :=
  ((x3 ≤ x7) → (K (some (.long l5)) I L P)) ∧ ((¬ x3 ≤ x7) → (((shp sh a0).1 = 0) ∧ (Sq d mX0_waysOf sh [.ref a0, .int (2 * x1), .int x4] I L P (KL fun r3 I4 L5 P6 => Sq d mX0_waysOf sh [.ref a0, .int ((2 * x1) + 1), .int (x2 ^^^ x4)] I4 L5 P6 (KL fun r7 I8 L9 P10 => T1 x3 ((x4 - x2) &&& x2) (l5 + (r3 * r7)) (x7 + 1) I8 L9 P10)))))
set_option maxRecDepth 100000 in
set_option maxHeartbeats 4000000 in
theorem rg_X0_pairWays_1 {X : qCT} {d : Nat} {sh : List qSh} {K : Option Value → qMI → qML → qMP → Prop} {T1 : Int32 → Int32 → Int64 → Int32 → qMI → qML → qMP → Prop} {a0 : Nat} {x1 : Int32} {x2 : Int32} {x3 : Int32} {x4 : Int32} {l5 : Int64} {x7 : Int32} {I : qMI} {L : qML} {P : qMP} (C : qCB X RX0 cX0_pairWays 8 (d + 1) 0 0) (hk : qCK X (some .long) 0 0 (fun v sh' I' L' P' => sh' = sh ∧ K v I' L' P')) (hT1 : ∀ (x3 : Int32) (x4 : Int32) (l5 : Int64) (x7 : Int32) (I : qMI) (L : qML) (P : qMP), T1 x3 x4 l5 x7 I L P → qG X 16 [some (.ref a0), some (.int x1), some (.int x2), some (.int x3), some (.int x4), some (.long l5), none, some (.int x7)] [] sh I L P 0 0) (h : vc_X0_pairWays_1 d sh K T1 a0 x1 x2 x3 x4 l5 x7 I L P) : qG X 16 [some (.ref a0), some (.int x1), some (.int x2), some (.int x3), some (.int x4), some (.long l5), none, some (.int x7)] [] sh I L P 0 0 := by
  unfold vc_X0_pairWays_1 at h
  refine q_iload C dX0_pairWays_16 rfl ?_
  refine q_iload_n C dX0_pairWays_18 rfl ?_
  refine q_icmp_ge (tgt := 64) C dX0_pairWays_19 (by decide) (fun c1 => ?_) (fun c1 => ?_)
  · replace h := h.1 c1
    refine q_lload C dX0_pairWays_64 rfl ?_
    exact q_lret C hk dX0_pairWays_66 ⟨rfl, h⟩
  · replace h := h.2 c1
    refine q_lload C dX0_pairWays_22 rfl ?_
    refine q_aload_n C dX0_pairWays_24 rfl ?_
    refine q_iconst (v := 2) C dX0_pairWays_25 (by decide) ?_
    refine q_iload_n C dX0_pairWays_26 rfl ?_
    refine q_imul C dX0_pairWays_27 ?_
    refine q_iload C dX0_pairWays_28 rfl ?_
    have s2 := h.1
    replace h := h.2
    refine q_cVl (as := [.int (2 * x1), .int x4]) (st := [.long l5]) (r := a0) C mv_X0_waysOf ml_RX0_84 dX0_pairWays_30 rfl s2 rfl (Nat.le_of_ble_eq_true rfl) ⟨Nat.le_refl _, Nat.le_refl _⟩ h (fun r3 I4 L5 P6 h => ?_)
    refine q_aload_n C dX0_pairWays_33 rfl ?_
    refine q_iconst (v := 2) C dX0_pairWays_34 (by decide) ?_
    refine q_iload_n C dX0_pairWays_35 rfl ?_
    refine q_imul C dX0_pairWays_36 ?_
    refine q_iconst (v := 1) C dX0_pairWays_37 (by decide) ?_
    refine q_iadd C dX0_pairWays_38 ?_
    refine q_iload_n C dX0_pairWays_39 rfl ?_
    refine q_iload C dX0_pairWays_40 rfl ?_
    refine q_ixor C dX0_pairWays_42 ?_
    refine q_cVl (as := [.int ((2 * x1) + 1), .int (x2 ^^^ x4)]) (st := [.long r3, .long l5]) (r := a0) C mv_X0_waysOf ml_RX0_84 dX0_pairWays_43 rfl s2 rfl (Nat.le_of_ble_eq_true rfl) ⟨Nat.le_refl _, Nat.le_refl _⟩ h (fun r7 I8 L9 P10 h => ?_)
    refine q_lmul C dX0_pairWays_46 ?_
    refine q_ladd C dX0_pairWays_47 ?_
    refine q_lstore (lo1 := [some (.ref a0), some (.int x1), some (.int x2), some (.int x3), some (.int x4), some (.long (l5 + (r3 * r7))), none, some (.int x7)]) C dX0_pairWays_48 (by decide) rfl ?_
    refine q_iload C dX0_pairWays_50 rfl ?_
    refine q_iload_n C dX0_pairWays_52 rfl ?_
    refine q_isub C dX0_pairWays_53 ?_
    refine q_iload_n C dX0_pairWays_54 rfl ?_
    refine q_iand C dX0_pairWays_55 ?_
    refine q_istore (lo1 := [some (.ref a0), some (.int x1), some (.int x2), some (.int x3), some (.int ((x4 - x2) &&& x2)), some (.long (l5 + (r3 * r7))), none, some (.int x7)]) C dX0_pairWays_56 (by decide) rfl ?_
    refine q_iinc (w := 1) (lo1 := [some (.ref a0), some (.int x1), some (.int x2), some (.int x3), some (.int ((x4 - x2) &&& x2)), some (.long (l5 + (r3 * r7))), none, some (.int (x7 + 1))]) C dX0_pairWays_58 rfl (by decide) (by decide) rfl ?_
    refine q_goto (tgt := 16) C dX0_pairWays_61 (by decide) ?_
    exact hT1 _ _ _ _ _ _ _ h
theorem sp_X0_pairWays {d : Nat} {sh : List qSh} {K : Option Value → qMI → qML → qMP → Prop} {a0 : Nat} {x1 : Int32} {x2 : Int32} {I : qMI} {L : qML} {P : qMP} (T1 : Int32 → Int32 → Int64 → Int32 → qMI → qML → qMP → Prop) (m1 : Int32 → Int32 → Int64 → Int32 → qMI → qML → qMP → Nat) (h0 : vc_X0_pairWays_0 d sh K T1 a0 x1 x2 I L P)
    (h1 : ∀ (x3 : Int32) (x4 : Int32) (l5 : Int64) (x7 : Int32) (I : qMI) (L : qML) (P : qMP), T1 x3 x4 l5 x7 I L P → vc_X0_pairWays_1 d sh K (fun w0 w1 w2 w3 I' L' P' => T1 w0 w1 w2 w3 I' L' P' ∧ m1 w0 w1 w2 w3 I' L' P' < m1 x3 x4 l5 x7 I L P) a0 x1 x2 x3 x4 l5 x7 I L P) : Sq (d + 1) mX0_pairWays sh [.ref a0, .int x1, .int x2] I L P K := by
  refine Sq_of (by decide +kernel) (Nat.le_of_ble_eq_true rfl) (fun X C hk hn => ?_)
  have go : ∀ N : Nat, (∀ (x3 : Int32) (x4 : Int32) (l5 : Int64) (x7 : Int32) (I : qMI) (L : qML) (P : qMP), T1 x3 x4 l5 x7 I L P → m1 x3 x4 l5 x7 I L P < N → qG X 16 [some (.ref a0), some (.int x1), some (.int x2), some (.int x3), some (.int x4), some (.long l5), none, some (.int x7)] [] sh I L P 0 0) := by
    intro N
    induction N with
    | zero => exact fun _ _ _ _ _ _ _ _ q => absurd q (Nat.not_lt_zero _)
    | succ N ih =>
      exact fun b0 b1 b2 b3 I1 L1 P1 t q => rg_X0_pairWays_1 C hk (fun z0 z1 z2 z3 I2 L2 P2 z => ih z0 z1 z2 z3 I2 L2 P2 z.1 (Nat.lt_of_lt_of_le z.2 (Nat.le_of_lt_succ q))) (h1 b0 b1 b2 b3 I1 L1 P1 t)
  exact rg_X0_pairWays_0 C hk (fun b0 b1 b2 b3 I1 L1 P1 t => (go (m1 b0 b1 b2 b3 I1 L1 P1 + 1)) b0 b1 b2 b3 I1 L1 P1 t (Nat.lt_succ_self _)) h0
/-! BracketDraws$Counter.halvesWays(II)J -/
def vc_X0_halvesWays_0 (d : Nat) (sh : List qSh) (K : Option Value → qMI → qML → qMP → Prop) (T1 : Nat → Nat → Int32 → Int32 → Int32 → Int32 → Int64 → Int32 → qMI → qML → qMP → Prop) (a0 : Nat) (x1 : Int32) (x2 : Int32) (I : qMI) (L : qML) (P : qMP) : Prop :=
  ((x1 < 1) → (K (some (.long 0)) I L P)) ∧ ((¬ x1 < 1) → (((shp sh a0).1 = 0) ∧ (((shp sh (P a0 9)).1 = 24) ∧ (((((2 * x1) + 1) < (nI (shp sh (P a0 9)).2)) → ((vp_in (2 * x1) (shp sh (P a0 9)).2) ∧ ((vp_in ((2 * x1) + 1) (shp sh (P a0 9)).2) ∧ (((shp sh (P a0 8)).1 = 20) ∧ ((vp_in (2 * x1) (shp sh (P a0 8)).2) ∧ ((vp_in ((2 * x1) + 1) (shp sh (P a0 8)).2) ∧ (Sq d mJ6_bitCount_0f7a4 sh [.int x2] I L P (KI fun r10 I11 L12 P13 => T1 (P (P a0 9) (Int32.toNatClampNeg (2 * x1))) (P (P a0 9) (Int32.toNatClampNeg ((2 * x1) + 1))) (I (P a0 8) (Int32.toNatClampNeg (2 * x1))) (I (P a0 8) (Int32.toNatClampNeg ((2 * x1) + 1))) ((1 : Int32) <<< (r10 &&& 31)) 0 0 0 I11 L12 P13)))))))) ∧ ((¬ ((2 * x1) + 1) < (nI (shp sh (P a0 9)).2)) → (K (some (.long 0)) I L P))))))
set_option maxRecDepth 100000 in
set_option maxHeartbeats 4000000 in
theorem rg_X0_halvesWays_0 {X : qCT} {d : Nat} {sh : List qSh} {K : Option Value → qMI → qML → qMP → Prop} {T1 : Nat → Nat → Int32 → Int32 → Int32 → Int32 → Int64 → Int32 → qMI → qML → qMP → Prop} {a0 : Nat} {x1 : Int32} {x2 : Int32} {I : qMI} {L : qML} {P : qMP} (C : qCB X RX0 cX0_halvesWays 14 (d + 1) 0 0) (hk : qCK X (some .long) 0 0 (fun v sh' I' L' P' => sh' = sh ∧ K v I' L' P')) (hT1 : ∀ (a3 : Nat) (a4 : Nat) (x5 : Int32) (x6 : Int32) (x7 : Int32) (x8 : Int32) (l9 : Int64) (x11 : Int32) (I : qMI) (L : qML) (P : qMP), T1 a3 a4 x5 x6 x7 x8 l9 x11 I L P → qG X 80 [some (.ref a0), some (.int x1), some (.int x2), some (.ref a3), some (.ref a4), some (.int x5), some (.int x6), some (.int x7), some (.int x8), some (.long l9), none, some (.int x11), none, none] [] sh I L P 0 0) (h : vc_X0_halvesWays_0 d sh K T1 a0 x1 x2 I L P) : qG X 0 [some (.ref a0), some (.int x1), some (.int x2), none, none, none, none, none, none, none, none, none, none, none] [] sh I L P 0 0 := by
  unfold vc_X0_halvesWays_0 at h
  refine q_iload_n C dX0_halvesWays_0 rfl ?_
  refine q_iconst (v := 1) C dX0_halvesWays_1 (by decide) ?_
  refine q_icmp_lt (tgt := 18) C dX0_halvesWays_2 (by decide) (fun c1 => ?_) (fun c1 => ?_)
  · replace h := h.1 c1
    refine q_lconst (v := 0) C dX0_halvesWays_18 (by decide) ?_
    exact q_lret C hk dX0_halvesWays_19 ⟨rfl, h⟩
  · replace h := h.2 c1
    refine q_iconst (v := 2) C dX0_halvesWays_5 (by decide) ?_
    refine q_iload_n C dX0_halvesWays_6 rfl ?_
    refine q_imul C dX0_halvesWays_7 ?_
    refine q_iconst (v := 1) C dX0_halvesWays_8 (by decide) ?_
    refine q_iadd C dX0_halvesWays_9 ?_
    refine q_aload_n C dX0_halvesWays_10 rfl ?_
    have s2 := h.1
    replace h := h.2
    refine q_getP C fl_RX0_38 rfl s2 dX0_halvesWays_11 ?_
    have s3 := h.1
    replace h := h.2
    refine q_alen24 C s3 dX0_halvesWays_14 ?_
    refine q_icmp_lt (tgt := 20) C dX0_halvesWays_15 (by decide) (fun c4 => ?_) (fun c4 => ?_)
    · replace h := h.1 c4
      refine q_aload_n C dX0_halvesWays_20 rfl ?_
      refine q_getP C fl_RX0_38 rfl s2 dX0_halvesWays_21 ?_
      refine q_iconst (v := 2) C dX0_halvesWays_24 (by decide) ?_
      refine q_iload_n C dX0_halvesWays_25 rfl ?_
      refine q_imul C dX0_halvesWays_26 ?_
      have s5 := h.1
      replace h := h.2
      refine q_aaldJ C s3 s5 dX0_halvesWays_27 ?_
      refine q_astore_n (lo1 := [some (.ref a0), some (.int x1), some (.int x2), some (.ref (P (P a0 9) (Int32.toNatClampNeg (2 * x1)))), none, none, none, none, none, none, none, none, none, none]) C dX0_halvesWays_28 (by decide) rfl ?_
      refine q_aload_n C dX0_halvesWays_29 rfl ?_
      refine q_getP C fl_RX0_38 rfl s2 dX0_halvesWays_30 ?_
      refine q_iconst (v := 2) C dX0_halvesWays_33 (by decide) ?_
      refine q_iload_n C dX0_halvesWays_34 rfl ?_
      refine q_imul C dX0_halvesWays_35 ?_
      refine q_iconst (v := 1) C dX0_halvesWays_36 (by decide) ?_
      refine q_iadd C dX0_halvesWays_37 ?_
      have s6 := h.1
      replace h := h.2
      refine q_aaldJ C s3 s6 dX0_halvesWays_38 ?_
      refine q_astore (lo1 := [some (.ref a0), some (.int x1), some (.int x2), some (.ref (P (P a0 9) (Int32.toNatClampNeg (2 * x1)))), some (.ref (P (P a0 9) (Int32.toNatClampNeg ((2 * x1) + 1)))), none, none, none, none, none, none, none, none, none]) C dX0_halvesWays_39 (by decide) rfl ?_
      refine q_aload_n C dX0_halvesWays_41 rfl ?_
      refine q_getP C fl_RX0_32 rfl s2 dX0_halvesWays_42 ?_
      refine q_iconst (v := 2) C dX0_halvesWays_45 (by decide) ?_
      refine q_iload_n C dX0_halvesWays_46 rfl ?_
      refine q_imul C dX0_halvesWays_47 ?_
      have s7 := h.1
      replace h := h.2
      have s8 := h.1
      replace h := h.2
      refine q_iald C s7 s8 dX0_halvesWays_48 ?_
      refine q_istore (lo1 := [some (.ref a0), some (.int x1), some (.int x2), some (.ref (P (P a0 9) (Int32.toNatClampNeg (2 * x1)))), some (.ref (P (P a0 9) (Int32.toNatClampNeg ((2 * x1) + 1)))), some (.int (I (P a0 8) (Int32.toNatClampNeg (2 * x1)))), none, none, none, none, none, none, none, none]) C dX0_halvesWays_49 (by decide) rfl ?_
      refine q_aload_n C dX0_halvesWays_51 rfl ?_
      refine q_getP C fl_RX0_32 rfl s2 dX0_halvesWays_52 ?_
      refine q_iconst (v := 2) C dX0_halvesWays_55 (by decide) ?_
      refine q_iload_n C dX0_halvesWays_56 rfl ?_
      refine q_imul C dX0_halvesWays_57 ?_
      refine q_iconst (v := 1) C dX0_halvesWays_58 (by decide) ?_
      refine q_iadd C dX0_halvesWays_59 ?_
      have s9 := h.1
      replace h := h.2
      refine q_iald C s7 s9 dX0_halvesWays_60 ?_
      refine q_istore (lo1 := [some (.ref a0), some (.int x1), some (.int x2), some (.ref (P (P a0 9) (Int32.toNatClampNeg (2 * x1)))), some (.ref (P (P a0 9) (Int32.toNatClampNeg ((2 * x1) + 1)))), some (.int (I (P a0 8) (Int32.toNatClampNeg (2 * x1)))), some (.int (I (P a0 8) (Int32.toNatClampNeg ((2 * x1) + 1)))), none, none, none, none, none, none, none]) C dX0_halvesWays_61 (by decide) rfl ?_
      refine q_iconst (v := 1) C dX0_halvesWays_63 (by decide) ?_
      refine q_iload_n C dX0_halvesWays_64 rfl ?_
      refine q_cSi (as := [.int x2]) (st := [.int 1]) C ms_J6_bitCount_0f7a4 ml_RX0_92 dX0_halvesWays_65 rfl rfl (Nat.le_of_ble_eq_true rfl) ⟨Nat.le_refl _, Nat.le_refl _⟩ h (fun r10 I11 L12 P13 h => ?_)
      refine q_ishl C dX0_halvesWays_68 ?_
      refine q_istore (lo1 := [some (.ref a0), some (.int x1), some (.int x2), some (.ref (P (P a0 9) (Int32.toNatClampNeg (2 * x1)))), some (.ref (P (P a0 9) (Int32.toNatClampNeg ((2 * x1) + 1)))), some (.int (I (P a0 8) (Int32.toNatClampNeg (2 * x1)))), some (.int (I (P a0 8) (Int32.toNatClampNeg ((2 * x1) + 1)))), some (.int ((1 : Int32) <<< (r10 &&& 31))), none, none, none, none, none, none]) C dX0_halvesWays_69 (by decide) rfl ?_
      refine q_iconst (v := 0) C dX0_halvesWays_71 (by decide) ?_
      refine q_istore (lo1 := [some (.ref a0), some (.int x1), some (.int x2), some (.ref (P (P a0 9) (Int32.toNatClampNeg (2 * x1)))), some (.ref (P (P a0 9) (Int32.toNatClampNeg ((2 * x1) + 1)))), some (.int (I (P a0 8) (Int32.toNatClampNeg (2 * x1)))), some (.int (I (P a0 8) (Int32.toNatClampNeg ((2 * x1) + 1)))), some (.int ((1 : Int32) <<< (r10 &&& 31))), some (.int 0), none, none, none, none, none]) C dX0_halvesWays_72 (by decide) rfl ?_
      refine q_lconst (v := 0) C dX0_halvesWays_74 (by decide) ?_
      refine q_lstore (lo1 := [some (.ref a0), some (.int x1), some (.int x2), some (.ref (P (P a0 9) (Int32.toNatClampNeg (2 * x1)))), some (.ref (P (P a0 9) (Int32.toNatClampNeg ((2 * x1) + 1)))), some (.int (I (P a0 8) (Int32.toNatClampNeg (2 * x1)))), some (.int (I (P a0 8) (Int32.toNatClampNeg ((2 * x1) + 1)))), some (.int ((1 : Int32) <<< (r10 &&& 31))), some (.int 0), some (.long 0), none, none, none, none]) C dX0_halvesWays_75 (by decide) rfl ?_
      refine q_iconst (v := 0) C dX0_halvesWays_77 (by decide) ?_
      refine q_istore (lo1 := [some (.ref a0), some (.int x1), some (.int x2), some (.ref (P (P a0 9) (Int32.toNatClampNeg (2 * x1)))), some (.ref (P (P a0 9) (Int32.toNatClampNeg ((2 * x1) + 1)))), some (.int (I (P a0 8) (Int32.toNatClampNeg (2 * x1)))), some (.int (I (P a0 8) (Int32.toNatClampNeg ((2 * x1) + 1)))), some (.int ((1 : Int32) <<< (r10 &&& 31))), some (.int 0), some (.long 0), none, some (.int 0), none, none]) C dX0_halvesWays_78 (by decide) rfl ?_
      exact hT1 _ _ _ _ _ _ _ _ _ _ _ h
    · replace h := h.2 c4
      refine q_lconst (v := 0) C dX0_halvesWays_18 (by decide) ?_
      exact q_lret C hk dX0_halvesWays_19 ⟨rfl, h⟩
def vc_X0_halvesWays_1 (d : Nat) (sh : List qSh) (K : Option Value → qMI → qML → qMP → Prop) (T1 : Nat → Nat → Int32 → Int32 → Int32 → Int32 → Int64 → Int32 → qMI → qML → qMP → Prop) (a0 : Nat) (x1 : Int32) (x2 : Int32) (a3 : Nat) (a4 : Nat) (x5 : Int32) (x6 : Int32) (x7 : Int32) (x8 : Int32) (l9 : Int64) (x11 : Int32) (I : qMI) (L : qML) (P : qMP) : Prop :=
  ((x7 ≤ x11) → (K (some (.long l9)) I L P)) ∧ ((¬ x7 ≤ x11) → (((shp sh a3).1 = 21) ∧ ((vp_in ((x5 ||| x8) &&& 1023) (shp sh a3).2) ∧ ((((L a3 (Int32.toNatClampNeg ((x5 ||| x8) &&& 1023))) = 0) → (T1 a3 a4 x5 x6 x7 ((x8 - x2) &&& x2) l9 (x11 + 1) I L P)) ∧ ((¬ (L a3 (Int32.toNatClampNeg ((x5 ||| x8) &&& 1023))) = 0) → (((shp sh a4).1 = 21) ∧ ((vp_in ((x6 ||| (x2 ^^^ x8)) &&& 1023) (shp sh a4).2) ∧ (T1 a3 a4 x5 x6 x7 ((x8 - x2) &&& x2) (l9 + ((L a3 (Int32.toNatClampNeg ((x5 ||| x8) &&& 1023))) * (L a4 (Int32.toNatClampNeg ((x6 ||| (x2 ^^^ x8)) &&& 1023))))) (x11 + 1) I L P))))))))
set_option maxRecDepth 100000 in
set_option maxHeartbeats 4000000 in
theorem rg_X0_halvesWays_1 {X : qCT} {d : Nat} {sh : List qSh} {K : Option Value → qMI → qML → qMP → Prop} {T1 : Nat → Nat → Int32 → Int32 → Int32 → Int32 → Int64 → Int32 → qMI → qML → qMP → Prop} {a0 : Nat} {x1 : Int32} {x2 : Int32} {a3 : Nat} {a4 : Nat} {x5 : Int32} {x6 : Int32} {x7 : Int32} {x8 : Int32} {l9 : Int64} {x11 : Int32} {I : qMI} {L : qML} {P : qMP} (C : qCB X RX0 cX0_halvesWays 14 (d + 1) 0 0) (hk : qCK X (some .long) 0 0 (fun v sh' I' L' P' => sh' = sh ∧ K v I' L' P')) (hT1 : ∀ (a3 : Nat) (a4 : Nat) (x5 : Int32) (x6 : Int32) (x7 : Int32) (x8 : Int32) (l9 : Int64) (x11 : Int32) (I : qMI) (L : qML) (P : qMP), T1 a3 a4 x5 x6 x7 x8 l9 x11 I L P → qG X 80 [some (.ref a0), some (.int x1), some (.int x2), some (.ref a3), some (.ref a4), some (.int x5), some (.int x6), some (.int x7), some (.int x8), some (.long l9), none, some (.int x11), none, none] [] sh I L P 0 0) (h : vc_X0_halvesWays_1 d sh K T1 a0 x1 x2 a3 a4 x5 x6 x7 x8 l9 x11 I L P) : qG X 80 [some (.ref a0), some (.int x1), some (.int x2), some (.ref a3), some (.ref a4), some (.int x5), some (.int x6), some (.int x7), some (.int x8), some (.long l9), none, some (.int x11), none, none] [] sh I L P 0 0 := by
  unfold vc_X0_halvesWays_1 at h
  refine q_iload C dX0_halvesWays_80 rfl ?_
  refine q_iload C dX0_halvesWays_82 rfl ?_
  refine q_icmp_ge (tgt := 143) C dX0_halvesWays_84 (by decide) (fun c1 => ?_) (fun c1 => ?_)
  · replace h := h.1 c1
    refine q_lload C dX0_halvesWays_143 rfl ?_
    exact q_lret C hk dX0_halvesWays_145 ⟨rfl, h⟩
  · replace h := h.2 c1
    refine q_aload_n C dX0_halvesWays_87 rfl ?_
    refine q_iload C dX0_halvesWays_88 rfl ?_
    refine q_iload C dX0_halvesWays_90 rfl ?_
    refine q_ior C dX0_halvesWays_92 ?_
    refine q_sipush (v := 1023) C dX0_halvesWays_93 (by decide) ?_
    refine q_iand C dX0_halvesWays_96 ?_
    have s2 := h.1
    replace h := h.2
    have s3 := h.1
    replace h := h.2
    refine q_lald C s2 s3 dX0_halvesWays_97 ?_
    refine q_lstore (lo1 := [some (.ref a0), some (.int x1), some (.int x2), some (.ref a3), some (.ref a4), some (.int x5), some (.int x6), some (.int x7), some (.int x8), some (.long l9), none, some (.int x11), some (.long (L a3 (Int32.toNatClampNeg ((x5 ||| x8) &&& 1023)))), none]) C dX0_halvesWays_98 (by decide) rfl ?_
    refine q_lload C dX0_halvesWays_100 rfl ?_
    refine q_lconst (v := 0) C dX0_halvesWays_102 (by decide) ?_
    refine q_lcmp_eq (tgt := 129) C dX0_halvesWays_103 dX0_halvesWays_104 (by decide) (fun c4 => ?_) (fun c4 => ?_)
    · replace h := h.1 c4
      refine q_iload C dX0_halvesWays_129 rfl ?_
      refine q_iload_n C dX0_halvesWays_131 rfl ?_
      refine q_isub C dX0_halvesWays_132 ?_
      refine q_iload_n C dX0_halvesWays_133 rfl ?_
      refine q_iand C dX0_halvesWays_134 ?_
      refine q_istore (lo1 := [some (.ref a0), some (.int x1), some (.int x2), some (.ref a3), some (.ref a4), some (.int x5), some (.int x6), some (.int x7), some (.int ((x8 - x2) &&& x2)), some (.long l9), none, some (.int x11), some (.long (L a3 (Int32.toNatClampNeg ((x5 ||| x8) &&& 1023)))), none]) C dX0_halvesWays_135 (by decide) rfl ?_
      refine q_iinc (w := 1) (lo1 := [some (.ref a0), some (.int x1), some (.int x2), some (.ref a3), some (.ref a4), some (.int x5), some (.int x6), some (.int x7), some (.int ((x8 - x2) &&& x2)), some (.long l9), none, some (.int (x11 + 1)), some (.long (L a3 (Int32.toNatClampNeg ((x5 ||| x8) &&& 1023)))), none]) C dX0_halvesWays_137 rfl (by decide) (by decide) rfl ?_
      refine q_goto (tgt := 80) C dX0_halvesWays_140 (by decide) ?_
      refine q_kill 12 (lo1 := [some (.ref a0), some (.int x1), some (.int x2), some (.ref a3), some (.ref a4), some (.int x5), some (.int x6), some (.int x7), some (.int ((x8 - x2) &&& x2)), some (.long l9), none, some (.int (x11 + 1)), none, none]) rfl ?_
      exact hT1 _ _ _ _ _ _ _ _ _ _ _ h
    · replace h := h.2 c4
      refine q_lload C dX0_halvesWays_107 rfl ?_
      refine q_lload C dX0_halvesWays_109 rfl ?_
      refine q_aload C dX0_halvesWays_111 rfl ?_
      refine q_iload C dX0_halvesWays_113 rfl ?_
      refine q_iload_n C dX0_halvesWays_115 rfl ?_
      refine q_iload C dX0_halvesWays_116 rfl ?_
      refine q_ixor C dX0_halvesWays_118 ?_
      refine q_ior C dX0_halvesWays_119 ?_
      refine q_sipush (v := 1023) C dX0_halvesWays_120 (by decide) ?_
      refine q_iand C dX0_halvesWays_123 ?_
      have s5 := h.1
      replace h := h.2
      have s6 := h.1
      replace h := h.2
      refine q_lald C s5 s6 dX0_halvesWays_124 ?_
      refine q_lmul C dX0_halvesWays_125 ?_
      refine q_ladd C dX0_halvesWays_126 ?_
      refine q_lstore (lo1 := [some (.ref a0), some (.int x1), some (.int x2), some (.ref a3), some (.ref a4), some (.int x5), some (.int x6), some (.int x7), some (.int x8), some (.long (l9 + ((L a3 (Int32.toNatClampNeg ((x5 ||| x8) &&& 1023))) * (L a4 (Int32.toNatClampNeg ((x6 ||| (x2 ^^^ x8)) &&& 1023)))))), none, some (.int x11), some (.long (L a3 (Int32.toNatClampNeg ((x5 ||| x8) &&& 1023)))), none]) C dX0_halvesWays_127 (by decide) rfl ?_
      refine q_iload C dX0_halvesWays_129 rfl ?_
      refine q_iload_n C dX0_halvesWays_131 rfl ?_
      refine q_isub C dX0_halvesWays_132 ?_
      refine q_iload_n C dX0_halvesWays_133 rfl ?_
      refine q_iand C dX0_halvesWays_134 ?_
      refine q_istore (lo1 := [some (.ref a0), some (.int x1), some (.int x2), some (.ref a3), some (.ref a4), some (.int x5), some (.int x6), some (.int x7), some (.int ((x8 - x2) &&& x2)), some (.long (l9 + ((L a3 (Int32.toNatClampNeg ((x5 ||| x8) &&& 1023))) * (L a4 (Int32.toNatClampNeg ((x6 ||| (x2 ^^^ x8)) &&& 1023)))))), none, some (.int x11), some (.long (L a3 (Int32.toNatClampNeg ((x5 ||| x8) &&& 1023)))), none]) C dX0_halvesWays_135 (by decide) rfl ?_
      refine q_iinc (w := 1) (lo1 := [some (.ref a0), some (.int x1), some (.int x2), some (.ref a3), some (.ref a4), some (.int x5), some (.int x6), some (.int x7), some (.int ((x8 - x2) &&& x2)), some (.long (l9 + ((L a3 (Int32.toNatClampNeg ((x5 ||| x8) &&& 1023))) * (L a4 (Int32.toNatClampNeg ((x6 ||| (x2 ^^^ x8)) &&& 1023)))))), none, some (.int (x11 + 1)), some (.long (L a3 (Int32.toNatClampNeg ((x5 ||| x8) &&& 1023)))), none]) C dX0_halvesWays_137 rfl (by decide) (by decide) rfl ?_
      refine q_goto (tgt := 80) C dX0_halvesWays_140 (by decide) ?_
      refine q_kill 12 (lo1 := [some (.ref a0), some (.int x1), some (.int x2), some (.ref a3), some (.ref a4), some (.int x5), some (.int x6), some (.int x7), some (.int ((x8 - x2) &&& x2)), some (.long (l9 + ((L a3 (Int32.toNatClampNeg ((x5 ||| x8) &&& 1023))) * (L a4 (Int32.toNatClampNeg ((x6 ||| (x2 ^^^ x8)) &&& 1023)))))), none, some (.int (x11 + 1)), none, none]) rfl ?_
      exact hT1 _ _ _ _ _ _ _ _ _ _ _ h
theorem sp_X0_halvesWays {d : Nat} {sh : List qSh} {K : Option Value → qMI → qML → qMP → Prop} {a0 : Nat} {x1 : Int32} {x2 : Int32} {I : qMI} {L : qML} {P : qMP} (T1 : Nat → Nat → Int32 → Int32 → Int32 → Int32 → Int64 → Int32 → qMI → qML → qMP → Prop) (m1 : Nat → Nat → Int32 → Int32 → Int32 → Int32 → Int64 → Int32 → qMI → qML → qMP → Nat) (h0 : vc_X0_halvesWays_0 d sh K T1 a0 x1 x2 I L P)
    (h1 : ∀ (a3 : Nat) (a4 : Nat) (x5 : Int32) (x6 : Int32) (x7 : Int32) (x8 : Int32) (l9 : Int64) (x11 : Int32) (I : qMI) (L : qML) (P : qMP), T1 a3 a4 x5 x6 x7 x8 l9 x11 I L P → vc_X0_halvesWays_1 d sh K (fun w0 w1 w2 w3 w4 w5 w6 w7 I' L' P' => T1 w0 w1 w2 w3 w4 w5 w6 w7 I' L' P' ∧ m1 w0 w1 w2 w3 w4 w5 w6 w7 I' L' P' < m1 a3 a4 x5 x6 x7 x8 l9 x11 I L P) a0 x1 x2 a3 a4 x5 x6 x7 x8 l9 x11 I L P) : Sq (d + 1) mX0_halvesWays sh [.ref a0, .int x1, .int x2] I L P K := by
  refine Sq_of (by decide +kernel) (Nat.le_of_ble_eq_true rfl) (fun X C hk hn => ?_)
  have go : ∀ N : Nat, (∀ (a3 : Nat) (a4 : Nat) (x5 : Int32) (x6 : Int32) (x7 : Int32) (x8 : Int32) (l9 : Int64) (x11 : Int32) (I : qMI) (L : qML) (P : qMP), T1 a3 a4 x5 x6 x7 x8 l9 x11 I L P → m1 a3 a4 x5 x6 x7 x8 l9 x11 I L P < N → qG X 80 [some (.ref a0), some (.int x1), some (.int x2), some (.ref a3), some (.ref a4), some (.int x5), some (.int x6), some (.int x7), some (.int x8), some (.long l9), none, some (.int x11), none, none] [] sh I L P 0 0) := by
    intro N
    induction N with
    | zero => exact fun _ _ _ _ _ _ _ _ _ _ _ _ q => absurd q (Nat.not_lt_zero _)
    | succ N ih =>
      exact fun b0 b1 b2 b3 b4 b5 b6 b7 I1 L1 P1 t q => rg_X0_halvesWays_1 C hk (fun z0 z1 z2 z3 z4 z5 z6 z7 I2 L2 P2 z => ih z0 z1 z2 z3 z4 z5 z6 z7 I2 L2 P2 z.1 (Nat.lt_of_lt_of_le z.2 (Nat.le_of_lt_succ q))) (h1 b0 b1 b2 b3 b4 b5 b6 b7 I1 L1 P1 t)
  exact rg_X0_halvesWays_0 C hk (fun b0 b1 b2 b3 b4 b5 b6 b7 I1 L1 P1 t => (go (m1 b0 b1 b2 b3 b4 b5 b6 b7 I1 L1 P1 + 1)) b0 b1 b2 b3 b4 b5 b6 b7 I1 L1 P1 t (Nat.lt_succ_self _)) h0
/-! BracketDraws$Numbering.lay(LBracketDraws$Counter;J[I)V -/
def vc_X4_lay_0 (d : Nat) (sh : List qSh) (K : Option Value → qMI → qML → qMP → Prop) (T1 : Int32 → qMI → qML → qMP → Prop) (T2 : Int32 → qMI → qML → qMP → Prop) (a0 : Nat) (a1 : Nat) (l2 : Int64) (a4 : Nat) (I : qMI) (L : qML) (P : qMP) : Prop :=
  ((shp sh a0).1 = 4) ∧ (((shp sh a1).1 = 0) ∧ (((shp sh (P a0 0)).1 = 20) ∧ ((vp_in 1 (shp sh (P a0 0)).2) ∧ (∀ I5 : qMI, I5 = uI I (P a0 0) (Int32.toNatClampNeg 1) (I a1 4) → (((shp sh (P a0 1)).1 = 21) ∧ ((vp_in 1 (shp sh (P a0 1)).2) ∧ (∀ L8 : qML, L8 = uL L (P a0 1) (Int32.toNatClampNeg 1) l2 → (T1 1 I5 L8 P))))))))
set_option maxRecDepth 100000 in
set_option maxHeartbeats 4000000 in
theorem rg_X4_lay_0 {X : qCT} {d : Nat} {sh : List qSh} {K : Option Value → qMI → qML → qMP → Prop} {T1 : Int32 → qMI → qML → qMP → Prop} {T2 : Int32 → qMI → qML → qMP → Prop} {a0 : Nat} {a1 : Nat} {l2 : Int64} {a4 : Nat} {I : qMI} {L : qML} {P : qMP} (C : qCB X RX4 cX4_lay 6 (d + 1) 0 0) (hk : qCK X (none) 0 0 (fun v sh' I' L' P' => sh' = sh ∧ K v I' L' P')) (hT1 : ∀ (x5 : Int32) (I : qMI) (L : qML) (P : qMP), T1 x5 I L P → qG X 20 [some (.ref a0), some (.ref a1), some (.long l2), none, some (.ref a4), some (.int x5)] [] sh I L P 0 0) (hT2 : ∀ (x5 : Int32) (I : qMI) (L : qML) (P : qMP), T2 x5 I L P → qG X 62 [some (.ref a0), some (.ref a1), some (.long l2), none, some (.ref a4), some (.int x5)] [] sh I L P 0 0) (h : vc_X4_lay_0 d sh K T1 T2 a0 a1 l2 a4 I L P) : qG X 0 [some (.ref a0), some (.ref a1), some (.long l2), none, some (.ref a4), none] [] sh I L P 0 0 := by
  unfold vc_X4_lay_0 at h
  refine q_aload_n C dX4_lay_0 rfl ?_
  have s1 := h.1
  replace h := h.2
  refine q_getP C fl_RX4_9 rfl s1 dX4_lay_1 ?_
  refine q_iconst (v := 1) C dX4_lay_4 (by decide) ?_
  refine q_aload_n C dX4_lay_5 rfl ?_
  have s2 := h.1
  replace h := h.2
  refine q_getI C fl_RX4_19 rfl s2 dX4_lay_6 ?_
  have s3 := h.1
  replace h := h.2
  have s4 := h.1
  replace h := h.2
  refine q_iast C s3 s4 dX4_lay_9 (fun I5 eI5 => ?_)
  replace h := h I5 eI5
  refine q_aload_n C dX4_lay_10 rfl ?_
  refine q_getP C fl_RX4_15 rfl s1 dX4_lay_11 ?_
  refine q_iconst (v := 1) C dX4_lay_14 (by decide) ?_
  refine q_lload_n C dX4_lay_15 rfl ?_
  have s6 := h.1
  replace h := h.2
  have s7 := h.1
  replace h := h.2
  refine q_last C s6 s7 dX4_lay_16 (fun L8 eL8 => ?_)
  replace h := h L8 eL8
  refine q_iconst (v := 1) C dX4_lay_17 (by decide) ?_
  refine q_istore (lo1 := [some (.ref a0), some (.ref a1), some (.long l2), none, some (.ref a4), some (.int 1)]) C dX4_lay_18 (by decide) rfl ?_
  exact hT1 _ _ _ _ h
def vc_X4_lay_1 (d : Nat) (sh : List qSh) (K : Option Value → qMI → qML → qMP → Prop) (T1 : Int32 → qMI → qML → qMP → Prop) (T2 : Int32 → qMI → qML → qMP → Prop) (a0 : Nat) (a1 : Nat) (l2 : Int64) (a4 : Nat) (x5 : Int32) (I : qMI) (L : qML) (P : qMP) : Prop :=
  ((shp sh a1).1 = 0) ∧ ((((I a1 5) ≤ x5) → (T2 (I a1 5) I L P)) ∧ ((¬ (I a1 5) ≤ x5) → (((shp sh a0).1 = 4) ∧ (((shp sh (P a0 0)).1 = 20) ∧ ((((nI (shp sh (P a0 0)).2) ≤ ((2 * x5) + 1)) → (T2 (I a1 5) I L P)) ∧ ((¬ (nI (shp sh (P a0 0)).2) ≤ ((2 * x5) + 1)) → (Sq d mX4_split sh [.ref a0, .ref a1, .int x5] I L P (KV fun I6 L7 P8 => T1 (x5 + 1) I6 L7 P8))))))))
set_option maxRecDepth 100000 in
set_option maxHeartbeats 4000000 in
theorem rg_X4_lay_1 {X : qCT} {d : Nat} {sh : List qSh} {K : Option Value → qMI → qML → qMP → Prop} {T1 : Int32 → qMI → qML → qMP → Prop} {T2 : Int32 → qMI → qML → qMP → Prop} {a0 : Nat} {a1 : Nat} {l2 : Int64} {a4 : Nat} {x5 : Int32} {I : qMI} {L : qML} {P : qMP} (C : qCB X RX4 cX4_lay 6 (d + 1) 0 0) (hk : qCK X (none) 0 0 (fun v sh' I' L' P' => sh' = sh ∧ K v I' L' P')) (hT1 : ∀ (x5 : Int32) (I : qMI) (L : qML) (P : qMP), T1 x5 I L P → qG X 20 [some (.ref a0), some (.ref a1), some (.long l2), none, some (.ref a4), some (.int x5)] [] sh I L P 0 0) (hT2 : ∀ (x5 : Int32) (I : qMI) (L : qML) (P : qMP), T2 x5 I L P → qG X 62 [some (.ref a0), some (.ref a1), some (.long l2), none, some (.ref a4), some (.int x5)] [] sh I L P 0 0) (h : vc_X4_lay_1 d sh K T1 T2 a0 a1 l2 a4 x5 I L P) : qG X 20 [some (.ref a0), some (.ref a1), some (.long l2), none, some (.ref a4), some (.int x5)] [] sh I L P 0 0 := by
  unfold vc_X4_lay_1 at h
  refine q_iload C dX4_lay_20 rfl ?_
  refine q_aload_n C dX4_lay_22 rfl ?_
  have s1 := h.1
  replace h := h.2
  refine q_getI C fl_RX4_25 rfl s1 dX4_lay_23 ?_
  refine q_icmp_ge (tgt := 56) C dX4_lay_26 (by decide) (fun c2 => ?_) (fun c2 => ?_)
  · replace h := h.1 c2
    refine q_aload_n C dX4_lay_56 rfl ?_
    refine q_getI C fl_RX4_25 rfl s1 dX4_lay_57 ?_
    refine q_istore (lo1 := [some (.ref a0), some (.ref a1), some (.long l2), none, some (.ref a4), some (.int (I a1 5))]) C dX4_lay_60 (by decide) rfl ?_
    exact hT2 _ _ _ _ h
  · replace h := h.2 c2
    refine q_iconst (v := 2) C dX4_lay_29 (by decide) ?_
    refine q_iload C dX4_lay_30 rfl ?_
    refine q_imul C dX4_lay_32 ?_
    refine q_iconst (v := 1) C dX4_lay_33 (by decide) ?_
    refine q_iadd C dX4_lay_34 ?_
    refine q_aload_n C dX4_lay_35 rfl ?_
    have s3 := h.1
    replace h := h.2
    refine q_getP C fl_RX4_9 rfl s3 dX4_lay_36 ?_
    have s4 := h.1
    replace h := h.2
    refine q_alen20 C s4 dX4_lay_39 ?_
    refine q_icmp_ge (tgt := 56) C dX4_lay_40 (by decide) (fun c5 => ?_) (fun c5 => ?_)
    · replace h := h.1 c5
      refine q_aload_n C dX4_lay_56 rfl ?_
      refine q_getI C fl_RX4_25 rfl s1 dX4_lay_57 ?_
      refine q_istore (lo1 := [some (.ref a0), some (.ref a1), some (.long l2), none, some (.ref a4), some (.int (I a1 5))]) C dX4_lay_60 (by decide) rfl ?_
      exact hT2 _ _ _ _ h
    · replace h := h.2 c5
      refine q_aload_n C dX4_lay_43 rfl ?_
      refine q_aload_n C dX4_lay_44 rfl ?_
      refine q_iload C dX4_lay_45 rfl ?_
      refine q_cVv (as := [.ref a1, .int x5]) (st := []) (r := a0) C mv_X4_split ml_RX4_28 dX4_lay_47 rfl s3 rfl (Nat.le_of_ble_eq_true rfl) ⟨Nat.le_refl _, Nat.le_refl _⟩ h (fun I6 L7 P8 h => ?_)
      refine q_iinc (w := 1) (lo1 := [some (.ref a0), some (.ref a1), some (.long l2), none, some (.ref a4), some (.int (x5 + 1))]) C dX4_lay_50 rfl (by decide) (by decide) rfl ?_
      refine q_goto (tgt := 20) C dX4_lay_53 (by decide) ?_
      exact hT1 _ _ _ _ h
def vc_X4_lay_2 (d : Nat) (sh : List qSh) (K : Option Value → qMI → qML → qMP → Prop) (T1 : Int32 → qMI → qML → qMP → Prop) (T2 : Int32 → qMI → qML → qMP → Prop) (a0 : Nat) (a1 : Nat) (l2 : Int64) (a4 : Nat) (x5 : Int32) (I : qMI) (L : qML) (P : qMP) : Prop :=
  ((shp sh a1).1 = 0) ∧ ((((2 * (I a1 5)) ≤ x5) → (K none I L P)) ∧ ((¬ (2 * (I a1 5)) ≤ x5) → (((shp sh a4).1 = 20) ∧ ((((nI (shp sh a4).2) ≤ x5) → (K none I L P)) ∧ ((¬ (nI (shp sh a4).2) ≤ x5) → (((shp sh a0).1 = 4) ∧ (((shp sh (P a0 0)).1 = 20) ∧ ((((nI (shp sh (P a0 0)).2) ≤ x5) → (K none I L P)) ∧ ((¬ (nI (shp sh (P a0 0)).2) ≤ x5) → ((vp_in x5 (shp sh (P a0 0)).2) ∧ (((¬ (I (P a0 0) (Int32.toNatClampNeg x5)) = 0) → (Sq d mJ6_bitCount_0f7a4 sh [.int ((I (P a0 0) (Int32.toNatClampNeg x5)) - 1)] I L P (KI fun r10 I11 L12 P13 => (vp_in x5 (shp sh a4).2) ∧ (∀ I15 : qMI, I15 = uI I11 a4 (Int32.toNatClampNeg x5) r10 → (T2 (x5 + 1) I15 L12 P13))))) ∧ (((I (P a0 0) (Int32.toNatClampNeg x5)) = 0) → ((vp_in x5 (shp sh a4).2) ∧ (∀ I17 : qMI, I17 = uI I a4 (Int32.toNatClampNeg x5) 10 → (T2 (x5 + 1) I17 L P)))))))))))))))
set_option maxRecDepth 100000 in
set_option maxHeartbeats 4000000 in
theorem rg_X4_lay_2 {X : qCT} {d : Nat} {sh : List qSh} {K : Option Value → qMI → qML → qMP → Prop} {T1 : Int32 → qMI → qML → qMP → Prop} {T2 : Int32 → qMI → qML → qMP → Prop} {a0 : Nat} {a1 : Nat} {l2 : Int64} {a4 : Nat} {x5 : Int32} {I : qMI} {L : qML} {P : qMP} (C : qCB X RX4 cX4_lay 6 (d + 1) 0 0) (hk : qCK X (none) 0 0 (fun v sh' I' L' P' => sh' = sh ∧ K v I' L' P')) (hT1 : ∀ (x5 : Int32) (I : qMI) (L : qML) (P : qMP), T1 x5 I L P → qG X 20 [some (.ref a0), some (.ref a1), some (.long l2), none, some (.ref a4), some (.int x5)] [] sh I L P 0 0) (hT2 : ∀ (x5 : Int32) (I : qMI) (L : qML) (P : qMP), T2 x5 I L P → qG X 62 [some (.ref a0), some (.ref a1), some (.long l2), none, some (.ref a4), some (.int x5)] [] sh I L P 0 0) (h : vc_X4_lay_2 d sh K T1 T2 a0 a1 l2 a4 x5 I L P) : qG X 62 [some (.ref a0), some (.ref a1), some (.long l2), none, some (.ref a4), some (.int x5)] [] sh I L P 0 0 := by
  unfold vc_X4_lay_2 at h
  refine q_iload C dX4_lay_62 rfl ?_
  refine q_iconst (v := 2) C dX4_lay_64 (by decide) ?_
  refine q_aload_n C dX4_lay_65 rfl ?_
  have s1 := h.1
  replace h := h.2
  refine q_getI C fl_RX4_25 rfl s1 dX4_lay_66 ?_
  refine q_imul C dX4_lay_69 ?_
  refine q_icmp_ge (tgt := 129) C dX4_lay_70 (by decide) (fun c2 => ?_) (fun c2 => ?_)
  · replace h := h.1 c2
    exact q_vret C hk dX4_lay_129 ⟨rfl, h⟩
  · replace h := h.2 c2
    refine q_iload C dX4_lay_73 rfl ?_
    refine q_aload C dX4_lay_75 rfl ?_
    have s3 := h.1
    replace h := h.2
    refine q_alen20 C s3 dX4_lay_77 ?_
    refine q_icmp_ge (tgt := 129) C dX4_lay_78 (by decide) (fun c4 => ?_) (fun c4 => ?_)
    · replace h := h.1 c4
      exact q_vret C hk dX4_lay_129 ⟨rfl, h⟩
    · replace h := h.2 c4
      refine q_iload C dX4_lay_81 rfl ?_
      refine q_aload_n C dX4_lay_83 rfl ?_
      have s5 := h.1
      replace h := h.2
      refine q_getP C fl_RX4_9 rfl s5 dX4_lay_84 ?_
      have s6 := h.1
      replace h := h.2
      refine q_alen20 C s6 dX4_lay_87 ?_
      refine q_icmp_ge (tgt := 129) C dX4_lay_88 (by decide) (fun c7 => ?_) (fun c7 => ?_)
      · replace h := h.1 c7
        exact q_vret C hk dX4_lay_129 ⟨rfl, h⟩
      · replace h := h.2 c7
        refine q_aload C dX4_lay_91 rfl ?_
        refine q_iload C dX4_lay_93 rfl ?_
        refine q_aload_n C dX4_lay_95 rfl ?_
        refine q_getP C fl_RX4_9 rfl s5 dX4_lay_96 ?_
        refine q_iload C dX4_lay_99 rfl ?_
        have s8 := h.1
        replace h := h.2
        refine q_iald C s6 s8 dX4_lay_101 ?_
        refine q_if_ne (tgt := 110) C dX4_lay_102 (by decide) (fun c9 => ?_) (fun c9 => ?_)
        · replace h := h.1 c9
          refine q_aload_n C dX4_lay_110 rfl ?_
          refine q_getP C fl_RX4_9 rfl s5 dX4_lay_111 ?_
          refine q_iload C dX4_lay_114 rfl ?_
          refine q_iald C s6 s8 dX4_lay_116 ?_
          refine q_iconst (v := 1) C dX4_lay_117 (by decide) ?_
          refine q_isub C dX4_lay_118 ?_
          refine q_cSi (as := [.int ((I (P a0 0) (Int32.toNatClampNeg x5)) - 1)]) (st := [.int x5, .ref a4]) C ms_J6_bitCount_0f7a4 ml_RX4_32 dX4_lay_119 rfl rfl (Nat.le_of_ble_eq_true rfl) ⟨Nat.le_refl _, Nat.le_refl _⟩ h (fun r10 I11 L12 P13 h => ?_)
          have s14 := h.1
          replace h := h.2
          refine q_iast C s3 s14 dX4_lay_122 (fun I15 eI15 => ?_)
          replace h := h I15 eI15
          refine q_iinc (w := 1) (lo1 := [some (.ref a0), some (.ref a1), some (.long l2), none, some (.ref a4), some (.int (x5 + 1))]) C dX4_lay_123 rfl (by decide) (by decide) rfl ?_
          refine q_goto (tgt := 62) C dX4_lay_126 (by decide) ?_
          exact hT2 _ _ _ _ h
        · replace h := h.2 c9
          refine q_bipush (v := 10) C dX4_lay_105 (by decide) ?_
          refine q_goto (tgt := 122) C dX4_lay_107 (by decide) ?_
          have s16 := h.1
          replace h := h.2
          refine q_iast C s3 s16 dX4_lay_122 (fun I17 eI17 => ?_)
          replace h := h I17 eI17
          refine q_iinc (w := 1) (lo1 := [some (.ref a0), some (.ref a1), some (.long l2), none, some (.ref a4), some (.int (x5 + 1))]) C dX4_lay_123 rfl (by decide) (by decide) rfl ?_
          refine q_goto (tgt := 62) C dX4_lay_126 (by decide) ?_
          exact hT2 _ _ _ _ h
theorem sp_X4_lay {d : Nat} {sh : List qSh} {K : Option Value → qMI → qML → qMP → Prop} {a0 : Nat} {a1 : Nat} {l2 : Int64} {a4 : Nat} {I : qMI} {L : qML} {P : qMP} (T1 : Int32 → qMI → qML → qMP → Prop) (m1 : Int32 → qMI → qML → qMP → Nat) (T2 : Int32 → qMI → qML → qMP → Prop) (m2 : Int32 → qMI → qML → qMP → Nat) (h0 : vc_X4_lay_0 d sh K T1 T2 a0 a1 l2 a4 I L P)
    (h1 : ∀ (x5 : Int32) (I : qMI) (L : qML) (P : qMP), T1 x5 I L P → vc_X4_lay_1 d sh K (fun w0 I' L' P' => T1 w0 I' L' P' ∧ m1 w0 I' L' P' < m1 x5 I L P) (fun w0 I' L' P' => T2 w0 I' L' P' ∧ m2 w0 I' L' P' < m1 x5 I L P) a0 a1 l2 a4 x5 I L P)
    (h2 : ∀ (x5 : Int32) (I : qMI) (L : qML) (P : qMP), T2 x5 I L P → vc_X4_lay_2 d sh K (fun w0 I' L' P' => T1 w0 I' L' P' ∧ m1 w0 I' L' P' < m2 x5 I L P) (fun w0 I' L' P' => T2 w0 I' L' P' ∧ m2 w0 I' L' P' < m2 x5 I L P) a0 a1 l2 a4 x5 I L P) : Sq (d + 1) mX4_lay sh [.ref a0, .ref a1, .long l2, .ref a4] I L P K := by
  refine Sq_of (by decide +kernel) (Nat.le_of_ble_eq_true rfl) (fun X C hk hn => ?_)
  have go : ∀ N : Nat, (∀ (x5 : Int32) (I : qMI) (L : qML) (P : qMP), T1 x5 I L P → m1 x5 I L P < N → qG X 20 [some (.ref a0), some (.ref a1), some (.long l2), none, some (.ref a4), some (.int x5)] [] sh I L P 0 0) ∧ (∀ (x5 : Int32) (I : qMI) (L : qML) (P : qMP), T2 x5 I L P → m2 x5 I L P < N → qG X 62 [some (.ref a0), some (.ref a1), some (.long l2), none, some (.ref a4), some (.int x5)] [] sh I L P 0 0) := by
    intro N
    induction N with
    | zero => exact ⟨fun _ _ _ _ _ q => absurd q (Nat.not_lt_zero _), fun _ _ _ _ _ q => absurd q (Nat.not_lt_zero _)⟩
    | succ N ih =>
      exact ⟨fun b0 I1 L1 P1 t q => rg_X4_lay_1 C hk (fun z0 I2 L2 P2 z => ih.1 z0 I2 L2 P2 z.1 (Nat.lt_of_lt_of_le z.2 (Nat.le_of_lt_succ q))) (fun z0 I2 L2 P2 z => ih.2 z0 I2 L2 P2 z.1 (Nat.lt_of_lt_of_le z.2 (Nat.le_of_lt_succ q))) (h1 b0 I1 L1 P1 t), fun b0 I1 L1 P1 t q => rg_X4_lay_2 C hk (fun z0 I2 L2 P2 z => ih.1 z0 I2 L2 P2 z.1 (Nat.lt_of_lt_of_le z.2 (Nat.le_of_lt_succ q))) (fun z0 I2 L2 P2 z => ih.2 z0 I2 L2 P2 z.1 (Nat.lt_of_lt_of_le z.2 (Nat.le_of_lt_succ q))) (h2 b0 I1 L1 P1 t)⟩
  exact rg_X4_lay_0 C hk (fun b0 I1 L1 P1 t => (go (m1 b0 I1 L1 P1 + 1)).1 b0 I1 L1 P1 t (Nat.lt_succ_self _)) (fun b0 I1 L1 P1 t => (go (m2 b0 I1 L1 P1 + 1)).2 b0 I1 L1 P1 t (Nat.lt_succ_self _)) h0
/-! BracketDraws$Numbering.split(LBracketDraws$Counter;I)V -/
def vc_X4_split_0 (d : Nat) (sh : List qSh) (K : Option Value → qMI → qML → qMP → Prop) (T1 : Int32 → Int32 → Int32 → Int64 → Int32 → qMI → qML → qMP → Prop) (a0 : Nat) (a1 : Nat) (x2 : Int32) (I : qMI) (L : qML) (P : qMP) : Prop :=
  ((shp sh a0).1 = 4) ∧ (((shp sh (P a0 0)).1 = 20) ∧ ((vp_in x2 (shp sh (P a0 0)).2) ∧ (Sq d mJ6_bitCount_0f7a4 sh [.int (I (P a0 0) (Int32.toNatClampNeg x2))] I L P (KI fun r4 I5 L6 P7 => ((shp sh (P7 a0 1)).1 = 21) ∧ ((vp_in x2 (shp sh (P7 a0 1)).2) ∧ (T1 (I (P a0 0) (Int32.toNatClampNeg x2)) ((1 : Int32) <<< (r4 &&& 31)) 0 (L6 (P7 a0 1) (Int32.toNatClampNeg x2)) 0 I5 L6 P7))))))
set_option maxRecDepth 100000 in
set_option maxHeartbeats 4000000 in
theorem rg_X4_split_0 {X : qCT} {d : Nat} {sh : List qSh} {K : Option Value → qMI → qML → qMP → Prop} {T1 : Int32 → Int32 → Int32 → Int64 → Int32 → qMI → qML → qMP → Prop} {a0 : Nat} {a1 : Nat} {x2 : Int32} {I : qMI} {L : qML} {P : qMP} (C : qCB X RX4 cX4_split 13 (d + 1) 0 0) (hk : qCK X (none) 0 0 (fun v sh' I' L' P' => sh' = sh ∧ K v I' L' P')) (hT1 : ∀ (x3 : Int32) (x4 : Int32) (x5 : Int32) (l6 : Int64) (x8 : Int32) (I : qMI) (L : qML) (P : qMP), T1 x3 x4 x5 l6 x8 I L P → qG X 29 [some (.ref a0), some (.ref a1), some (.int x2), some (.int x3), some (.int x4), some (.int x5), some (.long l6), none, some (.int x8), none, none, none, none] [] sh I L P 0 0) (h : vc_X4_split_0 d sh K T1 a0 a1 x2 I L P) : qG X 0 [some (.ref a0), some (.ref a1), some (.int x2), none, none, none, none, none, none, none, none, none, none] [] sh I L P 0 0 := by
  unfold vc_X4_split_0 at h
  refine q_aload_n C dX4_split_0 rfl ?_
  have s1 := h.1
  replace h := h.2
  refine q_getP C fl_RX4_9 rfl s1 dX4_split_1 ?_
  refine q_iload_n C dX4_split_4 rfl ?_
  have s2 := h.1
  replace h := h.2
  have s3 := h.1
  replace h := h.2
  refine q_iald C s2 s3 dX4_split_5 ?_
  refine q_istore_n (lo1 := [some (.ref a0), some (.ref a1), some (.int x2), some (.int (I (P a0 0) (Int32.toNatClampNeg x2))), none, none, none, none, none, none, none, none, none]) C dX4_split_6 (by decide) rfl ?_
  refine q_iconst (v := 1) C dX4_split_7 (by decide) ?_
  refine q_iload_n C dX4_split_8 rfl ?_
  refine q_cSi (as := [.int (I (P a0 0) (Int32.toNatClampNeg x2))]) (st := [.int 1]) C ms_J6_bitCount_0f7a4 ml_RX4_32 dX4_split_9 rfl rfl (Nat.le_of_ble_eq_true rfl) ⟨Nat.le_refl _, Nat.le_refl _⟩ h (fun r4 I5 L6 P7 h => ?_)
  refine q_ishl C dX4_split_12 ?_
  refine q_istore (lo1 := [some (.ref a0), some (.ref a1), some (.int x2), some (.int (I (P a0 0) (Int32.toNatClampNeg x2))), some (.int ((1 : Int32) <<< (r4 &&& 31))), none, none, none, none, none, none, none, none]) C dX4_split_13 (by decide) rfl ?_
  refine q_iconst (v := 0) C dX4_split_15 (by decide) ?_
  refine q_istore (lo1 := [some (.ref a0), some (.ref a1), some (.int x2), some (.int (I (P a0 0) (Int32.toNatClampNeg x2))), some (.int ((1 : Int32) <<< (r4 &&& 31))), some (.int 0), none, none, none, none, none, none, none]) C dX4_split_16 (by decide) rfl ?_
  refine q_aload_n C dX4_split_18 rfl ?_
  refine q_getP C fl_RX4_15 rfl s1 dX4_split_19 ?_
  refine q_iload_n C dX4_split_22 rfl ?_
  have s8 := h.1
  replace h := h.2
  have s9 := h.1
  replace h := h.2
  refine q_lald C s8 s9 dX4_split_23 ?_
  refine q_lstore (lo1 := [some (.ref a0), some (.ref a1), some (.int x2), some (.int (I (P a0 0) (Int32.toNatClampNeg x2))), some (.int ((1 : Int32) <<< (r4 &&& 31))), some (.int 0), some (.long (L6 (P7 a0 1) (Int32.toNatClampNeg x2))), none, none, none, none, none, none]) C dX4_split_24 (by decide) rfl ?_
  refine q_iconst (v := 0) C dX4_split_26 (by decide) ?_
  refine q_istore (lo1 := [some (.ref a0), some (.ref a1), some (.int x2), some (.int (I (P a0 0) (Int32.toNatClampNeg x2))), some (.int ((1 : Int32) <<< (r4 &&& 31))), some (.int 0), some (.long (L6 (P7 a0 1) (Int32.toNatClampNeg x2))), none, some (.int 0), none, none, none, none]) C dX4_split_27 (by decide) rfl ?_
  exact hT1 _ _ _ _ _ _ _ _ h
def vc_X4_split_1 (d : Nat) (sh : List qSh) (K : Option Value → qMI → qML → qMP → Prop) (T1 : Int32 → Int32 → Int32 → Int64 → Int32 → qMI → qML → qMP → Prop) (a0 : Nat) (a1 : Nat) (x2 : Int32) (x3 : Int32) (x4 : Int32) (x5 : Int32) (l6 : Int64) (x8 : Int32) (I : qMI) (L : qML) (P : qMP) : Prop :=
  ((x4 ≤ x8) → (K none I L P)) ∧ ((¬ x4 ≤ x8) → (((shp sh a1).1 = 0) ∧ (Sq d mX0_waysOf sh [.ref a1, .int ((2 * x2) + 1), .int (x3 ^^^ x5)] I L P (KL fun r3 I4 L5 P6 => ((¬ r3 = 0) → (Sq d mX0_waysOf sh [.ref a1, .int (2 * x2), .int x5] I4 L5 P6 (KL fun r8 I9 L10 P11 => ((r3 ≤ 0) → (T1 x3 x4 ((x5 - x3) &&& x3) (l6 - (r3 * r8)) (x8 + 1) I9 L10 P11)) ∧ ((¬ r3 ≤ 0) → ((((r3 * r8) ≤ l6) → (T1 x3 x4 ((x5 - x3) &&& x3) (l6 - (r3 * r8)) (x8 + 1) I9 L10 P11)) ∧ ((¬ (r3 * r8) ≤ l6) → (((shp sh a0).1 = 4) ∧ (((shp sh (P11 a0 0)).1 = 20) ∧ ((vp_in (2 * x2) (shp sh (P11 a0 0)).2) ∧ (∀ I17 : qMI, I17 = uI I9 (P11 a0 0) (Int32.toNatClampNeg (2 * x2)) x5 → ((vp_in ((2 * x2) + 1) (shp sh (P11 a0 0)).2) ∧ (∀ I19 : qMI, I19 = uI I17 (P11 a0 0) (Int32.toNatClampNeg ((2 * x2) + 1)) (x3 ^^^ x5) → ((¬ r3 = 0) ∧ (((shp sh (P11 a0 1)).1 = 21) ∧ ((vp_in (2 * x2) (shp sh (P11 a0 1)).2) ∧ (∀ L23 : qML, L23 = uL L10 (P11 a0 1) (Int32.toNatClampNeg (2 * x2)) (l6 / r3) → ((vp_in ((2 * x2) + 1) (shp sh (P11 a0 1)).2) ∧ (∀ L25 : qML, L25 = uL L23 (P11 a0 1) (Int32.toNatClampNeg ((2 * x2) + 1)) (l6 - l6 / r3 * r3) → (K none I19 L25 P11))))))))))))))))))) ∧ ((r3 = 0) → (((r3 ≤ 0) → (T1 x3 x4 ((x5 - x3) &&& x3) (l6 - 0) (x8 + 1) I4 L5 P6)) ∧ ((¬ r3 ≤ 0) → (((0 ≤ l6) → (T1 x3 x4 ((x5 - x3) &&& x3) (l6 - 0) (x8 + 1) I4 L5 P6)) ∧ ((¬ 0 ≤ l6) → (((shp sh a0).1 = 4) ∧ (((shp sh (P6 a0 0)).1 = 20) ∧ ((vp_in (2 * x2) (shp sh (P6 a0 0)).2) ∧ (∀ I31 : qMI, I31 = uI I4 (P6 a0 0) (Int32.toNatClampNeg (2 * x2)) x5 → ((vp_in ((2 * x2) + 1) (shp sh (P6 a0 0)).2) ∧ (∀ I33 : qMI, I33 = uI I31 (P6 a0 0) (Int32.toNatClampNeg ((2 * x2) + 1)) (x3 ^^^ x5) → ((¬ r3 = 0) ∧ (((shp sh (P6 a0 1)).1 = 21) ∧ ((vp_in (2 * x2) (shp sh (P6 a0 1)).2) ∧ (∀ L37 : qML, L37 = uL L5 (P6 a0 1) (Int32.toNatClampNeg (2 * x2)) (l6 / r3) → ((vp_in ((2 * x2) + 1) (shp sh (P6 a0 1)).2) ∧ (∀ L39 : qML, L39 = uL L37 (P6 a0 1) (Int32.toNatClampNeg ((2 * x2) + 1)) (l6 - l6 / r3 * r3) → (K none I33 L39 P6))))))))))))))))))))))
set_option maxRecDepth 100000 in
set_option maxHeartbeats 4000000 in
theorem rg_X4_split_1 {X : qCT} {d : Nat} {sh : List qSh} {K : Option Value → qMI → qML → qMP → Prop} {T1 : Int32 → Int32 → Int32 → Int64 → Int32 → qMI → qML → qMP → Prop} {a0 : Nat} {a1 : Nat} {x2 : Int32} {x3 : Int32} {x4 : Int32} {x5 : Int32} {l6 : Int64} {x8 : Int32} {I : qMI} {L : qML} {P : qMP} (C : qCB X RX4 cX4_split 13 (d + 1) 0 0) (hk : qCK X (none) 0 0 (fun v sh' I' L' P' => sh' = sh ∧ K v I' L' P')) (hT1 : ∀ (x3 : Int32) (x4 : Int32) (x5 : Int32) (l6 : Int64) (x8 : Int32) (I : qMI) (L : qML) (P : qMP), T1 x3 x4 x5 l6 x8 I L P → qG X 29 [some (.ref a0), some (.ref a1), some (.int x2), some (.int x3), some (.int x4), some (.int x5), some (.long l6), none, some (.int x8), none, none, none, none] [] sh I L P 0 0) (h : vc_X4_split_1 d sh K T1 a0 a1 x2 x3 x4 x5 l6 x8 I L P) : qG X 29 [some (.ref a0), some (.ref a1), some (.int x2), some (.int x3), some (.int x4), some (.int x5), some (.long l6), none, some (.int x8), none, none, none, none] [] sh I L P 0 0 := by
  unfold vc_X4_split_1 at h
  refine q_iload C dX4_split_29 rfl ?_
  refine q_iload C dX4_split_31 rfl ?_
  refine q_icmp_ge (tgt := 165) C dX4_split_33 (by decide) (fun c1 => ?_) (fun c1 => ?_)
  · replace h := h.1 c1
    exact q_vret C hk dX4_split_165 ⟨rfl, h⟩
  · replace h := h.2 c1
    refine q_aload_n C dX4_split_36 rfl ?_
    refine q_iconst (v := 2) C dX4_split_37 (by decide) ?_
    refine q_iload_n C dX4_split_38 rfl ?_
    refine q_imul C dX4_split_39 ?_
    refine q_iconst (v := 1) C dX4_split_40 (by decide) ?_
    refine q_iadd C dX4_split_41 ?_
    refine q_iload_n C dX4_split_42 rfl ?_
    refine q_iload C dX4_split_43 rfl ?_
    refine q_ixor C dX4_split_45 ?_
    have s2 := h.1
    replace h := h.2
    refine q_cVl (as := [.int ((2 * x2) + 1), .int (x3 ^^^ x5)]) (st := []) (r := a1) C mv_X0_waysOf ml_RX4_38 dX4_split_46 rfl s2 rfl (Nat.le_of_ble_eq_true rfl) ⟨Nat.le_refl _, Nat.le_refl _⟩ h (fun r3 I4 L5 P6 h => ?_)
    refine q_lstore (lo1 := [some (.ref a0), some (.ref a1), some (.int x2), some (.int x3), some (.int x4), some (.int x5), some (.long l6), none, some (.int x8), some (.long r3), none, none, none]) C dX4_split_49 (by decide) rfl ?_
    refine q_lload C dX4_split_51 rfl ?_
    refine q_lconst (v := 0) C dX4_split_53 (by decide) ?_
    refine q_lcmp_ne (tgt := 62) C dX4_split_54 dX4_split_55 (by decide) (fun c7 => ?_) (fun c7 => ?_)
    · replace h := h.1 c7
      refine q_lload C dX4_split_62 rfl ?_
      refine q_aload_n C dX4_split_64 rfl ?_
      refine q_iconst (v := 2) C dX4_split_65 (by decide) ?_
      refine q_iload_n C dX4_split_66 rfl ?_
      refine q_imul C dX4_split_67 ?_
      refine q_iload C dX4_split_68 rfl ?_
      refine q_cVl (as := [.int (2 * x2), .int x5]) (st := [.long r3]) (r := a1) C mv_X0_waysOf ml_RX4_38 dX4_split_70 rfl s2 rfl (Nat.le_of_ble_eq_true rfl) ⟨Nat.le_refl _, Nat.le_refl _⟩ h (fun r8 I9 L10 P11 h => ?_)
      refine q_lmul C dX4_split_73 ?_
      refine q_lstore (lo1 := [some (.ref a0), some (.ref a1), some (.int x2), some (.int x3), some (.int x4), some (.int x5), some (.long l6), none, some (.int x8), some (.long r3), none, some (.long (r3 * r8)), none]) C dX4_split_74 (by decide) rfl ?_
      refine q_lload C dX4_split_76 rfl ?_
      refine q_lconst (v := 0) C dX4_split_78 (by decide) ?_
      refine q_lcmp_le (tgt := 144) C dX4_split_79 dX4_split_80 (by decide) (fun c12 => ?_) (fun c12 => ?_)
      · replace h := h.1 c12
        refine q_lload C dX4_split_144 rfl ?_
        refine q_lload C dX4_split_146 rfl ?_
        refine q_lsub C dX4_split_148 ?_
        refine q_lstore (lo1 := [some (.ref a0), some (.ref a1), some (.int x2), some (.int x3), some (.int x4), some (.int x5), some (.long (l6 - (r3 * r8))), none, some (.int x8), some (.long r3), none, some (.long (r3 * r8)), none]) C dX4_split_149 (by decide) rfl ?_
        refine q_iload C dX4_split_151 rfl ?_
        refine q_iload_n C dX4_split_153 rfl ?_
        refine q_isub C dX4_split_154 ?_
        refine q_iload_n C dX4_split_155 rfl ?_
        refine q_iand C dX4_split_156 ?_
        refine q_istore (lo1 := [some (.ref a0), some (.ref a1), some (.int x2), some (.int x3), some (.int x4), some (.int ((x5 - x3) &&& x3)), some (.long (l6 - (r3 * r8))), none, some (.int x8), some (.long r3), none, some (.long (r3 * r8)), none]) C dX4_split_157 (by decide) rfl ?_
        refine q_iinc (w := 1) (lo1 := [some (.ref a0), some (.ref a1), some (.int x2), some (.int x3), some (.int x4), some (.int ((x5 - x3) &&& x3)), some (.long (l6 - (r3 * r8))), none, some (.int (x8 + 1)), some (.long r3), none, some (.long (r3 * r8)), none]) C dX4_split_159 rfl (by decide) (by decide) rfl ?_
        refine q_goto (tgt := 29) C dX4_split_162 (by decide) ?_
        refine q_kill 9 (lo1 := [some (.ref a0), some (.ref a1), some (.int x2), some (.int x3), some (.int x4), some (.int ((x5 - x3) &&& x3)), some (.long (l6 - (r3 * r8))), none, some (.int (x8 + 1)), none, none, some (.long (r3 * r8)), none]) rfl ?_
        refine q_kill 11 (lo1 := [some (.ref a0), some (.ref a1), some (.int x2), some (.int x3), some (.int x4), some (.int ((x5 - x3) &&& x3)), some (.long (l6 - (r3 * r8))), none, some (.int (x8 + 1)), none, none, none, none]) rfl ?_
        exact hT1 _ _ _ _ _ _ _ _ h
      · replace h := h.2 c12
        refine q_lload C dX4_split_83 rfl ?_
        refine q_lload C dX4_split_85 rfl ?_
        refine q_lcmp_ge (tgt := 144) C dX4_split_87 dX4_split_88 (by decide) (fun c13 => ?_) (fun c13 => ?_)
        · replace h := h.1 c13
          refine q_lload C dX4_split_144 rfl ?_
          refine q_lload C dX4_split_146 rfl ?_
          refine q_lsub C dX4_split_148 ?_
          refine q_lstore (lo1 := [some (.ref a0), some (.ref a1), some (.int x2), some (.int x3), some (.int x4), some (.int x5), some (.long (l6 - (r3 * r8))), none, some (.int x8), some (.long r3), none, some (.long (r3 * r8)), none]) C dX4_split_149 (by decide) rfl ?_
          refine q_iload C dX4_split_151 rfl ?_
          refine q_iload_n C dX4_split_153 rfl ?_
          refine q_isub C dX4_split_154 ?_
          refine q_iload_n C dX4_split_155 rfl ?_
          refine q_iand C dX4_split_156 ?_
          refine q_istore (lo1 := [some (.ref a0), some (.ref a1), some (.int x2), some (.int x3), some (.int x4), some (.int ((x5 - x3) &&& x3)), some (.long (l6 - (r3 * r8))), none, some (.int x8), some (.long r3), none, some (.long (r3 * r8)), none]) C dX4_split_157 (by decide) rfl ?_
          refine q_iinc (w := 1) (lo1 := [some (.ref a0), some (.ref a1), some (.int x2), some (.int x3), some (.int x4), some (.int ((x5 - x3) &&& x3)), some (.long (l6 - (r3 * r8))), none, some (.int (x8 + 1)), some (.long r3), none, some (.long (r3 * r8)), none]) C dX4_split_159 rfl (by decide) (by decide) rfl ?_
          refine q_goto (tgt := 29) C dX4_split_162 (by decide) ?_
          refine q_kill 9 (lo1 := [some (.ref a0), some (.ref a1), some (.int x2), some (.int x3), some (.int x4), some (.int ((x5 - x3) &&& x3)), some (.long (l6 - (r3 * r8))), none, some (.int (x8 + 1)), none, none, some (.long (r3 * r8)), none]) rfl ?_
          refine q_kill 11 (lo1 := [some (.ref a0), some (.ref a1), some (.int x2), some (.int x3), some (.int x4), some (.int ((x5 - x3) &&& x3)), some (.long (l6 - (r3 * r8))), none, some (.int (x8 + 1)), none, none, none, none]) rfl ?_
          exact hT1 _ _ _ _ _ _ _ _ h
        · replace h := h.2 c13
          refine q_aload_n C dX4_split_91 rfl ?_
          have s14 := h.1
          replace h := h.2
          refine q_getP C fl_RX4_9 rfl s14 dX4_split_92 ?_
          refine q_iconst (v := 2) C dX4_split_95 (by decide) ?_
          refine q_iload_n C dX4_split_96 rfl ?_
          refine q_imul C dX4_split_97 ?_
          refine q_iload C dX4_split_98 rfl ?_
          have s15 := h.1
          replace h := h.2
          have s16 := h.1
          replace h := h.2
          refine q_iast C s15 s16 dX4_split_100 (fun I17 eI17 => ?_)
          replace h := h I17 eI17
          refine q_aload_n C dX4_split_101 rfl ?_
          refine q_getP C fl_RX4_9 rfl s14 dX4_split_102 ?_
          refine q_iconst (v := 2) C dX4_split_105 (by decide) ?_
          refine q_iload_n C dX4_split_106 rfl ?_
          refine q_imul C dX4_split_107 ?_
          refine q_iconst (v := 1) C dX4_split_108 (by decide) ?_
          refine q_iadd C dX4_split_109 ?_
          refine q_iload_n C dX4_split_110 rfl ?_
          refine q_iload C dX4_split_111 rfl ?_
          refine q_ixor C dX4_split_113 ?_
          have s18 := h.1
          replace h := h.2
          refine q_iast C s15 s18 dX4_split_114 (fun I19 eI19 => ?_)
          replace h := h I19 eI19
          refine q_aload_n C dX4_split_115 rfl ?_
          refine q_getP C fl_RX4_15 rfl s14 dX4_split_116 ?_
          refine q_iconst (v := 2) C dX4_split_119 (by decide) ?_
          refine q_iload_n C dX4_split_120 rfl ?_
          refine q_imul C dX4_split_121 ?_
          refine q_lload C dX4_split_122 rfl ?_
          refine q_lload C dX4_split_124 rfl ?_
          have s20 := h.1
          replace h := h.2
          refine q_ldiv C dX4_split_126 s20 ?_
          have s21 := h.1
          replace h := h.2
          have s22 := h.1
          replace h := h.2
          refine q_last C s21 s22 dX4_split_127 (fun L23 eL23 => ?_)
          replace h := h L23 eL23
          refine q_aload_n C dX4_split_128 rfl ?_
          refine q_getP C fl_RX4_15 rfl s14 dX4_split_129 ?_
          refine q_iconst (v := 2) C dX4_split_132 (by decide) ?_
          refine q_iload_n C dX4_split_133 rfl ?_
          refine q_imul C dX4_split_134 ?_
          refine q_iconst (v := 1) C dX4_split_135 (by decide) ?_
          refine q_iadd C dX4_split_136 ?_
          refine q_lload C dX4_split_137 rfl ?_
          refine q_lload C dX4_split_139 rfl ?_
          refine q_lrem C dX4_split_141 s20 ?_
          have s24 := h.1
          replace h := h.2
          refine q_last C s21 s24 dX4_split_142 (fun L25 eL25 => ?_)
          replace h := h L25 eL25
          exact q_vret C hk dX4_split_143 ⟨rfl, h⟩
    · replace h := h.2 c7
      refine q_lconst (v := 0) C dX4_split_58 (by decide) ?_
      refine q_goto (tgt := 74) C dX4_split_59 (by decide) ?_
      refine q_lstore (lo1 := [some (.ref a0), some (.ref a1), some (.int x2), some (.int x3), some (.int x4), some (.int x5), some (.long l6), none, some (.int x8), some (.long r3), none, some (.long 0), none]) C dX4_split_74 (by decide) rfl ?_
      refine q_lload C dX4_split_76 rfl ?_
      refine q_lconst (v := 0) C dX4_split_78 (by decide) ?_
      refine q_lcmp_le (tgt := 144) C dX4_split_79 dX4_split_80 (by decide) (fun c26 => ?_) (fun c26 => ?_)
      · replace h := h.1 c26
        refine q_lload C dX4_split_144 rfl ?_
        refine q_lload C dX4_split_146 rfl ?_
        refine q_lsub C dX4_split_148 ?_
        refine q_lstore (lo1 := [some (.ref a0), some (.ref a1), some (.int x2), some (.int x3), some (.int x4), some (.int x5), some (.long (l6 - 0)), none, some (.int x8), some (.long r3), none, some (.long 0), none]) C dX4_split_149 (by decide) rfl ?_
        refine q_iload C dX4_split_151 rfl ?_
        refine q_iload_n C dX4_split_153 rfl ?_
        refine q_isub C dX4_split_154 ?_
        refine q_iload_n C dX4_split_155 rfl ?_
        refine q_iand C dX4_split_156 ?_
        refine q_istore (lo1 := [some (.ref a0), some (.ref a1), some (.int x2), some (.int x3), some (.int x4), some (.int ((x5 - x3) &&& x3)), some (.long (l6 - 0)), none, some (.int x8), some (.long r3), none, some (.long 0), none]) C dX4_split_157 (by decide) rfl ?_
        refine q_iinc (w := 1) (lo1 := [some (.ref a0), some (.ref a1), some (.int x2), some (.int x3), some (.int x4), some (.int ((x5 - x3) &&& x3)), some (.long (l6 - 0)), none, some (.int (x8 + 1)), some (.long r3), none, some (.long 0), none]) C dX4_split_159 rfl (by decide) (by decide) rfl ?_
        refine q_goto (tgt := 29) C dX4_split_162 (by decide) ?_
        refine q_kill 9 (lo1 := [some (.ref a0), some (.ref a1), some (.int x2), some (.int x3), some (.int x4), some (.int ((x5 - x3) &&& x3)), some (.long (l6 - 0)), none, some (.int (x8 + 1)), none, none, some (.long 0), none]) rfl ?_
        refine q_kill 11 (lo1 := [some (.ref a0), some (.ref a1), some (.int x2), some (.int x3), some (.int x4), some (.int ((x5 - x3) &&& x3)), some (.long (l6 - 0)), none, some (.int (x8 + 1)), none, none, none, none]) rfl ?_
        exact hT1 _ _ _ _ _ _ _ _ h
      · replace h := h.2 c26
        refine q_lload C dX4_split_83 rfl ?_
        refine q_lload C dX4_split_85 rfl ?_
        refine q_lcmp_ge (tgt := 144) C dX4_split_87 dX4_split_88 (by decide) (fun c27 => ?_) (fun c27 => ?_)
        · replace h := h.1 c27
          refine q_lload C dX4_split_144 rfl ?_
          refine q_lload C dX4_split_146 rfl ?_
          refine q_lsub C dX4_split_148 ?_
          refine q_lstore (lo1 := [some (.ref a0), some (.ref a1), some (.int x2), some (.int x3), some (.int x4), some (.int x5), some (.long (l6 - 0)), none, some (.int x8), some (.long r3), none, some (.long 0), none]) C dX4_split_149 (by decide) rfl ?_
          refine q_iload C dX4_split_151 rfl ?_
          refine q_iload_n C dX4_split_153 rfl ?_
          refine q_isub C dX4_split_154 ?_
          refine q_iload_n C dX4_split_155 rfl ?_
          refine q_iand C dX4_split_156 ?_
          refine q_istore (lo1 := [some (.ref a0), some (.ref a1), some (.int x2), some (.int x3), some (.int x4), some (.int ((x5 - x3) &&& x3)), some (.long (l6 - 0)), none, some (.int x8), some (.long r3), none, some (.long 0), none]) C dX4_split_157 (by decide) rfl ?_
          refine q_iinc (w := 1) (lo1 := [some (.ref a0), some (.ref a1), some (.int x2), some (.int x3), some (.int x4), some (.int ((x5 - x3) &&& x3)), some (.long (l6 - 0)), none, some (.int (x8 + 1)), some (.long r3), none, some (.long 0), none]) C dX4_split_159 rfl (by decide) (by decide) rfl ?_
          refine q_goto (tgt := 29) C dX4_split_162 (by decide) ?_
          refine q_kill 9 (lo1 := [some (.ref a0), some (.ref a1), some (.int x2), some (.int x3), some (.int x4), some (.int ((x5 - x3) &&& x3)), some (.long (l6 - 0)), none, some (.int (x8 + 1)), none, none, some (.long 0), none]) rfl ?_
          refine q_kill 11 (lo1 := [some (.ref a0), some (.ref a1), some (.int x2), some (.int x3), some (.int x4), some (.int ((x5 - x3) &&& x3)), some (.long (l6 - 0)), none, some (.int (x8 + 1)), none, none, none, none]) rfl ?_
          exact hT1 _ _ _ _ _ _ _ _ h
        · replace h := h.2 c27
          refine q_aload_n C dX4_split_91 rfl ?_
          have s28 := h.1
          replace h := h.2
          refine q_getP C fl_RX4_9 rfl s28 dX4_split_92 ?_
          refine q_iconst (v := 2) C dX4_split_95 (by decide) ?_
          refine q_iload_n C dX4_split_96 rfl ?_
          refine q_imul C dX4_split_97 ?_
          refine q_iload C dX4_split_98 rfl ?_
          have s29 := h.1
          replace h := h.2
          have s30 := h.1
          replace h := h.2
          refine q_iast C s29 s30 dX4_split_100 (fun I31 eI31 => ?_)
          replace h := h I31 eI31
          refine q_aload_n C dX4_split_101 rfl ?_
          refine q_getP C fl_RX4_9 rfl s28 dX4_split_102 ?_
          refine q_iconst (v := 2) C dX4_split_105 (by decide) ?_
          refine q_iload_n C dX4_split_106 rfl ?_
          refine q_imul C dX4_split_107 ?_
          refine q_iconst (v := 1) C dX4_split_108 (by decide) ?_
          refine q_iadd C dX4_split_109 ?_
          refine q_iload_n C dX4_split_110 rfl ?_
          refine q_iload C dX4_split_111 rfl ?_
          refine q_ixor C dX4_split_113 ?_
          have s32 := h.1
          replace h := h.2
          refine q_iast C s29 s32 dX4_split_114 (fun I33 eI33 => ?_)
          replace h := h I33 eI33
          refine q_aload_n C dX4_split_115 rfl ?_
          refine q_getP C fl_RX4_15 rfl s28 dX4_split_116 ?_
          refine q_iconst (v := 2) C dX4_split_119 (by decide) ?_
          refine q_iload_n C dX4_split_120 rfl ?_
          refine q_imul C dX4_split_121 ?_
          refine q_lload C dX4_split_122 rfl ?_
          refine q_lload C dX4_split_124 rfl ?_
          have s34 := h.1
          replace h := h.2
          refine q_ldiv C dX4_split_126 s34 ?_
          have s35 := h.1
          replace h := h.2
          have s36 := h.1
          replace h := h.2
          refine q_last C s35 s36 dX4_split_127 (fun L37 eL37 => ?_)
          replace h := h L37 eL37
          refine q_aload_n C dX4_split_128 rfl ?_
          refine q_getP C fl_RX4_15 rfl s28 dX4_split_129 ?_
          refine q_iconst (v := 2) C dX4_split_132 (by decide) ?_
          refine q_iload_n C dX4_split_133 rfl ?_
          refine q_imul C dX4_split_134 ?_
          refine q_iconst (v := 1) C dX4_split_135 (by decide) ?_
          refine q_iadd C dX4_split_136 ?_
          refine q_lload C dX4_split_137 rfl ?_
          refine q_lload C dX4_split_139 rfl ?_
          refine q_lrem C dX4_split_141 s34 ?_
          have s38 := h.1
          replace h := h.2
          refine q_last C s35 s38 dX4_split_142 (fun L39 eL39 => ?_)
          replace h := h L39 eL39
          exact q_vret C hk dX4_split_143 ⟨rfl, h⟩
theorem sp_X4_split {d : Nat} {sh : List qSh} {K : Option Value → qMI → qML → qMP → Prop} {a0 : Nat} {a1 : Nat} {x2 : Int32} {I : qMI} {L : qML} {P : qMP} (T1 : Int32 → Int32 → Int32 → Int64 → Int32 → qMI → qML → qMP → Prop) (m1 : Int32 → Int32 → Int32 → Int64 → Int32 → qMI → qML → qMP → Nat) (h0 : vc_X4_split_0 d sh K T1 a0 a1 x2 I L P)
    (h1 : ∀ (x3 : Int32) (x4 : Int32) (x5 : Int32) (l6 : Int64) (x8 : Int32) (I : qMI) (L : qML) (P : qMP), T1 x3 x4 x5 l6 x8 I L P → vc_X4_split_1 d sh K (fun w0 w1 w2 w3 w4 I' L' P' => T1 w0 w1 w2 w3 w4 I' L' P' ∧ m1 w0 w1 w2 w3 w4 I' L' P' < m1 x3 x4 x5 l6 x8 I L P) a0 a1 x2 x3 x4 x5 l6 x8 I L P) : Sq (d + 1) mX4_split sh [.ref a0, .ref a1, .int x2] I L P K := by
  refine Sq_of (by decide +kernel) (Nat.le_of_ble_eq_true rfl) (fun X C hk hn => ?_)
  have go : ∀ N : Nat, (∀ (x3 : Int32) (x4 : Int32) (x5 : Int32) (l6 : Int64) (x8 : Int32) (I : qMI) (L : qML) (P : qMP), T1 x3 x4 x5 l6 x8 I L P → m1 x3 x4 x5 l6 x8 I L P < N → qG X 29 [some (.ref a0), some (.ref a1), some (.int x2), some (.int x3), some (.int x4), some (.int x5), some (.long l6), none, some (.int x8), none, none, none, none] [] sh I L P 0 0) := by
    intro N
    induction N with
    | zero => exact fun _ _ _ _ _ _ _ _ _ q => absurd q (Nat.not_lt_zero _)
    | succ N ih =>
      exact fun b0 b1 b2 b3 b4 I1 L1 P1 t q => rg_X4_split_1 C hk (fun z0 z1 z2 z3 z4 I2 L2 P2 z => ih z0 z1 z2 z3 z4 I2 L2 P2 z.1 (Nat.lt_of_lt_of_le z.2 (Nat.le_of_lt_succ q))) (h1 b0 b1 b2 b3 b4 I1 L1 P1 t)
  exact rg_X4_split_0 C hk (fun b0 b1 b2 b3 b4 I1 L1 P1 t => (go (m1 b0 b1 b2 b3 b4 I1 L1 P1 + 1)) b0 b1 b2 b3 b4 I1 L1 P1 t (Nat.lt_succ_self _)) h0
/-! BracketDraws$Numbering.numberOfSwapped(LBracketDraws$Counter;LBracketDraws$Draw;II)J -/
def vc_X4_numberOfSwapped_0 (d : Nat) (sh : List qSh) (K : Option Value → qMI → qML → qMP → Prop) (T1 : Int32 → qMI → qML → qMP → Prop) (T2 : Int32 → qMI → qML → qMP → Prop) (a0 : Nat) (a1 : Nat) (a2 : Nat) (x3 : Int32) (x4 : Int32) (I : qMI) (L : qML) (P : qMP) : Prop :=
  T1 0 I L P
set_option maxRecDepth 100000 in
set_option maxHeartbeats 4000000 in
theorem rg_X4_numberOfSwapped_0 {X : qCT} {d : Nat} {sh : List qSh} {K : Option Value → qMI → qML → qMP → Prop} {T1 : Int32 → qMI → qML → qMP → Prop} {T2 : Int32 → qMI → qML → qMP → Prop} {a0 : Nat} {a1 : Nat} {a2 : Nat} {x3 : Int32} {x4 : Int32} {I : qMI} {L : qML} {P : qMP} (C : qCB X RX4 cX4_numberOfSwapped 7 (d + 1) 0 0) (hk : qCK X (some .long) 0 0 (fun v sh' I' L' P' => sh' = sh ∧ K v I' L' P')) (hT1 : ∀ (x5 : Int32) (I : qMI) (L : qML) (P : qMP), T1 x5 I L P → qG X 3 [some (.ref a0), some (.ref a1), some (.ref a2), some (.int x3), some (.int x4), some (.int x5), none] [] sh I L P 0 0) (hT2 : ∀ (x5 : Int32) (I : qMI) (L : qML) (P : qMP), T2 x5 I L P → qG X 111 [some (.ref a0), some (.ref a1), some (.ref a2), some (.int x3), some (.int x4), some (.int x5), none] [] sh I L P 0 0) (h : vc_X4_numberOfSwapped_0 d sh K T1 T2 a0 a1 a2 x3 x4 I L P) : qG X 0 [some (.ref a0), some (.ref a1), some (.ref a2), some (.int x3), some (.int x4), none, none] [] sh I L P 0 0 := by
  unfold vc_X4_numberOfSwapped_0 at h
  refine q_iconst (v := 0) C dX4_numberOfSwapped_0 (by decide) ?_
  refine q_istore (lo1 := [some (.ref a0), some (.ref a1), some (.ref a2), some (.int x3), some (.int x4), some (.int 0), none]) C dX4_numberOfSwapped_1 (by decide) rfl ?_
  exact hT1 _ _ _ _ h
def vc_X4_numberOfSwapped_1 (d : Nat) (sh : List qSh) (K : Option Value → qMI → qML → qMP → Prop) (T1 : Int32 → qMI → qML → qMP → Prop) (T2 : Int32 → qMI → qML → qMP → Prop) (a0 : Nat) (a1 : Nat) (a2 : Nat) (x3 : Int32) (x4 : Int32) (x5 : Int32) (I : qMI) (L : qML) (P : qMP) : Prop :=
  ((shp sh a2).1 = 1) ∧ ((((I a2 2) ≤ x5) → (T2 ((I a2 2) - 1) I L P)) ∧ ((¬ (I a2 2) ≤ x5) → (((shp sh a0).1 = 4) ∧ (((shp sh (P a0 0)).1 = 20) ∧ ((((nI (shp sh (P a0 0)).2) ≤ ((I a2 2) + x5)) → (T2 ((I a2 2) - 1) I L P)) ∧ ((¬ (nI (shp sh (P a0 0)).2) ≤ ((I a2 2) + x5)) → (Sq d mX1_standing sh [.ref a2, .int x5] I L P (KI fun r6 I7 L8 P9 => ((r6 = x3) → (((¬ ((x3 + x4) - r6) = 10) → (((shp sh (P9 a0 0)).1 = 20) ∧ ((vp_in ((I7 a2 2) + x5) (shp sh (P9 a0 0)).2) ∧ (∀ I14 : qMI, I14 = uI I7 (P9 a0 0) (Int32.toNatClampNeg ((I7 a2 2) + x5)) ((1 : Int32) <<< (((x3 + x4) - r6) &&& 31)) → (((shp sh (P9 a0 1)).1 = 21) ∧ ((vp_in ((I14 a2 2) + x5) (shp sh (P9 a0 1)).2) ∧ (∀ L17 : qML, L17 = uL L8 (P9 a0 1) (Int32.toNatClampNeg ((I14 a2 2) + x5)) 0 → (T1 (x5 + 1) I14 L17 P9)))))))) ∧ ((((x3 + x4) - r6) = 10) → (((shp sh (P9 a0 0)).1 = 20) ∧ ((vp_in ((I7 a2 2) + x5) (shp sh (P9 a0 0)).2) ∧ (∀ I20 : qMI, I20 = uI I7 (P9 a0 0) (Int32.toNatClampNeg ((I7 a2 2) + x5)) 0 → (((shp sh (P9 a0 1)).1 = 21) ∧ ((vp_in ((I20 a2 2) + x5) (shp sh (P9 a0 1)).2) ∧ (∀ L23 : qML, L23 = uL L8 (P9 a0 1) (Int32.toNatClampNeg ((I20 a2 2) + x5)) 0 → (T1 (x5 + 1) I20 L23 P9)))))))))) ∧ ((¬ r6 = x3) → (((¬ r6 = x4) → (((¬ r6 = 10) → (((shp sh (P9 a0 0)).1 = 20) ∧ ((vp_in ((I7 a2 2) + x5) (shp sh (P9 a0 0)).2) ∧ (∀ I28 : qMI, I28 = uI I7 (P9 a0 0) (Int32.toNatClampNeg ((I7 a2 2) + x5)) ((1 : Int32) <<< (r6 &&& 31)) → (((shp sh (P9 a0 1)).1 = 21) ∧ ((vp_in ((I28 a2 2) + x5) (shp sh (P9 a0 1)).2) ∧ (∀ L31 : qML, L31 = uL L8 (P9 a0 1) (Int32.toNatClampNeg ((I28 a2 2) + x5)) 0 → (T1 (x5 + 1) I28 L31 P9)))))))) ∧ ((r6 = 10) → (((shp sh (P9 a0 0)).1 = 20) ∧ ((vp_in ((I7 a2 2) + x5) (shp sh (P9 a0 0)).2) ∧ (∀ I34 : qMI, I34 = uI I7 (P9 a0 0) (Int32.toNatClampNeg ((I7 a2 2) + x5)) 0 → (((shp sh (P9 a0 1)).1 = 21) ∧ ((vp_in ((I34 a2 2) + x5) (shp sh (P9 a0 1)).2) ∧ (∀ L37 : qML, L37 = uL L8 (P9 a0 1) (Int32.toNatClampNeg ((I34 a2 2) + x5)) 0 → (T1 (x5 + 1) I34 L37 P9)))))))))) ∧ ((r6 = x4) → (((¬ ((x3 + x4) - r6) = 10) → (((shp sh (P9 a0 0)).1 = 20) ∧ ((vp_in ((I7 a2 2) + x5) (shp sh (P9 a0 0)).2) ∧ (∀ I41 : qMI, I41 = uI I7 (P9 a0 0) (Int32.toNatClampNeg ((I7 a2 2) + x5)) ((1 : Int32) <<< (((x3 + x4) - r6) &&& 31)) → (((shp sh (P9 a0 1)).1 = 21) ∧ ((vp_in ((I41 a2 2) + x5) (shp sh (P9 a0 1)).2) ∧ (∀ L44 : qML, L44 = uL L8 (P9 a0 1) (Int32.toNatClampNeg ((I41 a2 2) + x5)) 0 → (T1 (x5 + 1) I41 L44 P9)))))))) ∧ ((((x3 + x4) - r6) = 10) → (((shp sh (P9 a0 0)).1 = 20) ∧ ((vp_in ((I7 a2 2) + x5) (shp sh (P9 a0 0)).2) ∧ (∀ I47 : qMI, I47 = uI I7 (P9 a0 0) (Int32.toNatClampNeg ((I7 a2 2) + x5)) 0 → (((shp sh (P9 a0 1)).1 = 21) ∧ ((vp_in ((I47 a2 2) + x5) (shp sh (P9 a0 1)).2) ∧ (∀ L50 : qML, L50 = uL L8 (P9 a0 1) (Int32.toNatClampNeg ((I47 a2 2) + x5)) 0 → (T1 (x5 + 1) I47 L50 P9))))))))))))))))))))
set_option maxRecDepth 100000 in
set_option maxHeartbeats 4000000 in
theorem rg_X4_numberOfSwapped_1 {X : qCT} {d : Nat} {sh : List qSh} {K : Option Value → qMI → qML → qMP → Prop} {T1 : Int32 → qMI → qML → qMP → Prop} {T2 : Int32 → qMI → qML → qMP → Prop} {a0 : Nat} {a1 : Nat} {a2 : Nat} {x3 : Int32} {x4 : Int32} {x5 : Int32} {I : qMI} {L : qML} {P : qMP} (C : qCB X RX4 cX4_numberOfSwapped 7 (d + 1) 0 0) (hk : qCK X (some .long) 0 0 (fun v sh' I' L' P' => sh' = sh ∧ K v I' L' P')) (hT1 : ∀ (x5 : Int32) (I : qMI) (L : qML) (P : qMP), T1 x5 I L P → qG X 3 [some (.ref a0), some (.ref a1), some (.ref a2), some (.int x3), some (.int x4), some (.int x5), none] [] sh I L P 0 0) (hT2 : ∀ (x5 : Int32) (I : qMI) (L : qML) (P : qMP), T2 x5 I L P → qG X 111 [some (.ref a0), some (.ref a1), some (.ref a2), some (.int x3), some (.int x4), some (.int x5), none] [] sh I L P 0 0) (h : vc_X4_numberOfSwapped_1 d sh K T1 T2 a0 a1 a2 x3 x4 x5 I L P) : qG X 3 [some (.ref a0), some (.ref a1), some (.ref a2), some (.int x3), some (.int x4), some (.int x5), none] [] sh I L P 0 0 := by
  unfold vc_X4_numberOfSwapped_1 at h
  refine q_iload C dX4_numberOfSwapped_3 rfl ?_
  refine q_aload_n C dX4_numberOfSwapped_5 rfl ?_
  have s1 := h.1
  replace h := h.2
  refine q_getI C fl_RX4_42 rfl s1 dX4_numberOfSwapped_6 ?_
  refine q_icmp_ge (tgt := 103) C dX4_numberOfSwapped_9 (by decide) (fun c2 => ?_) (fun c2 => ?_)
  · replace h := h.1 c2
    refine q_aload_n C dX4_numberOfSwapped_103 rfl ?_
    refine q_getI C fl_RX4_42 rfl s1 dX4_numberOfSwapped_104 ?_
    refine q_iconst (v := 1) C dX4_numberOfSwapped_107 (by decide) ?_
    refine q_isub C dX4_numberOfSwapped_108 ?_
    refine q_istore (lo1 := [some (.ref a0), some (.ref a1), some (.ref a2), some (.int x3), some (.int x4), some (.int ((I a2 2) - 1)), none]) C dX4_numberOfSwapped_109 (by decide) rfl ?_
    exact hT2 _ _ _ _ h
  · replace h := h.2 c2
    refine q_aload_n C dX4_numberOfSwapped_12 rfl ?_
    refine q_getI C fl_RX4_42 rfl s1 dX4_numberOfSwapped_13 ?_
    refine q_iload C dX4_numberOfSwapped_16 rfl ?_
    refine q_iadd C dX4_numberOfSwapped_18 ?_
    refine q_aload_n C dX4_numberOfSwapped_19 rfl ?_
    have s3 := h.1
    replace h := h.2
    refine q_getP C fl_RX4_9 rfl s3 dX4_numberOfSwapped_20 ?_
    have s4 := h.1
    replace h := h.2
    refine q_alen20 C s4 dX4_numberOfSwapped_23 ?_
    refine q_icmp_ge (tgt := 103) C dX4_numberOfSwapped_24 (by decide) (fun c5 => ?_) (fun c5 => ?_)
    · replace h := h.1 c5
      refine q_aload_n C dX4_numberOfSwapped_103 rfl ?_
      refine q_getI C fl_RX4_42 rfl s1 dX4_numberOfSwapped_104 ?_
      refine q_iconst (v := 1) C dX4_numberOfSwapped_107 (by decide) ?_
      refine q_isub C dX4_numberOfSwapped_108 ?_
      refine q_istore (lo1 := [some (.ref a0), some (.ref a1), some (.ref a2), some (.int x3), some (.int x4), some (.int ((I a2 2) - 1)), none]) C dX4_numberOfSwapped_109 (by decide) rfl ?_
      exact hT2 _ _ _ _ h
    · replace h := h.2 c5
      refine q_aload_n C dX4_numberOfSwapped_27 rfl ?_
      refine q_iload C dX4_numberOfSwapped_28 rfl ?_
      refine q_cVi (as := [.int x5]) (st := []) (r := a2) C mv_X1_standing ml_RX4_45 dX4_numberOfSwapped_30 rfl s1 rfl (Nat.le_of_ble_eq_true rfl) ⟨Nat.le_refl _, Nat.le_refl _⟩ h (fun r6 I7 L8 P9 h => ?_)
      refine q_istore (lo1 := [some (.ref a0), some (.ref a1), some (.ref a2), some (.int x3), some (.int x4), some (.int x5), some (.int r6)]) C dX4_numberOfSwapped_33 (by decide) rfl ?_
      refine q_iload C dX4_numberOfSwapped_35 rfl ?_
      refine q_iload_n C dX4_numberOfSwapped_37 rfl ?_
      refine q_icmp_eq (tgt := 48) C dX4_numberOfSwapped_38 (by decide) (fun c10 => ?_) (fun c10 => ?_)
      · replace h := h.1 c10
        refine q_iload_n C dX4_numberOfSwapped_48 rfl ?_
        refine q_iload C dX4_numberOfSwapped_49 rfl ?_
        refine q_iadd C dX4_numberOfSwapped_51 ?_
        refine q_iload C dX4_numberOfSwapped_52 rfl ?_
        refine q_isub C dX4_numberOfSwapped_54 ?_
        refine q_istore (lo1 := [some (.ref a0), some (.ref a1), some (.ref a2), some (.int x3), some (.int x4), some (.int x5), some (.int ((x3 + x4) - r6))]) C dX4_numberOfSwapped_55 (by decide) rfl ?_
        refine q_aload_n C dX4_numberOfSwapped_57 rfl ?_
        refine q_getP C fl_RX4_9 rfl s3 dX4_numberOfSwapped_58 ?_
        refine q_aload_n C dX4_numberOfSwapped_61 rfl ?_
        refine q_getI C fl_RX4_42 rfl s1 dX4_numberOfSwapped_62 ?_
        refine q_iload C dX4_numberOfSwapped_65 rfl ?_
        refine q_iadd C dX4_numberOfSwapped_67 ?_
        refine q_iload C dX4_numberOfSwapped_68 rfl ?_
        refine q_bipush (v := 10) C dX4_numberOfSwapped_70 (by decide) ?_
        refine q_icmp_ne (tgt := 79) C dX4_numberOfSwapped_72 (by decide) (fun c11 => ?_) (fun c11 => ?_)
        · replace h := h.1 c11
          refine q_iconst (v := 1) C dX4_numberOfSwapped_79 (by decide) ?_
          refine q_iload C dX4_numberOfSwapped_80 rfl ?_
          refine q_ishl C dX4_numberOfSwapped_82 ?_
          have s12 := h.1
          replace h := h.2
          have s13 := h.1
          replace h := h.2
          refine q_iast C s12 s13 dX4_numberOfSwapped_83 (fun I14 eI14 => ?_)
          replace h := h I14 eI14
          refine q_aload_n C dX4_numberOfSwapped_84 rfl ?_
          refine q_getP C fl_RX4_15 rfl s3 dX4_numberOfSwapped_85 ?_
          refine q_aload_n C dX4_numberOfSwapped_88 rfl ?_
          refine q_getI C fl_RX4_42 rfl s1 dX4_numberOfSwapped_89 ?_
          refine q_iload C dX4_numberOfSwapped_92 rfl ?_
          refine q_iadd C dX4_numberOfSwapped_94 ?_
          refine q_lconst (v := 0) C dX4_numberOfSwapped_95 (by decide) ?_
          have s15 := h.1
          replace h := h.2
          have s16 := h.1
          replace h := h.2
          refine q_last C s15 s16 dX4_numberOfSwapped_96 (fun L17 eL17 => ?_)
          replace h := h L17 eL17
          refine q_iinc (w := 1) (lo1 := [some (.ref a0), some (.ref a1), some (.ref a2), some (.int x3), some (.int x4), some (.int (x5 + 1)), some (.int ((x3 + x4) - r6))]) C dX4_numberOfSwapped_97 rfl (by decide) (by decide) rfl ?_
          refine q_goto (tgt := 3) C dX4_numberOfSwapped_100 (by decide) ?_
          refine q_kill 6 (lo1 := [some (.ref a0), some (.ref a1), some (.ref a2), some (.int x3), some (.int x4), some (.int (x5 + 1)), none]) rfl ?_
          exact hT1 _ _ _ _ h
        · replace h := h.2 c11
          refine q_iconst (v := 0) C dX4_numberOfSwapped_75 (by decide) ?_
          refine q_goto (tgt := 83) C dX4_numberOfSwapped_76 (by decide) ?_
          have s18 := h.1
          replace h := h.2
          have s19 := h.1
          replace h := h.2
          refine q_iast C s18 s19 dX4_numberOfSwapped_83 (fun I20 eI20 => ?_)
          replace h := h I20 eI20
          refine q_aload_n C dX4_numberOfSwapped_84 rfl ?_
          refine q_getP C fl_RX4_15 rfl s3 dX4_numberOfSwapped_85 ?_
          refine q_aload_n C dX4_numberOfSwapped_88 rfl ?_
          refine q_getI C fl_RX4_42 rfl s1 dX4_numberOfSwapped_89 ?_
          refine q_iload C dX4_numberOfSwapped_92 rfl ?_
          refine q_iadd C dX4_numberOfSwapped_94 ?_
          refine q_lconst (v := 0) C dX4_numberOfSwapped_95 (by decide) ?_
          have s21 := h.1
          replace h := h.2
          have s22 := h.1
          replace h := h.2
          refine q_last C s21 s22 dX4_numberOfSwapped_96 (fun L23 eL23 => ?_)
          replace h := h L23 eL23
          refine q_iinc (w := 1) (lo1 := [some (.ref a0), some (.ref a1), some (.ref a2), some (.int x3), some (.int x4), some (.int (x5 + 1)), some (.int ((x3 + x4) - r6))]) C dX4_numberOfSwapped_97 rfl (by decide) (by decide) rfl ?_
          refine q_goto (tgt := 3) C dX4_numberOfSwapped_100 (by decide) ?_
          refine q_kill 6 (lo1 := [some (.ref a0), some (.ref a1), some (.ref a2), some (.int x3), some (.int x4), some (.int (x5 + 1)), none]) rfl ?_
          exact hT1 _ _ _ _ h
      · replace h := h.2 c10
        refine q_iload C dX4_numberOfSwapped_41 rfl ?_
        refine q_iload C dX4_numberOfSwapped_43 rfl ?_
        refine q_icmp_ne (tgt := 57) C dX4_numberOfSwapped_45 (by decide) (fun c24 => ?_) (fun c24 => ?_)
        · replace h := h.1 c24
          refine q_aload_n C dX4_numberOfSwapped_57 rfl ?_
          refine q_getP C fl_RX4_9 rfl s3 dX4_numberOfSwapped_58 ?_
          refine q_aload_n C dX4_numberOfSwapped_61 rfl ?_
          refine q_getI C fl_RX4_42 rfl s1 dX4_numberOfSwapped_62 ?_
          refine q_iload C dX4_numberOfSwapped_65 rfl ?_
          refine q_iadd C dX4_numberOfSwapped_67 ?_
          refine q_iload C dX4_numberOfSwapped_68 rfl ?_
          refine q_bipush (v := 10) C dX4_numberOfSwapped_70 (by decide) ?_
          refine q_icmp_ne (tgt := 79) C dX4_numberOfSwapped_72 (by decide) (fun c25 => ?_) (fun c25 => ?_)
          · replace h := h.1 c25
            refine q_iconst (v := 1) C dX4_numberOfSwapped_79 (by decide) ?_
            refine q_iload C dX4_numberOfSwapped_80 rfl ?_
            refine q_ishl C dX4_numberOfSwapped_82 ?_
            have s26 := h.1
            replace h := h.2
            have s27 := h.1
            replace h := h.2
            refine q_iast C s26 s27 dX4_numberOfSwapped_83 (fun I28 eI28 => ?_)
            replace h := h I28 eI28
            refine q_aload_n C dX4_numberOfSwapped_84 rfl ?_
            refine q_getP C fl_RX4_15 rfl s3 dX4_numberOfSwapped_85 ?_
            refine q_aload_n C dX4_numberOfSwapped_88 rfl ?_
            refine q_getI C fl_RX4_42 rfl s1 dX4_numberOfSwapped_89 ?_
            refine q_iload C dX4_numberOfSwapped_92 rfl ?_
            refine q_iadd C dX4_numberOfSwapped_94 ?_
            refine q_lconst (v := 0) C dX4_numberOfSwapped_95 (by decide) ?_
            have s29 := h.1
            replace h := h.2
            have s30 := h.1
            replace h := h.2
            refine q_last C s29 s30 dX4_numberOfSwapped_96 (fun L31 eL31 => ?_)
            replace h := h L31 eL31
            refine q_iinc (w := 1) (lo1 := [some (.ref a0), some (.ref a1), some (.ref a2), some (.int x3), some (.int x4), some (.int (x5 + 1)), some (.int r6)]) C dX4_numberOfSwapped_97 rfl (by decide) (by decide) rfl ?_
            refine q_goto (tgt := 3) C dX4_numberOfSwapped_100 (by decide) ?_
            refine q_kill 6 (lo1 := [some (.ref a0), some (.ref a1), some (.ref a2), some (.int x3), some (.int x4), some (.int (x5 + 1)), none]) rfl ?_
            exact hT1 _ _ _ _ h
          · replace h := h.2 c25
            refine q_iconst (v := 0) C dX4_numberOfSwapped_75 (by decide) ?_
            refine q_goto (tgt := 83) C dX4_numberOfSwapped_76 (by decide) ?_
            have s32 := h.1
            replace h := h.2
            have s33 := h.1
            replace h := h.2
            refine q_iast C s32 s33 dX4_numberOfSwapped_83 (fun I34 eI34 => ?_)
            replace h := h I34 eI34
            refine q_aload_n C dX4_numberOfSwapped_84 rfl ?_
            refine q_getP C fl_RX4_15 rfl s3 dX4_numberOfSwapped_85 ?_
            refine q_aload_n C dX4_numberOfSwapped_88 rfl ?_
            refine q_getI C fl_RX4_42 rfl s1 dX4_numberOfSwapped_89 ?_
            refine q_iload C dX4_numberOfSwapped_92 rfl ?_
            refine q_iadd C dX4_numberOfSwapped_94 ?_
            refine q_lconst (v := 0) C dX4_numberOfSwapped_95 (by decide) ?_
            have s35 := h.1
            replace h := h.2
            have s36 := h.1
            replace h := h.2
            refine q_last C s35 s36 dX4_numberOfSwapped_96 (fun L37 eL37 => ?_)
            replace h := h L37 eL37
            refine q_iinc (w := 1) (lo1 := [some (.ref a0), some (.ref a1), some (.ref a2), some (.int x3), some (.int x4), some (.int (x5 + 1)), some (.int r6)]) C dX4_numberOfSwapped_97 rfl (by decide) (by decide) rfl ?_
            refine q_goto (tgt := 3) C dX4_numberOfSwapped_100 (by decide) ?_
            refine q_kill 6 (lo1 := [some (.ref a0), some (.ref a1), some (.ref a2), some (.int x3), some (.int x4), some (.int (x5 + 1)), none]) rfl ?_
            exact hT1 _ _ _ _ h
        · replace h := h.2 c24
          refine q_iload_n C dX4_numberOfSwapped_48 rfl ?_
          refine q_iload C dX4_numberOfSwapped_49 rfl ?_
          refine q_iadd C dX4_numberOfSwapped_51 ?_
          refine q_iload C dX4_numberOfSwapped_52 rfl ?_
          refine q_isub C dX4_numberOfSwapped_54 ?_
          refine q_istore (lo1 := [some (.ref a0), some (.ref a1), some (.ref a2), some (.int x3), some (.int x4), some (.int x5), some (.int ((x3 + x4) - r6))]) C dX4_numberOfSwapped_55 (by decide) rfl ?_
          refine q_aload_n C dX4_numberOfSwapped_57 rfl ?_
          refine q_getP C fl_RX4_9 rfl s3 dX4_numberOfSwapped_58 ?_
          refine q_aload_n C dX4_numberOfSwapped_61 rfl ?_
          refine q_getI C fl_RX4_42 rfl s1 dX4_numberOfSwapped_62 ?_
          refine q_iload C dX4_numberOfSwapped_65 rfl ?_
          refine q_iadd C dX4_numberOfSwapped_67 ?_
          refine q_iload C dX4_numberOfSwapped_68 rfl ?_
          refine q_bipush (v := 10) C dX4_numberOfSwapped_70 (by decide) ?_
          refine q_icmp_ne (tgt := 79) C dX4_numberOfSwapped_72 (by decide) (fun c38 => ?_) (fun c38 => ?_)
          · replace h := h.1 c38
            refine q_iconst (v := 1) C dX4_numberOfSwapped_79 (by decide) ?_
            refine q_iload C dX4_numberOfSwapped_80 rfl ?_
            refine q_ishl C dX4_numberOfSwapped_82 ?_
            have s39 := h.1
            replace h := h.2
            have s40 := h.1
            replace h := h.2
            refine q_iast C s39 s40 dX4_numberOfSwapped_83 (fun I41 eI41 => ?_)
            replace h := h I41 eI41
            refine q_aload_n C dX4_numberOfSwapped_84 rfl ?_
            refine q_getP C fl_RX4_15 rfl s3 dX4_numberOfSwapped_85 ?_
            refine q_aload_n C dX4_numberOfSwapped_88 rfl ?_
            refine q_getI C fl_RX4_42 rfl s1 dX4_numberOfSwapped_89 ?_
            refine q_iload C dX4_numberOfSwapped_92 rfl ?_
            refine q_iadd C dX4_numberOfSwapped_94 ?_
            refine q_lconst (v := 0) C dX4_numberOfSwapped_95 (by decide) ?_
            have s42 := h.1
            replace h := h.2
            have s43 := h.1
            replace h := h.2
            refine q_last C s42 s43 dX4_numberOfSwapped_96 (fun L44 eL44 => ?_)
            replace h := h L44 eL44
            refine q_iinc (w := 1) (lo1 := [some (.ref a0), some (.ref a1), some (.ref a2), some (.int x3), some (.int x4), some (.int (x5 + 1)), some (.int ((x3 + x4) - r6))]) C dX4_numberOfSwapped_97 rfl (by decide) (by decide) rfl ?_
            refine q_goto (tgt := 3) C dX4_numberOfSwapped_100 (by decide) ?_
            refine q_kill 6 (lo1 := [some (.ref a0), some (.ref a1), some (.ref a2), some (.int x3), some (.int x4), some (.int (x5 + 1)), none]) rfl ?_
            exact hT1 _ _ _ _ h
          · replace h := h.2 c38
            refine q_iconst (v := 0) C dX4_numberOfSwapped_75 (by decide) ?_
            refine q_goto (tgt := 83) C dX4_numberOfSwapped_76 (by decide) ?_
            have s45 := h.1
            replace h := h.2
            have s46 := h.1
            replace h := h.2
            refine q_iast C s45 s46 dX4_numberOfSwapped_83 (fun I47 eI47 => ?_)
            replace h := h I47 eI47
            refine q_aload_n C dX4_numberOfSwapped_84 rfl ?_
            refine q_getP C fl_RX4_15 rfl s3 dX4_numberOfSwapped_85 ?_
            refine q_aload_n C dX4_numberOfSwapped_88 rfl ?_
            refine q_getI C fl_RX4_42 rfl s1 dX4_numberOfSwapped_89 ?_
            refine q_iload C dX4_numberOfSwapped_92 rfl ?_
            refine q_iadd C dX4_numberOfSwapped_94 ?_
            refine q_lconst (v := 0) C dX4_numberOfSwapped_95 (by decide) ?_
            have s48 := h.1
            replace h := h.2
            have s49 := h.1
            replace h := h.2
            refine q_last C s48 s49 dX4_numberOfSwapped_96 (fun L50 eL50 => ?_)
            replace h := h L50 eL50
            refine q_iinc (w := 1) (lo1 := [some (.ref a0), some (.ref a1), some (.ref a2), some (.int x3), some (.int x4), some (.int (x5 + 1)), some (.int ((x3 + x4) - r6))]) C dX4_numberOfSwapped_97 rfl (by decide) (by decide) rfl ?_
            refine q_goto (tgt := 3) C dX4_numberOfSwapped_100 (by decide) ?_
            refine q_kill 6 (lo1 := [some (.ref a0), some (.ref a1), some (.ref a2), some (.int x3), some (.int x4), some (.int (x5 + 1)), none]) rfl ?_
            exact hT1 _ _ _ _ h
def vc_X4_numberOfSwapped_2 (d : Nat) (sh : List qSh) (K : Option Value → qMI → qML → qMP → Prop) (T1 : Int32 → qMI → qML → qMP → Prop) (T2 : Int32 → qMI → qML → qMP → Prop) (a0 : Nat) (a1 : Nat) (a2 : Nat) (x3 : Int32) (x4 : Int32) (x5 : Int32) (I : qMI) (L : qML) (P : qMP) : Prop :=
  ((x5 < 1) → (((shp sh a0).1 = 4) ∧ (((shp sh (P a0 1)).1 = 21) ∧ ((vp_in 1 (shp sh (P a0 1)).2) ∧ (K (some (.long (L (P a0 1) (Int32.toNatClampNeg 1)))) I L P))))) ∧ ((¬ x5 < 1) → (((shp sh a0).1 = 4) ∧ (((shp sh (P a0 0)).1 = 20) ∧ ((((nI (shp sh (P a0 0)).2) ≤ ((2 * x5) + 1)) → (((shp sh (P a0 1)).1 = 21) ∧ ((vp_in 1 (shp sh (P a0 1)).2) ∧ (K (some (.long (L (P a0 1) (Int32.toNatClampNeg 1)))) I L P)))) ∧ ((¬ (nI (shp sh (P a0 0)).2) ≤ ((2 * x5) + 1)) → (Sq d mX4_join sh [.ref a0, .ref a1, .int x5] I L P (KI fun r10 I11 L12 P13 => ((¬ r10 = 0) → (T2 (x5 + (-1)) I11 L12 P13)) ∧ ((r10 = 0) → (K (some (.long ((-1)))) I11 L12 P13)))))))))
set_option maxRecDepth 100000 in
set_option maxHeartbeats 4000000 in
theorem rg_X4_numberOfSwapped_2 {X : qCT} {d : Nat} {sh : List qSh} {K : Option Value → qMI → qML → qMP → Prop} {T1 : Int32 → qMI → qML → qMP → Prop} {T2 : Int32 → qMI → qML → qMP → Prop} {a0 : Nat} {a1 : Nat} {a2 : Nat} {x3 : Int32} {x4 : Int32} {x5 : Int32} {I : qMI} {L : qML} {P : qMP} (C : qCB X RX4 cX4_numberOfSwapped 7 (d + 1) 0 0) (hk : qCK X (some .long) 0 0 (fun v sh' I' L' P' => sh' = sh ∧ K v I' L' P')) (hT1 : ∀ (x5 : Int32) (I : qMI) (L : qML) (P : qMP), T1 x5 I L P → qG X 3 [some (.ref a0), some (.ref a1), some (.ref a2), some (.int x3), some (.int x4), some (.int x5), none] [] sh I L P 0 0) (hT2 : ∀ (x5 : Int32) (I : qMI) (L : qML) (P : qMP), T2 x5 I L P → qG X 111 [some (.ref a0), some (.ref a1), some (.ref a2), some (.int x3), some (.int x4), some (.int x5), none] [] sh I L P 0 0) (h : vc_X4_numberOfSwapped_2 d sh K T1 T2 a0 a1 a2 x3 x4 x5 I L P) : qG X 111 [some (.ref a0), some (.ref a1), some (.ref a2), some (.int x3), some (.int x4), some (.int x5), none] [] sh I L P 0 0 := by
  unfold vc_X4_numberOfSwapped_2 at h
  refine q_iload C dX4_numberOfSwapped_111 rfl ?_
  refine q_iconst (v := 1) C dX4_numberOfSwapped_113 (by decide) ?_
  refine q_icmp_lt (tgt := 151) C dX4_numberOfSwapped_114 (by decide) (fun c1 => ?_) (fun c1 => ?_)
  · replace h := h.1 c1
    refine q_aload_n C dX4_numberOfSwapped_151 rfl ?_
    have s2 := h.1
    replace h := h.2
    refine q_getP C fl_RX4_15 rfl s2 dX4_numberOfSwapped_152 ?_
    refine q_iconst (v := 1) C dX4_numberOfSwapped_155 (by decide) ?_
    have s3 := h.1
    replace h := h.2
    have s4 := h.1
    replace h := h.2
    refine q_lald C s3 s4 dX4_numberOfSwapped_156 ?_
    exact q_lret C hk dX4_numberOfSwapped_157 ⟨rfl, h⟩
  · replace h := h.2 c1
    refine q_iconst (v := 2) C dX4_numberOfSwapped_117 (by decide) ?_
    refine q_iload C dX4_numberOfSwapped_118 rfl ?_
    refine q_imul C dX4_numberOfSwapped_120 ?_
    refine q_iconst (v := 1) C dX4_numberOfSwapped_121 (by decide) ?_
    refine q_iadd C dX4_numberOfSwapped_122 ?_
    refine q_aload_n C dX4_numberOfSwapped_123 rfl ?_
    have s5 := h.1
    replace h := h.2
    refine q_getP C fl_RX4_9 rfl s5 dX4_numberOfSwapped_124 ?_
    have s6 := h.1
    replace h := h.2
    refine q_alen20 C s6 dX4_numberOfSwapped_127 ?_
    refine q_icmp_ge (tgt := 151) C dX4_numberOfSwapped_128 (by decide) (fun c7 => ?_) (fun c7 => ?_)
    · replace h := h.1 c7
      refine q_aload_n C dX4_numberOfSwapped_151 rfl ?_
      refine q_getP C fl_RX4_15 rfl s5 dX4_numberOfSwapped_152 ?_
      refine q_iconst (v := 1) C dX4_numberOfSwapped_155 (by decide) ?_
      have s8 := h.1
      replace h := h.2
      have s9 := h.1
      replace h := h.2
      refine q_lald C s8 s9 dX4_numberOfSwapped_156 ?_
      exact q_lret C hk dX4_numberOfSwapped_157 ⟨rfl, h⟩
    · replace h := h.2 c7
      refine q_aload_n C dX4_numberOfSwapped_131 rfl ?_
      refine q_aload_n C dX4_numberOfSwapped_132 rfl ?_
      refine q_iload C dX4_numberOfSwapped_133 rfl ?_
      refine q_cVi (as := [.ref a1, .int x5]) (st := []) (r := a0) C mv_X4_join ml_RX4_48 dX4_numberOfSwapped_135 rfl s5 rfl (Nat.le_of_ble_eq_true rfl) ⟨Nat.le_refl _, Nat.le_refl _⟩ h (fun r10 I11 L12 P13 h => ?_)
      refine q_if_ne (tgt := 145) C dX4_numberOfSwapped_138 (by decide) (fun c14 => ?_) (fun c14 => ?_)
      · replace h := h.1 c14
        refine q_iinc (w := (-1)) (lo1 := [some (.ref a0), some (.ref a1), some (.ref a2), some (.int x3), some (.int x4), some (.int (x5 + (-1))), none]) C dX4_numberOfSwapped_145 rfl (by decide) (by decide) rfl ?_
        refine q_goto (tgt := 111) C dX4_numberOfSwapped_148 (by decide) ?_
        exact hT2 _ _ _ _ h
      · replace h := h.2 c14
        refine q_ldc2 C kl_RX4_52 dX4_numberOfSwapped_141 ?_
        exact q_lret C hk dX4_numberOfSwapped_144 ⟨rfl, h⟩
theorem sp_X4_numberOfSwapped {d : Nat} {sh : List qSh} {K : Option Value → qMI → qML → qMP → Prop} {a0 : Nat} {a1 : Nat} {a2 : Nat} {x3 : Int32} {x4 : Int32} {I : qMI} {L : qML} {P : qMP} (T1 : Int32 → qMI → qML → qMP → Prop) (m1 : Int32 → qMI → qML → qMP → Nat) (T2 : Int32 → qMI → qML → qMP → Prop) (m2 : Int32 → qMI → qML → qMP → Nat) (h0 : vc_X4_numberOfSwapped_0 d sh K T1 T2 a0 a1 a2 x3 x4 I L P)
    (h1 : ∀ (x5 : Int32) (I : qMI) (L : qML) (P : qMP), T1 x5 I L P → vc_X4_numberOfSwapped_1 d sh K (fun w0 I' L' P' => T1 w0 I' L' P' ∧ m1 w0 I' L' P' < m1 x5 I L P) (fun w0 I' L' P' => T2 w0 I' L' P' ∧ m2 w0 I' L' P' < m1 x5 I L P) a0 a1 a2 x3 x4 x5 I L P)
    (h2 : ∀ (x5 : Int32) (I : qMI) (L : qML) (P : qMP), T2 x5 I L P → vc_X4_numberOfSwapped_2 d sh K (fun w0 I' L' P' => T1 w0 I' L' P' ∧ m1 w0 I' L' P' < m2 x5 I L P) (fun w0 I' L' P' => T2 w0 I' L' P' ∧ m2 w0 I' L' P' < m2 x5 I L P) a0 a1 a2 x3 x4 x5 I L P) : Sq (d + 1) mX4_numberOfSwapped sh [.ref a0, .ref a1, .ref a2, .int x3, .int x4] I L P K := by
  refine Sq_of (by decide +kernel) (Nat.le_of_ble_eq_true rfl) (fun X C hk hn => ?_)
  have go : ∀ N : Nat, (∀ (x5 : Int32) (I : qMI) (L : qML) (P : qMP), T1 x5 I L P → m1 x5 I L P < N → qG X 3 [some (.ref a0), some (.ref a1), some (.ref a2), some (.int x3), some (.int x4), some (.int x5), none] [] sh I L P 0 0) ∧ (∀ (x5 : Int32) (I : qMI) (L : qML) (P : qMP), T2 x5 I L P → m2 x5 I L P < N → qG X 111 [some (.ref a0), some (.ref a1), some (.ref a2), some (.int x3), some (.int x4), some (.int x5), none] [] sh I L P 0 0) := by
    intro N
    induction N with
    | zero => exact ⟨fun _ _ _ _ _ q => absurd q (Nat.not_lt_zero _), fun _ _ _ _ _ q => absurd q (Nat.not_lt_zero _)⟩
    | succ N ih =>
      exact ⟨fun b0 I1 L1 P1 t q => rg_X4_numberOfSwapped_1 C hk (fun z0 I2 L2 P2 z => ih.1 z0 I2 L2 P2 z.1 (Nat.lt_of_lt_of_le z.2 (Nat.le_of_lt_succ q))) (fun z0 I2 L2 P2 z => ih.2 z0 I2 L2 P2 z.1 (Nat.lt_of_lt_of_le z.2 (Nat.le_of_lt_succ q))) (h1 b0 I1 L1 P1 t), fun b0 I1 L1 P1 t q => rg_X4_numberOfSwapped_2 C hk (fun z0 I2 L2 P2 z => ih.1 z0 I2 L2 P2 z.1 (Nat.lt_of_lt_of_le z.2 (Nat.le_of_lt_succ q))) (fun z0 I2 L2 P2 z => ih.2 z0 I2 L2 P2 z.1 (Nat.lt_of_lt_of_le z.2 (Nat.le_of_lt_succ q))) (h2 b0 I1 L1 P1 t)⟩
  exact rg_X4_numberOfSwapped_0 C hk (fun b0 I1 L1 P1 t => (go (m1 b0 I1 L1 P1 + 1)).1 b0 I1 L1 P1 t (Nat.lt_succ_self _)) (fun b0 I1 L1 P1 t => (go (m2 b0 I1 L1 P1 + 1)).2 b0 I1 L1 P1 t (Nat.lt_succ_self _)) h0
/-! BracketDraws$Numbering.join(LBracketDraws$Counter;I)Z -/
def vc_X4_join_0 (d : Nat) (sh : List qSh) (K : Option Value → qMI → qML → qMP → Prop) (T1 : Int32 → Int32 → Int64 → Int64 → Int32 → Int32 → Int32 → qMI → qML → qMP → Prop) (a0 : Nat) (a1 : Nat) (x2 : Int32) (I : qMI) (L : qML) (P : qMP) : Prop :=
  ((shp sh a0).1 = 4) ∧ (((shp sh (P a0 0)).1 = 20) ∧ ((vp_in (2 * x2) (shp sh (P a0 0)).2) ∧ ((vp_in ((2 * x2) + 1) (shp sh (P a0 0)).2) ∧ ((vp_in x2 (shp sh (P a0 0)).2) ∧ (∀ I6 : qMI, I6 = uI I (P a0 0) (Int32.toNatClampNeg x2) ((I (P a0 0) (Int32.toNatClampNeg (2 * x2))) ||| (I (P a0 0) (Int32.toNatClampNeg ((2 * x2) + 1)))) → (((shp sh a1).1 = 0) ∧ (Sq d mX0_waysOf sh [.ref a1, .int ((2 * x2) + 1), .int (((I (P a0 0) (Int32.toNatClampNeg (2 * x2))) ||| (I (P a0 0) (Int32.toNatClampNeg ((2 * x2) + 1)))) ^^^ (I (P a0 0) (Int32.toNatClampNeg (2 * x2))))] I6 L P (KL fun r8 I9 L10 P11 => ((r8 = 0) → (K (some (.int 0)) I9 L10 P11)) ∧ ((¬ r8 = 0) → (Sq d mX0_waysOf sh [.ref a1, .int (2 * x2), .int (I (P a0 0) (Int32.toNatClampNeg (2 * x2)))] I9 L10 P11 (KL fun r13 I14 L15 P16 => ((r13 = 0) → (K (some (.int 0)) I14 L15 P16)) ∧ ((¬ r13 = 0) → (Sq d mX0_waysOf sh [.ref a1, .int x2, .int ((I (P a0 0) (Int32.toNatClampNeg (2 * x2))) ||| (I (P a0 0) (Int32.toNatClampNeg ((2 * x2) + 1))))] I14 L15 P16 (KL fun r18 I19 L20 P21 => ((¬ r18 = 0) → (((shp sh (P21 a0 1)).1 = 21) ∧ ((vp_in (2 * x2) (shp sh (P21 a0 1)).2) ∧ ((vp_in ((2 * x2) + 1) (shp sh (P21 a0 1)).2) ∧ (Sq d mJ6_bitCount_0f7a4 sh [.int ((I (P a0 0) (Int32.toNatClampNeg (2 * x2))) ||| (I (P a0 0) (Int32.toNatClampNeg ((2 * x2) + 1))))] I19 L20 P21 (KI fun r26 I27 L28 P29 => T1 (I (P a0 0) (Int32.toNatClampNeg (2 * x2))) ((I (P a0 0) (Int32.toNatClampNeg (2 * x2))) ||| (I (P a0 0) (Int32.toNatClampNeg ((2 * x2) + 1)))) r8 (((L20 (P21 a0 1) (Int32.toNatClampNeg (2 * x2))) * r8) + (L20 (P21 a0 1) (Int32.toNatClampNeg ((2 * x2) + 1)))) ((1 : Int32) <<< (r26 &&& 31)) 0 0 I27 L28 P29)))))) ∧ ((r18 = 0) → (K (some (.int 0)) I19 L20 P21))))))))))))))))
set_option maxRecDepth 100000 in
set_option maxHeartbeats 4000000 in
theorem rg_X4_join_0 {X : qCT} {d : Nat} {sh : List qSh} {K : Option Value → qMI → qML → qMP → Prop} {T1 : Int32 → Int32 → Int64 → Int64 → Int32 → Int32 → Int32 → qMI → qML → qMP → Prop} {a0 : Nat} {a1 : Nat} {x2 : Int32} {I : qMI} {L : qML} {P : qMP} (C : qCB X RX4 cX4_join 12 (d + 1) 0 0) (hk : qCK X (some .boolean) 0 0 (fun v sh' I' L' P' => sh' = sh ∧ K v I' L' P')) (hT1 : ∀ (x3 : Int32) (x4 : Int32) (l5 : Int64) (l7 : Int64) (x9 : Int32) (x10 : Int32) (x11 : Int32) (I : qMI) (L : qML) (P : qMP), T1 x3 x4 l5 l7 x9 x10 x11 I L P → qG X 119 [some (.ref a0), some (.ref a1), some (.int x2), some (.int x3), some (.int x4), some (.long l5), none, some (.long l7), none, some (.int x9), some (.int x10), some (.int x11)] [] sh I L P 0 0) (h : vc_X4_join_0 d sh K T1 a0 a1 x2 I L P) : qG X 0 [some (.ref a0), some (.ref a1), some (.int x2), none, none, none, none, none, none, none, none, none] [] sh I L P 0 0 := by
  unfold vc_X4_join_0 at h
  refine q_aload_n C dX4_join_0 rfl ?_
  have s1 := h.1
  replace h := h.2
  refine q_getP C fl_RX4_9 rfl s1 dX4_join_1 ?_
  refine q_iconst (v := 2) C dX4_join_4 (by decide) ?_
  refine q_iload_n C dX4_join_5 rfl ?_
  refine q_imul C dX4_join_6 ?_
  have s2 := h.1
  replace h := h.2
  have s3 := h.1
  replace h := h.2
  refine q_iald C s2 s3 dX4_join_7 ?_
  refine q_istore_n (lo1 := [some (.ref a0), some (.ref a1), some (.int x2), some (.int (I (P a0 0) (Int32.toNatClampNeg (2 * x2)))), none, none, none, none, none, none, none, none]) C dX4_join_8 (by decide) rfl ?_
  refine q_iload_n C dX4_join_9 rfl ?_
  refine q_aload_n C dX4_join_10 rfl ?_
  refine q_getP C fl_RX4_9 rfl s1 dX4_join_11 ?_
  refine q_iconst (v := 2) C dX4_join_14 (by decide) ?_
  refine q_iload_n C dX4_join_15 rfl ?_
  refine q_imul C dX4_join_16 ?_
  refine q_iconst (v := 1) C dX4_join_17 (by decide) ?_
  refine q_iadd C dX4_join_18 ?_
  have s4 := h.1
  replace h := h.2
  refine q_iald C s2 s4 dX4_join_19 ?_
  refine q_ior C dX4_join_20 ?_
  refine q_istore (lo1 := [some (.ref a0), some (.ref a1), some (.int x2), some (.int (I (P a0 0) (Int32.toNatClampNeg (2 * x2)))), some (.int ((I (P a0 0) (Int32.toNatClampNeg (2 * x2))) ||| (I (P a0 0) (Int32.toNatClampNeg ((2 * x2) + 1))))), none, none, none, none, none, none, none]) C dX4_join_21 (by decide) rfl ?_
  refine q_aload_n C dX4_join_23 rfl ?_
  refine q_getP C fl_RX4_9 rfl s1 dX4_join_24 ?_
  refine q_iload_n C dX4_join_27 rfl ?_
  refine q_iload C dX4_join_28 rfl ?_
  have s5 := h.1
  replace h := h.2
  refine q_iast C s2 s5 dX4_join_30 (fun I6 eI6 => ?_)
  replace h := h I6 eI6
  refine q_aload_n C dX4_join_31 rfl ?_
  refine q_iconst (v := 2) C dX4_join_32 (by decide) ?_
  refine q_iload_n C dX4_join_33 rfl ?_
  refine q_imul C dX4_join_34 ?_
  refine q_iconst (v := 1) C dX4_join_35 (by decide) ?_
  refine q_iadd C dX4_join_36 ?_
  refine q_iload C dX4_join_37 rfl ?_
  refine q_iload_n C dX4_join_39 rfl ?_
  refine q_ixor C dX4_join_40 ?_
  have s7 := h.1
  replace h := h.2
  refine q_cVl (as := [.int ((2 * x2) + 1), .int (((I (P a0 0) (Int32.toNatClampNeg (2 * x2))) ||| (I (P a0 0) (Int32.toNatClampNeg ((2 * x2) + 1)))) ^^^ (I (P a0 0) (Int32.toNatClampNeg (2 * x2))))]) (st := []) (r := a1) C mv_X0_waysOf ml_RX4_38 dX4_join_41 rfl s7 rfl (Nat.le_of_ble_eq_true rfl) ⟨Nat.le_refl _, Nat.le_refl _⟩ h (fun r8 I9 L10 P11 h => ?_)
  refine q_lstore (lo1 := [some (.ref a0), some (.ref a1), some (.int x2), some (.int (I (P a0 0) (Int32.toNatClampNeg (2 * x2)))), some (.int ((I (P a0 0) (Int32.toNatClampNeg (2 * x2))) ||| (I (P a0 0) (Int32.toNatClampNeg ((2 * x2) + 1))))), some (.long r8), none, none, none, none, none, none]) C dX4_join_44 (by decide) rfl ?_
  refine q_lload C dX4_join_46 rfl ?_
  refine q_lconst (v := 0) C dX4_join_48 (by decide) ?_
  refine q_lcmp_eq (tgt := 78) C dX4_join_49 dX4_join_50 (by decide) (fun c12 => ?_) (fun c12 => ?_)
  · replace h := h.1 c12
    refine q_iconst (v := 0) C dX4_join_78 (by decide) ?_
    exact q_zret C hk (Or.inl rfl) dX4_join_79 ⟨rfl, h⟩
  · replace h := h.2 c12
    refine q_aload_n C dX4_join_53 rfl ?_
    refine q_iconst (v := 2) C dX4_join_54 (by decide) ?_
    refine q_iload_n C dX4_join_55 rfl ?_
    refine q_imul C dX4_join_56 ?_
    refine q_iload_n C dX4_join_57 rfl ?_
    refine q_cVl (as := [.int (2 * x2), .int (I (P a0 0) (Int32.toNatClampNeg (2 * x2)))]) (st := []) (r := a1) C mv_X0_waysOf ml_RX4_38 dX4_join_58 rfl s7 rfl (Nat.le_of_ble_eq_true rfl) ⟨Nat.le_refl _, Nat.le_refl _⟩ h (fun r13 I14 L15 P16 h => ?_)
    refine q_lconst (v := 0) C dX4_join_61 (by decide) ?_
    refine q_lcmp_eq (tgt := 78) C dX4_join_62 dX4_join_63 (by decide) (fun c17 => ?_) (fun c17 => ?_)
    · replace h := h.1 c17
      refine q_iconst (v := 0) C dX4_join_78 (by decide) ?_
      exact q_zret C hk (Or.inl rfl) dX4_join_79 ⟨rfl, h⟩
    · replace h := h.2 c17
      refine q_aload_n C dX4_join_66 rfl ?_
      refine q_iload_n C dX4_join_67 rfl ?_
      refine q_iload C dX4_join_68 rfl ?_
      refine q_cVl (as := [.int x2, .int ((I (P a0 0) (Int32.toNatClampNeg (2 * x2))) ||| (I (P a0 0) (Int32.toNatClampNeg ((2 * x2) + 1))))]) (st := []) (r := a1) C mv_X0_waysOf ml_RX4_38 dX4_join_70 rfl s7 rfl (Nat.le_of_ble_eq_true rfl) ⟨Nat.le_refl _, Nat.le_refl _⟩ h (fun r18 I19 L20 P21 h => ?_)
      refine q_lconst (v := 0) C dX4_join_73 (by decide) ?_
      refine q_lcmp_ne (tgt := 80) C dX4_join_74 dX4_join_75 (by decide) (fun c22 => ?_) (fun c22 => ?_)
      · replace h := h.1 c22
        refine q_aload_n C dX4_join_80 rfl ?_
        refine q_getP C fl_RX4_15 rfl s1 dX4_join_81 ?_
        refine q_iconst (v := 2) C dX4_join_84 (by decide) ?_
        refine q_iload_n C dX4_join_85 rfl ?_
        refine q_imul C dX4_join_86 ?_
        have s23 := h.1
        replace h := h.2
        have s24 := h.1
        replace h := h.2
        refine q_lald C s23 s24 dX4_join_87 ?_
        refine q_lload C dX4_join_88 rfl ?_
        refine q_lmul C dX4_join_90 ?_
        refine q_aload_n C dX4_join_91 rfl ?_
        refine q_getP C fl_RX4_15 rfl s1 dX4_join_92 ?_
        refine q_iconst (v := 2) C dX4_join_95 (by decide) ?_
        refine q_iload_n C dX4_join_96 rfl ?_
        refine q_imul C dX4_join_97 ?_
        refine q_iconst (v := 1) C dX4_join_98 (by decide) ?_
        refine q_iadd C dX4_join_99 ?_
        have s25 := h.1
        replace h := h.2
        refine q_lald C s23 s25 dX4_join_100 ?_
        refine q_ladd C dX4_join_101 ?_
        refine q_lstore (lo1 := [some (.ref a0), some (.ref a1), some (.int x2), some (.int (I (P a0 0) (Int32.toNatClampNeg (2 * x2)))), some (.int ((I (P a0 0) (Int32.toNatClampNeg (2 * x2))) ||| (I (P a0 0) (Int32.toNatClampNeg ((2 * x2) + 1))))), some (.long r8), none, some (.long (((L20 (P21 a0 1) (Int32.toNatClampNeg (2 * x2))) * r8) + (L20 (P21 a0 1) (Int32.toNatClampNeg ((2 * x2) + 1))))), none, none, none, none]) C dX4_join_102 (by decide) rfl ?_
        refine q_iconst (v := 1) C dX4_join_104 (by decide) ?_
        refine q_iload C dX4_join_105 rfl ?_
        refine q_cSi (as := [.int ((I (P a0 0) (Int32.toNatClampNeg (2 * x2))) ||| (I (P a0 0) (Int32.toNatClampNeg ((2 * x2) + 1))))]) (st := [.int 1]) C ms_J6_bitCount_0f7a4 ml_RX4_32 dX4_join_107 rfl rfl (Nat.le_of_ble_eq_true rfl) ⟨Nat.le_refl _, Nat.le_refl _⟩ h (fun r26 I27 L28 P29 h => ?_)
        refine q_ishl C dX4_join_110 ?_
        refine q_istore (lo1 := [some (.ref a0), some (.ref a1), some (.int x2), some (.int (I (P a0 0) (Int32.toNatClampNeg (2 * x2)))), some (.int ((I (P a0 0) (Int32.toNatClampNeg (2 * x2))) ||| (I (P a0 0) (Int32.toNatClampNeg ((2 * x2) + 1))))), some (.long r8), none, some (.long (((L20 (P21 a0 1) (Int32.toNatClampNeg (2 * x2))) * r8) + (L20 (P21 a0 1) (Int32.toNatClampNeg ((2 * x2) + 1))))), none, some (.int ((1 : Int32) <<< (r26 &&& 31))), none, none]) C dX4_join_111 (by decide) rfl ?_
        refine q_iconst (v := 0) C dX4_join_113 (by decide) ?_
        refine q_istore (lo1 := [some (.ref a0), some (.ref a1), some (.int x2), some (.int (I (P a0 0) (Int32.toNatClampNeg (2 * x2)))), some (.int ((I (P a0 0) (Int32.toNatClampNeg (2 * x2))) ||| (I (P a0 0) (Int32.toNatClampNeg ((2 * x2) + 1))))), some (.long r8), none, some (.long (((L20 (P21 a0 1) (Int32.toNatClampNeg (2 * x2))) * r8) + (L20 (P21 a0 1) (Int32.toNatClampNeg ((2 * x2) + 1))))), none, some (.int ((1 : Int32) <<< (r26 &&& 31))), some (.int 0), none]) C dX4_join_114 (by decide) rfl ?_
        refine q_iconst (v := 0) C dX4_join_116 (by decide) ?_
        refine q_istore (lo1 := [some (.ref a0), some (.ref a1), some (.int x2), some (.int (I (P a0 0) (Int32.toNatClampNeg (2 * x2)))), some (.int ((I (P a0 0) (Int32.toNatClampNeg (2 * x2))) ||| (I (P a0 0) (Int32.toNatClampNeg ((2 * x2) + 1))))), some (.long r8), none, some (.long (((L20 (P21 a0 1) (Int32.toNatClampNeg (2 * x2))) * r8) + (L20 (P21 a0 1) (Int32.toNatClampNeg ((2 * x2) + 1))))), none, some (.int ((1 : Int32) <<< (r26 &&& 31))), some (.int 0), some (.int 0)]) C dX4_join_117 (by decide) rfl ?_
        exact hT1 _ _ _ _ _ _ _ _ _ _ h
      · replace h := h.2 c22
        refine q_iconst (v := 0) C dX4_join_78 (by decide) ?_
        exact q_zret C hk (Or.inl rfl) dX4_join_79 ⟨rfl, h⟩
def vc_X4_join_1 (d : Nat) (sh : List qSh) (K : Option Value → qMI → qML → qMP → Prop) (T1 : Int32 → Int32 → Int64 → Int64 → Int32 → Int32 → Int32 → qMI → qML → qMP → Prop) (a0 : Nat) (a1 : Nat) (x2 : Int32) (x3 : Int32) (x4 : Int32) (l5 : Int64) (l7 : Int64) (x9 : Int32) (x10 : Int32) (x11 : Int32) (I : qMI) (L : qML) (P : qMP) : Prop :=
  ((x9 ≤ x11) → (((shp sh a0).1 = 4) ∧ (((shp sh (P a0 1)).1 = 21) ∧ ((vp_in x2 (shp sh (P a0 1)).2) ∧ (∀ L5 : qML, L5 = uL L (P a0 1) (Int32.toNatClampNeg x2) l7 → (K (some (.int 1)) I L5 P)))))) ∧ ((¬ x9 ≤ x11) → (((x10 = x3) → (((shp sh a0).1 = 4) ∧ (((shp sh (P a0 1)).1 = 21) ∧ ((vp_in x2 (shp sh (P a0 1)).2) ∧ (∀ L10 : qML, L10 = uL L (P a0 1) (Int32.toNatClampNeg x2) l7 → (K (some (.int 1)) I L10 P)))))) ∧ ((¬ x10 = x3) → (((shp sh a1).1 = 0) ∧ (Sq d mX0_waysOf sh [.ref a1, .int (2 * x2), .int x10] I L P (KL fun r12 I13 L14 P15 => Sq d mX0_waysOf sh [.ref a1, .int ((2 * x2) + 1), .int (x4 ^^^ x10)] I13 L14 P15 (KL fun r16 I17 L18 P19 => T1 x3 x4 l5 (l7 + (r12 * r16)) x9 ((x10 - x4) &&& x4) (x11 + 1) I17 L18 P19)))))))
set_option maxRecDepth 100000 in
set_option maxHeartbeats 4000000 in
theorem rg_X4_join_1 {X : qCT} {d : Nat} {sh : List qSh} {K : Option Value → qMI → qML → qMP → Prop} {T1 : Int32 → Int32 → Int64 → Int64 → Int32 → Int32 → Int32 → qMI → qML → qMP → Prop} {a0 : Nat} {a1 : Nat} {x2 : Int32} {x3 : Int32} {x4 : Int32} {l5 : Int64} {l7 : Int64} {x9 : Int32} {x10 : Int32} {x11 : Int32} {I : qMI} {L : qML} {P : qMP} (C : qCB X RX4 cX4_join 12 (d + 1) 0 0) (hk : qCK X (some .boolean) 0 0 (fun v sh' I' L' P' => sh' = sh ∧ K v I' L' P')) (hT1 : ∀ (x3 : Int32) (x4 : Int32) (l5 : Int64) (l7 : Int64) (x9 : Int32) (x10 : Int32) (x11 : Int32) (I : qMI) (L : qML) (P : qMP), T1 x3 x4 l5 l7 x9 x10 x11 I L P → qG X 119 [some (.ref a0), some (.ref a1), some (.int x2), some (.int x3), some (.int x4), some (.long l5), none, some (.long l7), none, some (.int x9), some (.int x10), some (.int x11)] [] sh I L P 0 0) (h : vc_X4_join_1 d sh K T1 a0 a1 x2 x3 x4 l5 l7 x9 x10 x11 I L P) : qG X 119 [some (.ref a0), some (.ref a1), some (.int x2), some (.int x3), some (.int x4), some (.long l5), none, some (.long l7), none, some (.int x9), some (.int x10), some (.int x11)] [] sh I L P 0 0 := by
  unfold vc_X4_join_1 at h
  refine q_iload C dX4_join_119 rfl ?_
  refine q_iload C dX4_join_121 rfl ?_
  refine q_icmp_ge (tgt := 177) C dX4_join_123 (by decide) (fun c1 => ?_) (fun c1 => ?_)
  · replace h := h.1 c1
    refine q_aload_n C dX4_join_177 rfl ?_
    have s2 := h.1
    replace h := h.2
    refine q_getP C fl_RX4_15 rfl s2 dX4_join_178 ?_
    refine q_iload_n C dX4_join_181 rfl ?_
    refine q_lload C dX4_join_182 rfl ?_
    have s3 := h.1
    replace h := h.2
    have s4 := h.1
    replace h := h.2
    refine q_last C s3 s4 dX4_join_184 (fun L5 eL5 => ?_)
    replace h := h L5 eL5
    refine q_iconst (v := 1) C dX4_join_185 (by decide) ?_
    exact q_zret C hk (Or.inr rfl) dX4_join_186 ⟨rfl, h⟩
  · replace h := h.2 c1
    refine q_iload C dX4_join_126 rfl ?_
    refine q_iload_n C dX4_join_128 rfl ?_
    refine q_icmp_eq (tgt := 177) C dX4_join_129 (by decide) (fun c6 => ?_) (fun c6 => ?_)
    · replace h := h.1 c6
      refine q_aload_n C dX4_join_177 rfl ?_
      have s7 := h.1
      replace h := h.2
      refine q_getP C fl_RX4_15 rfl s7 dX4_join_178 ?_
      refine q_iload_n C dX4_join_181 rfl ?_
      refine q_lload C dX4_join_182 rfl ?_
      have s8 := h.1
      replace h := h.2
      have s9 := h.1
      replace h := h.2
      refine q_last C s8 s9 dX4_join_184 (fun L10 eL10 => ?_)
      replace h := h L10 eL10
      refine q_iconst (v := 1) C dX4_join_185 (by decide) ?_
      exact q_zret C hk (Or.inr rfl) dX4_join_186 ⟨rfl, h⟩
    · replace h := h.2 c6
      refine q_lload C dX4_join_132 rfl ?_
      refine q_aload_n C dX4_join_134 rfl ?_
      refine q_iconst (v := 2) C dX4_join_135 (by decide) ?_
      refine q_iload_n C dX4_join_136 rfl ?_
      refine q_imul C dX4_join_137 ?_
      refine q_iload C dX4_join_138 rfl ?_
      have s11 := h.1
      replace h := h.2
      refine q_cVl (as := [.int (2 * x2), .int x10]) (st := [.long l7]) (r := a1) C mv_X0_waysOf ml_RX4_38 dX4_join_140 rfl s11 rfl (Nat.le_of_ble_eq_true rfl) ⟨Nat.le_refl _, Nat.le_refl _⟩ h (fun r12 I13 L14 P15 h => ?_)
      refine q_aload_n C dX4_join_143 rfl ?_
      refine q_iconst (v := 2) C dX4_join_144 (by decide) ?_
      refine q_iload_n C dX4_join_145 rfl ?_
      refine q_imul C dX4_join_146 ?_
      refine q_iconst (v := 1) C dX4_join_147 (by decide) ?_
      refine q_iadd C dX4_join_148 ?_
      refine q_iload C dX4_join_149 rfl ?_
      refine q_iload C dX4_join_151 rfl ?_
      refine q_ixor C dX4_join_153 ?_
      refine q_cVl (as := [.int ((2 * x2) + 1), .int (x4 ^^^ x10)]) (st := [.long r12, .long l7]) (r := a1) C mv_X0_waysOf ml_RX4_38 dX4_join_154 rfl s11 rfl (Nat.le_of_ble_eq_true rfl) ⟨Nat.le_refl _, Nat.le_refl _⟩ h (fun r16 I17 L18 P19 h => ?_)
      refine q_lmul C dX4_join_157 ?_
      refine q_ladd C dX4_join_158 ?_
      refine q_lstore (lo1 := [some (.ref a0), some (.ref a1), some (.int x2), some (.int x3), some (.int x4), some (.long l5), none, some (.long (l7 + (r12 * r16))), none, some (.int x9), some (.int x10), some (.int x11)]) C dX4_join_159 (by decide) rfl ?_
      refine q_iload C dX4_join_161 rfl ?_
      refine q_iload C dX4_join_163 rfl ?_
      refine q_isub C dX4_join_165 ?_
      refine q_iload C dX4_join_166 rfl ?_
      refine q_iand C dX4_join_168 ?_
      refine q_istore (lo1 := [some (.ref a0), some (.ref a1), some (.int x2), some (.int x3), some (.int x4), some (.long l5), none, some (.long (l7 + (r12 * r16))), none, some (.int x9), some (.int ((x10 - x4) &&& x4)), some (.int x11)]) C dX4_join_169 (by decide) rfl ?_
      refine q_iinc (w := 1) (lo1 := [some (.ref a0), some (.ref a1), some (.int x2), some (.int x3), some (.int x4), some (.long l5), none, some (.long (l7 + (r12 * r16))), none, some (.int x9), some (.int ((x10 - x4) &&& x4)), some (.int (x11 + 1))]) C dX4_join_171 rfl (by decide) (by decide) rfl ?_
      refine q_goto (tgt := 119) C dX4_join_174 (by decide) ?_
      exact hT1 _ _ _ _ _ _ _ _ _ _ h
theorem sp_X4_join {d : Nat} {sh : List qSh} {K : Option Value → qMI → qML → qMP → Prop} {a0 : Nat} {a1 : Nat} {x2 : Int32} {I : qMI} {L : qML} {P : qMP} (T1 : Int32 → Int32 → Int64 → Int64 → Int32 → Int32 → Int32 → qMI → qML → qMP → Prop) (m1 : Int32 → Int32 → Int64 → Int64 → Int32 → Int32 → Int32 → qMI → qML → qMP → Nat) (h0 : vc_X4_join_0 d sh K T1 a0 a1 x2 I L P)
    (h1 : ∀ (x3 : Int32) (x4 : Int32) (l5 : Int64) (l7 : Int64) (x9 : Int32) (x10 : Int32) (x11 : Int32) (I : qMI) (L : qML) (P : qMP), T1 x3 x4 l5 l7 x9 x10 x11 I L P → vc_X4_join_1 d sh K (fun w0 w1 w2 w3 w4 w5 w6 I' L' P' => T1 w0 w1 w2 w3 w4 w5 w6 I' L' P' ∧ m1 w0 w1 w2 w3 w4 w5 w6 I' L' P' < m1 x3 x4 l5 l7 x9 x10 x11 I L P) a0 a1 x2 x3 x4 l5 l7 x9 x10 x11 I L P) : Sq (d + 1) mX4_join sh [.ref a0, .ref a1, .int x2] I L P K := by
  refine Sq_of (by decide +kernel) (Nat.le_of_ble_eq_true rfl) (fun X C hk hn => ?_)
  have go : ∀ N : Nat, (∀ (x3 : Int32) (x4 : Int32) (l5 : Int64) (l7 : Int64) (x9 : Int32) (x10 : Int32) (x11 : Int32) (I : qMI) (L : qML) (P : qMP), T1 x3 x4 l5 l7 x9 x10 x11 I L P → m1 x3 x4 l5 l7 x9 x10 x11 I L P < N → qG X 119 [some (.ref a0), some (.ref a1), some (.int x2), some (.int x3), some (.int x4), some (.long l5), none, some (.long l7), none, some (.int x9), some (.int x10), some (.int x11)] [] sh I L P 0 0) := by
    intro N
    induction N with
    | zero => exact fun _ _ _ _ _ _ _ _ _ _ _ q => absurd q (Nat.not_lt_zero _)
    | succ N ih =>
      exact fun b0 b1 b2 b3 b4 b5 b6 I1 L1 P1 t q => rg_X4_join_1 C hk (fun z0 z1 z2 z3 z4 z5 z6 I2 L2 P2 z => ih z0 z1 z2 z3 z4 z5 z6 I2 L2 P2 z.1 (Nat.lt_of_lt_of_le z.2 (Nat.le_of_lt_succ q))) (h1 b0 b1 b2 b3 b4 b5 b6 I1 L1 P1 t)
  exact rg_X4_join_0 C hk (fun b0 b1 b2 b3 b4 b5 b6 I1 L1 P1 t => (go (m1 b0 b1 b2 b3 b4 b5 b6 I1 L1 P1 + 1)) b0 b1 b2 b3 b4 b5 b6 I1 L1 P1 t (Nat.lt_succ_self _)) h0
