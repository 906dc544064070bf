/-! BracketDraws$Draw.copyFrom(LBracketDraws$Draw;)V -/
def vc_X1_copyFrom_0 (d : Nat) (sh : List qSh) (K : Option Value → qMI → qML → qMP → Prop) (a0 : Nat) (a1 : Nat) (I : qMI) (L : qML) (P : qMP) : Prop :=
  ((shp sh a1).1 = 1) ∧ (((shp sh a0).1 = 1) ∧ (((I a1 0) = 0 ∨ (I a1 0) = 1) ∧ (∀ I4 : qMI, I4 = uI I a0 0 (I a1 0) → (∀ L5 : qML, L5 = uL L a0 1 (L a1 1) → (∀ I6 : qMI, I6 = uI I4 a0 2 (I4 a1 2) → (∀ I7 : qMI, I7 = uI I6 a0 3 (I6 a1 3) → (∀ I8 : qMI, I8 = uI I7 a0 4 (I7 a1 4) → (((shp sh (P a0 5)).1 = 20) ∧ (((shp sh (P a1 5)).1 = 20) ∧ ((¬ (nI (shp sh (P a0 5)).2) < 0) ∧ ((Int32.toNatClampNeg 0 + Int32.toNatClampNeg (nI (shp sh (P a0 5)).2) ≤ (shp sh (P a1 5)).2) ∧ ((Int32.toNatClampNeg 0 + Int32.toNatClampNeg (nI (shp sh (P a0 5)).2) ≤ (shp sh (P a0 5)).2) ∧ (∀ I14 : qMI, I14 = cI I8 (P a1 5) (P a0 5) (Int32.toNatClampNeg 0) (Int32.toNatClampNeg 0) (Int32.toNatClampNeg (nI (shp sh (P a0 5)).2)) → (((shp sh (P a0 6)).1 = 20) ∧ (((shp sh (P a1 6)).1 = 20) ∧ ((¬ (nI (shp sh (P a0 6)).2) < 0) ∧ ((Int32.toNatClampNeg 0 + Int32.toNatClampNeg (nI (shp sh (P a0 6)).2) ≤ (shp sh (P a1 6)).2) ∧ ((Int32.toNatClampNeg 0 + Int32.toNatClampNeg (nI (shp sh (P a0 6)).2) ≤ (shp sh (P a0 6)).2) ∧ (∀ I20 : qMI, I20 = cI I14 (P a1 6) (P a0 6) (Int32.toNatClampNeg 0) (Int32.toNatClampNeg 0) (Int32.toNatClampNeg (nI (shp sh (P a0 6)).2)) → (K none I20 L5 P))))))))))))))))))))
set_option maxRecDepth 100000 in
set_option maxHeartbeats 4000000 in
theorem rg_X1_copyFrom_0 {X : qCT} {d : Nat} {sh : List qSh} {K : Option Value → qMI → qML → qMP → Prop} {a0 : Nat} {a1 : Nat} {I : qMI} {L : qML} {P : qMP} (C : qCB X RX1 cX1_copyFrom 2 (d + 1) 0 0) (hk : qCK X (none) 0 0 (fun v sh' I' L' P' => sh' = sh ∧ K v I' L' P')) (h : vc_X1_copyFrom_0 d sh K a0 a1 I L P) : qG X 0 [some (.ref a0), some (.ref a1)] [] sh I L P 0 0 := by
  unfold vc_X1_copyFrom_0 at h
  refine q_aload_n C dX1_copyFrom_0 rfl ?_
  refine q_aload_n C dX1_copyFrom_1 rfl ?_
  have s1 := h.1
  replace h := h.2
  refine q_getI C fl_RX1_25 rfl s1 dX1_copyFrom_2 ?_
  have s2 := h.1
  replace h := h.2
  have s3 := h.1
  replace h := h.2
  refine q_putZ C fl_RX1_25 (fun T hT => by cases hT; rfl) rfl s2 s3 dX1_copyFrom_5 (fun I4 eI4 => ?_)
  replace h := h I4 eI4
  refine q_aload_n C dX1_copyFrom_8 rfl ?_
  refine q_aload_n C dX1_copyFrom_9 rfl ?_
  refine q_getL C fl_RX1_29 rfl s1 dX1_copyFrom_10 ?_
  refine q_putL C fl_RX1_29 (fun T hT => by cases hT; rfl) rfl s2 dX1_copyFrom_13 (fun L5 eL5 => ?_)
  replace h := h L5 eL5
  refine q_aload_n C dX1_copyFrom_16 rfl ?_
  refine q_aload_n C dX1_copyFrom_17 rfl ?_
  refine q_getI C fl_RX1_9 rfl s1 dX1_copyFrom_18 ?_
  refine q_putI C fl_RX1_9 (fun T hT => by cases hT; rfl) rfl s2 dX1_copyFrom_21 (fun I6 eI6 => ?_)
  replace h := h I6 eI6
  refine q_aload_n C dX1_copyFrom_24 rfl ?_
  refine q_aload_n C dX1_copyFrom_25 rfl ?_
  refine q_getI C fl_RX1_15 rfl s1 dX1_copyFrom_26 ?_
  refine q_putI C fl_RX1_15 (fun T hT => by cases hT; rfl) rfl s2 dX1_copyFrom_29 (fun I7 eI7 => ?_)
  replace h := h I7 eI7
  refine q_aload_n C dX1_copyFrom_32 rfl ?_
  refine q_aload_n C dX1_copyFrom_33 rfl ?_
  refine q_getI C fl_RX1_33 rfl s1 dX1_copyFrom_34 ?_
  refine q_putI C fl_RX1_33 (fun T hT => by cases hT; rfl) rfl s2 dX1_copyFrom_37 (fun I8 eI8 => ?_)
  replace h := h I8 eI8
  refine q_aload_n C dX1_copyFrom_40 rfl ?_
  refine q_getP C fl_RX1_18 rfl s1 dX1_copyFrom_41 ?_
  refine q_iconst (v := 0) C dX1_copyFrom_44 (by decide) ?_
  refine q_aload_n C dX1_copyFrom_45 rfl ?_
  refine q_getP C fl_RX1_18 rfl s2 dX1_copyFrom_46 ?_
  refine q_iconst (v := 0) C dX1_copyFrom_49 (by decide) ?_
  refine q_aload_n C dX1_copyFrom_50 rfl ?_
  refine q_getP C fl_RX1_18 rfl s2 dX1_copyFrom_51 ?_
  have s9 := h.1
  replace h := h.2
  refine q_alen20 C s9 dX1_copyFrom_54 ?_
  have s10 := h.1
  replace h := h.2
  have s11 := h.1
  replace h := h.2
  have s12 := h.1
  replace h := h.2
  have s13 := h.1
  replace h := h.2
  refine q_copyI C ml_RX1_36 s10 s9 (by decide) (by decide) s11 s12 s13 (Nat.le_of_ble_eq_true rfl) dX1_copyFrom_55 (fun I14 eI14 => ?_)
  replace h := h I14 eI14
  refine q_aload_n C dX1_copyFrom_58 rfl ?_
  refine q_getP C fl_RX1_22 rfl s1 dX1_copyFrom_59 ?_
  refine q_iconst (v := 0) C dX1_copyFrom_62 (by decide) ?_
  refine q_aload_n C dX1_copyFrom_63 rfl ?_
  refine q_getP C fl_RX1_22 rfl s2 dX1_copyFrom_64 ?_
  refine q_iconst (v := 0) C dX1_copyFrom_67 (by decide) ?_
  refine q_aload_n C dX1_copyFrom_68 rfl ?_
  refine q_getP C fl_RX1_22 rfl s2 dX1_copyFrom_69 ?_
  have s15 := h.1
  replace h := h.2
  refine q_alen20 C s15 dX1_copyFrom_72 ?_
  have s16 := h.1
  replace h := h.2
  have s17 := h.1
  replace h := h.2
  have s18 := h.1
  replace h := h.2
  have s19 := h.1
  replace h := h.2
  refine q_copyI C ml_RX1_36 s16 s15 (by decide) (by decide) s17 s18 s19 (Nat.le_of_ble_eq_true rfl) dX1_copyFrom_73 (fun I20 eI20 => ?_)
  replace h := h I20 eI20
  exact q_vret C hk dX1_copyFrom_76 ⟨rfl, h⟩
theorem sp_X1_copyFrom {d : Nat} {sh : List qSh} {K : Option Value → qMI → qML → qMP → Prop} {a0 : Nat} {a1 : Nat} {I : qMI} {L : qML} {P : qMP} (h0 : vc_X1_copyFrom_0 d sh K a0 a1 I L P) : Sq (d + 1) mX1_copyFrom sh [.ref a0, .ref a1] I L P K := by
  refine Sq_of (by decide +kernel) (Nat.le_of_ble_eq_true rfl) (fun X C hk hn => ?_)
  exact rg_X1_copyFrom_0 C hk h0
/-! BracketDraws$Draw.drop()V -/
def vc_X1_drop_0 (d : Nat) (sh : List qSh) (K : Option Value → qMI → qML → qMP → Prop) (a0 : Nat) (I : qMI) (L : qML) (P : qMP) : Prop :=
  ((shp sh a0).1 = 1) ∧ (∀ I2 : qMI, I2 = uI I a0 0 0 → (∀ I3 : qMI, I3 = uI I2 a0 4 0 → (K none I3 L P)))
set_option maxRecDepth 100000 in
set_option maxHeartbeats 4000000 in
theorem rg_X1_drop_0 {X : qCT} {d : Nat} {sh : List qSh} {K : Option Value → qMI → qML → qMP → Prop} {a0 : Nat} {I : qMI} {L : qML} {P : qMP} (C : qCB X RX1 cX1_drop 1 (d + 1) 0 0) (hk : qCK X (none) 0 0 (fun v sh' I' L' P' => sh' = sh ∧ K v I' L' P')) (h : vc_X1_drop_0 d sh K a0 I L P) : qG X 0 [some (.ref a0)] [] sh I L P 0 0 := by
  unfold vc_X1_drop_0 at h
  refine q_aload_n C dX1_drop_0 rfl ?_
  refine q_iconst (v := 0) C dX1_drop_1 (by decide) ?_
  have s1 := h.1
  replace h := h.2
  refine q_putZ C fl_RX1_25 (fun T hT => by cases hT; rfl) rfl s1 (Or.inl rfl) dX1_drop_2 (fun I2 eI2 => ?_)
  replace h := h I2 eI2
  refine q_aload_n C dX1_drop_5 rfl ?_
  refine q_iconst (v := 0) C dX1_drop_6 (by decide) ?_
  refine q_putI C fl_RX1_33 (fun T hT => by cases hT; rfl) rfl s1 dX1_drop_7 (fun I3 eI3 => ?_)
  replace h := h I3 eI3
  exact q_vret C hk dX1_drop_10 ⟨rfl, h⟩
theorem sp_X1_drop {d : Nat} {sh : List qSh} {K : Option Value → qMI → qML → qMP → Prop} {a0 : Nat} {I : qMI} {L : qML} {P : qMP} (h0 : vc_X1_drop_0 d sh K a0 I L P) : Sq (d + 1) mX1_drop sh [.ref a0] I L P K := by
  refine Sq_of (by decide +kernel) (Nat.le_of_ble_eq_true rfl) (fun X C hk hn => ?_)
  exact rg_X1_drop_0 C hk h0
/-! BracketDraws$Draw.begin(JLBracketDraws$Entries;)V -/
def vc_X1_begin_0 (d : Nat) (sh : List qSh) (K : Option Value → qMI → qML → qMP → Prop) (T1 : Int32 → qMI → qML → qMP → Prop) (a0 : Nat) (l1 : Int64) (a3 : Nat) (I : qMI) (L : qML) (P : qMP) : Prop :=
  ((shp sh a0).1 = 1) ∧ (∀ I2 : qMI, I2 = uI I a0 0 1 → (∀ L3 : qML, L3 = uL L a0 1 l1 → (((shp sh a3).1 = 2) ∧ (Sq d mX2_slots sh [.ref a3] I2 L3 P (KI fun r5 I6 L7 P8 => ∀ I9 : qMI, I9 = uI I6 a0 2 r5 → (Sq d mX2_rounds sh [.ref a3] I9 L7 P8 (KI fun r10 I11 L12 P13 => ∀ I14 : qMI, I14 = uI I11 a0 3 r10 → (∀ I15 : qMI, I15 = uI I14 a0 4 0 → (T1 0 I15 L12 P13)))))))))
set_option maxRecDepth 100000 in
set_option maxHeartbeats 4000000 in
theorem rg_X1_begin_0 {X : qCT} {d : Nat} {sh : List qSh} {K : Option Value → qMI → qML → qMP → Prop} {T1 : Int32 → qMI → qML → qMP → Prop} {a0 : Nat} {l1 : Int64} {a3 : Nat} {I : qMI} {L : qML} {P : qMP} (C : qCB X RX1 cX1_begin 5 (d + 1) 0 0) (hk : qCK X (none) 0 0 (fun v sh' I' L' P' => sh' = sh ∧ K v I' L' P')) (hT1 : ∀ (x4 : Int32) (I : qMI) (L : qML) (P : qMP), T1 x4 I L P → qG X 34 [some (.ref a0), some (.long l1), none, some (.ref a3), some (.int x4)] [] sh I L P 0 0) (h : vc_X1_begin_0 d sh K T1 a0 l1 a3 I L P) : qG X 0 [some (.ref a0), some (.long l1), none, some (.ref a3), none] [] sh I L P 0 0 := by
  unfold vc_X1_begin_0 at h
  refine q_aload_n C dX1_begin_0 rfl ?_
  refine q_iconst (v := 1) C dX1_begin_1 (by decide) ?_
  have s1 := h.1
  replace h := h.2
  refine q_putZ C fl_RX1_25 (fun T hT => by cases hT; rfl) rfl s1 (Or.inr rfl) dX1_begin_2 (fun I2 eI2 => ?_)
  replace h := h I2 eI2
  refine q_aload_n C dX1_begin_5 rfl ?_
  refine q_lload_n C dX1_begin_6 rfl ?_
  refine q_putL C fl_RX1_29 (fun T hT => by cases hT; rfl) rfl s1 dX1_begin_7 (fun L3 eL3 => ?_)
  replace h := h L3 eL3
  refine q_aload_n C dX1_begin_10 rfl ?_
  refine q_aload_n C dX1_begin_11 rfl ?_
  have s4 := h.1
  replace h := h.2
  refine q_cVi (as := []) (st := [.ref a0]) (r := a3) C mv_X2_slots ml_RX1_42 dX1_begin_12 rfl s4 rfl (Nat.le_of_ble_eq_true rfl) ⟨Nat.le_refl _, Nat.le_refl _⟩ h (fun r5 I6 L7 P8 h => ?_)
  refine q_putI C fl_RX1_9 (fun T hT => by cases hT; rfl) rfl s1 dX1_begin_15 (fun I9 eI9 => ?_)
  replace h := h I9 eI9
  refine q_aload_n C dX1_begin_18 rfl ?_
  refine q_aload_n C dX1_begin_19 rfl ?_
  refine q_cVi (as := []) (st := [.ref a0]) (r := a3) C mv_X2_rounds ml_RX1_47 dX1_begin_20 rfl s4 rfl (Nat.le_of_ble_eq_true rfl) ⟨Nat.le_refl _, Nat.le_refl _⟩ h (fun r10 I11 L12 P13 h => ?_)
  refine q_putI C fl_RX1_15 (fun T hT => by cases hT; rfl) rfl s1 dX1_begin_23 (fun I14 eI14 => ?_)
  replace h := h I14 eI14
  refine q_aload_n C dX1_begin_26 rfl ?_
  refine q_iconst (v := 0) C dX1_begin_27 (by decide) ?_
  refine q_putI C fl_RX1_33 (fun T hT => by cases hT; rfl) rfl s1 dX1_begin_28 (fun I15 eI15 => ?_)
  replace h := h I15 eI15
  refine q_iconst (v := 0) C dX1_begin_31 (by decide) ?_
  refine q_istore (lo1 := [some (.ref a0), some (.long l1), none, some (.ref a3), some (.int 0)]) C dX1_begin_32 (by decide) rfl ?_
  exact hT1 _ _ _ _ h
def vc_X1_begin_1 (d : Nat) (sh : List qSh) (K : Option Value → qMI → qML → qMP → Prop) (T1 : Int32 → qMI → qML → qMP → Prop) (a0 : Nat) (l1 : Int64) (a3 : Nat) (x4 : Int32) (I : qMI) (L : qML) (P : qMP) : Prop :=
  ((shp sh a0).1 = 1) ∧ (((shp sh (P a0 6)).1 = 20) ∧ ((((nI (shp sh (P a0 6)).2) ≤ x4) → (K none I L P)) ∧ ((¬ (nI (shp sh (P a0 6)).2) ≤ x4) → ((vp_in x4 (shp sh (P a0 6)).2) ∧ (∀ I5 : qMI, I5 = uI I (P a0 6) (Int32.toNatClampNeg x4) ((-1)) → (T1 (x4 + 1) I5 L P))))))
set_option maxRecDepth 100000 in
set_option maxHeartbeats 4000000 in
theorem rg_X1_begin_1 {X : qCT} {d : Nat} {sh : List qSh} {K : Option Value → qMI → qML → qMP → Prop} {T1 : Int32 → qMI → qML → qMP → Prop} {a0 : Nat} {l1 : Int64} {a3 : Nat} {x4 : Int32} {I : qMI} {L : qML} {P : qMP} (C : qCB X RX1 cX1_begin 5 (d + 1) 0 0) (hk : qCK X (none) 0 0 (fun v sh' I' L' P' => sh' = sh ∧ K v I' L' P')) (hT1 : ∀ (x4 : Int32) (I : qMI) (L : qML) (P : qMP), T1 x4 I L P → qG X 34 [some (.ref a0), some (.long l1), none, some (.ref a3), some (.int x4)] [] sh I L P 0 0) (h : vc_X1_begin_1 d sh K T1 a0 l1 a3 x4 I L P) : qG X 34 [some (.ref a0), some (.long l1), none, some (.ref a3), some (.int x4)] [] sh I L P 0 0 := by
  unfold vc_X1_begin_1 at h
  refine q_iload C dX1_begin_34 rfl ?_
  refine q_aload_n C dX1_begin_36 rfl ?_
  have s1 := h.1
  replace h := h.2
  refine q_getP C fl_RX1_22 rfl s1 dX1_begin_37 ?_
  have s2 := h.1
  replace h := h.2
  refine q_alen20 C s2 dX1_begin_40 ?_
  refine q_icmp_ge (tgt := 58) C dX1_begin_41 (by decide) (fun c3 => ?_) (fun c3 => ?_)
  · replace h := h.1 c3
    exact q_vret C hk dX1_begin_58 ⟨rfl, h⟩
  · replace h := h.2 c3
    refine q_aload_n C dX1_begin_44 rfl ?_
    refine q_getP C fl_RX1_22 rfl s1 dX1_begin_45 ?_
    refine q_iload C dX1_begin_48 rfl ?_
    refine q_iconst (v := (-1)) C dX1_begin_50 (by decide) ?_
    have s4 := h.1
    replace h := h.2
    refine q_iast C s2 s4 dX1_begin_51 (fun I5 eI5 => ?_)
    replace h := h I5 eI5
    refine q_iinc (w := 1) (lo1 := [some (.ref a0), some (.long l1), none, some (.ref a3), some (.int (x4 + 1))]) C dX1_begin_52 rfl (by decide) (by decide) rfl ?_
    refine q_goto (tgt := 34) C dX1_begin_55 (by decide) ?_
    exact hT1 _ _ _ _ h
theorem sp_X1_begin {d : Nat} {sh : List qSh} {K : Option Value → qMI → qML → qMP → Prop} {a0 : Nat} {l1 : Int64} {a3 : Nat} {I : qMI} {L : qML} {P : qMP} (T1 : Int32 → qMI → qML → qMP → Prop) (m1 : Int32 → qMI → qML → qMP → Nat) (h0 : vc_X1_begin_0 d sh K T1 a0 l1 a3 I L P)
    (h1 : ∀ (x4 : Int32) (I : qMI) (L : qML) (P : qMP), T1 x4 I L P → vc_X1_begin_1 d sh K (fun w0 I' L' P' => T1 w0 I' L' P' ∧ m1 w0 I' L' P' < m1 x4 I L P) a0 l1 a3 x4 I L P) : Sq (d + 1) mX1_begin sh [.ref a0, .long l1, .ref a3] I L P K := by
  refine Sq_of (by decide +kernel) (Nat.le_of_ble_eq_true rfl) (fun X C hk hn => ?_)
  have go : ∀ N : Nat, (∀ (x4 : Int32) (I : qMI) (L : qML) (P : qMP), T1 x4 I L P → m1 x4 I L P < N → qG X 34 [some (.ref a0), some (.long l1), none, some (.ref a3), some (.int x4)] [] sh I L P 0 0) := by
    intro N
    induction N with
    | zero => exact fun _ _ _ _ _ q => absurd q (Nat.not_lt_zero _)
    | succ N ih =>
      exact fun b0 I1 L1 P1 t q => rg_X1_begin_1 C hk (fun z0 I2 L2 P2 z => ih z0 I2 L2 P2 z.1 (Nat.lt_of_lt_of_le z.2 (Nat.le_of_lt_succ q))) (h1 b0 I1 L1 P1 t)
  exact rg_X1_begin_0 C hk (fun b0 I1 L1 P1 t => (go (m1 b0 I1 L1 P1 + 1)) b0 I1 L1 P1 t (Nat.lt_succ_self _)) h0
/-! BracketDraws$Draw.canGoOn()Z -/
def vc_X1_canGoOn_0 (d : Nat) (sh : List qSh) (K : Option Value → qMI → qML → qMP → Prop) (a0 : Nat) (I : qMI) (L : qML) (P : qMP) : Prop :=
  ((shp sh a0).1 = 1) ∧ ((((I a0 0) = 0) → (K (some (.int 0)) I L P)) ∧ ((¬ (I a0 0) = 0) → ((((I a0 3) ≤ (I a0 4)) → (K (some (.int 0)) I L P)) ∧ ((¬ (I a0 3) ≤ (I a0 4)) → (K (some (.int 1)) I L P)))))
set_option maxRecDepth 100000 in
set_option maxHeartbeats 4000000 in
theorem rg_X1_canGoOn_0 {X : qCT} {d : Nat} {sh : List qSh} {K : Option Value → qMI → qML → qMP → Prop} {a0 : Nat} {I : qMI} {L : qML} {P : qMP} (C : qCB X RX1 cX1_canGoOn 1 (d + 1) 0 0) (hk : qCK X (some .boolean) 0 0 (fun v sh' I' L' P' => sh' = sh ∧ K v I' L' P')) (h : vc_X1_canGoOn_0 d sh K a0 I L P) : qG X 0 [some (.ref a0)] [] sh I L P 0 0 := by
  unfold vc_X1_canGoOn_0 at h
  refine q_aload_n C dX1_canGoOn_0 rfl ?_
  have s1 := h.1
  replace h := h.2
  refine q_getI C fl_RX1_25 rfl s1 dX1_canGoOn_1 ?_
  refine q_if_eq (tgt := 22) C dX1_canGoOn_4 (by decide) (fun c2 => ?_) (fun c2 => ?_)
  · replace h := h.1 c2
    refine q_iconst (v := 0) C dX1_canGoOn_22 (by decide) ?_
    exact q_zret C hk (Or.inl rfl) dX1_canGoOn_23 ⟨rfl, h⟩
  · replace h := h.2 c2
    refine q_aload_n C dX1_canGoOn_7 rfl ?_
    refine q_getI C fl_RX1_33 rfl s1 dX1_canGoOn_8 ?_
    refine q_aload_n C dX1_canGoOn_11 rfl ?_
    refine q_getI C fl_RX1_15 rfl s1 dX1_canGoOn_12 ?_
    refine q_icmp_ge (tgt := 22) C dX1_canGoOn_15 (by decide) (fun c3 => ?_) (fun c3 => ?_)
    · replace h := h.1 c3
      refine q_iconst (v := 0) C dX1_canGoOn_22 (by decide) ?_
      exact q_zret C hk (Or.inl rfl) dX1_canGoOn_23 ⟨rfl, h⟩
    · replace h := h.2 c3
      refine q_iconst (v := 1) C dX1_canGoOn_18 (by decide) ?_
      refine q_goto (tgt := 23) C dX1_canGoOn_19 (by decide) ?_
      exact q_zret C hk (Or.inr rfl) dX1_canGoOn_23 ⟨rfl, h⟩
theorem sp_X1_canGoOn {d : Nat} {sh : List qSh} {K : Option Value → qMI → qML → qMP → Prop} {a0 : Nat} {I : qMI} {L : qML} {P : qMP} (h0 : vc_X1_canGoOn_0 d sh K a0 I L P) : Sq (d + 1) mX1_canGoOn sh [.ref a0] I L P K := by
  refine Sq_of (by decide +kernel) (Nat.le_of_ble_eq_true rfl) (fun X C hk hn => ?_)
  exact rg_X1_canGoOn_0 C hk h0
/-! BracketDraws$Draw.cameTo(I)I -/
def vc_X1_cameTo_0 (d : Nat) (sh : List qSh) (K : Option Value → qMI → qML → qMP → Prop) (a0 : Nat) (x1 : Int32) (I : qMI) (L : qML) (P : qMP) : Prop :=
  ((x1 < 1) → (K (some (.int 10)) I L P)) ∧ ((¬ x1 < 1) → (((shp sh a0).1 = 1) ∧ (((shp sh (P a0 5)).1 = 20) ∧ ((((nI (shp sh (P a0 5)).2) ≤ x1) → (K (some (.int 10)) I L P)) ∧ ((¬ (nI (shp sh (P a0 5)).2) ≤ x1) → ((vp_in x1 (shp sh (P a0 5)).2) ∧ (K (some (.int (I (P a0 5) (Int32.toNatClampNeg x1)))) I L P)))))))
set_option maxRecDepth 100000 in
set_option maxHeartbeats 4000000 in
theorem rg_X1_cameTo_0 {X : qCT} {d : Nat} {sh : List qSh} {K : Option Value → qMI → qML → qMP → Prop} {a0 : Nat} {x1 : Int32} {I : qMI} {L : qML} {P : qMP} (C : qCB X RX1 cX1_cameTo 2 (d + 1) 0 0) (hk : qCK X (some .int) 0 0 (fun v sh' I' L' P' => sh' = sh ∧ K v I' L' P')) (h : vc_X1_cameTo_0 d sh K a0 x1 I L P) : qG X 0 [some (.ref a0), some (.int x1)] [] sh I L P 0 0 := by
  unfold vc_X1_cameTo_0 at h
  refine q_iload_n C dX1_cameTo_0 rfl ?_
  refine q_iconst (v := 1) C dX1_cameTo_1 (by decide) ?_
  refine q_icmp_lt (tgt := 23) C dX1_cameTo_2 (by decide) (fun c1 => ?_) (fun c1 => ?_)
  · replace h := h.1 c1
    refine q_bipush (v := 10) C dX1_cameTo_23 (by decide) ?_
    exact q_iret C hk dX1_cameTo_25 ⟨rfl, h⟩
  · replace h := h.2 c1
    refine q_iload_n C dX1_cameTo_5 rfl ?_
    refine q_aload_n C dX1_cameTo_6 rfl ?_
    have s2 := h.1
    replace h := h.2
    refine q_getP C fl_RX1_18 rfl s2 dX1_cameTo_7 ?_
    have s3 := h.1
    replace h := h.2
    refine q_alen20 C s3 dX1_cameTo_10 ?_
    refine q_icmp_ge (tgt := 23) C dX1_cameTo_11 (by decide) (fun c4 => ?_) (fun c4 => ?_)
    · replace h := h.1 c4
      refine q_bipush (v := 10) C dX1_cameTo_23 (by decide) ?_
      exact q_iret C hk dX1_cameTo_25 ⟨rfl, h⟩
    · replace h := h.2 c4
      refine q_aload_n C dX1_cameTo_14 rfl ?_
      refine q_getP C fl_RX1_18 rfl s2 dX1_cameTo_15 ?_
      refine q_iload_n C dX1_cameTo_18 rfl ?_
      have s5 := h.1
      replace h := h.2
      refine q_iald C s3 s5 dX1_cameTo_19 ?_
      refine q_goto (tgt := 25) C dX1_cameTo_20 (by decide) ?_
      exact q_iret C hk dX1_cameTo_25 ⟨rfl, h⟩
theorem sp_X1_cameTo {d : Nat} {sh : List qSh} {K : Option Value → qMI → qML → qMP → Prop} {a0 : Nat} {x1 : Int32} {I : qMI} {L : qML} {P : qMP} (h0 : vc_X1_cameTo_0 d sh K a0 x1 I L P) : Sq (d + 1) mX1_cameTo sh [.ref a0, .int x1] I L P K := by
  refine Sq_of (by decide +kernel) (Nat.le_of_ble_eq_true rfl) (fun X C hk hn => ?_)
  exact rg_X1_cameTo_0 C hk h0
/-! BracketDraws$Draw.standing(I)I -/
def vc_X1_standing_0 (d : Nat) (sh : List qSh) (K : Option Value → qMI → qML → qMP → Prop) (a0 : Nat) (x1 : Int32) (I : qMI) (L : qML) (P : qMP) : Prop :=
  ((shp sh a0).1 = 1) ∧ (Sq d mX1_cameTo sh [.ref a0, .int ((I a0 2) + x1)] I L P (KI fun r2 I3 L4 P5 => K (some (.int r2)) I3 L4 P5))
set_option maxRecDepth 100000 in
set_option maxHeartbeats 4000000 in
theorem rg_X1_standing_0 {X : qCT} {d : Nat} {sh : List qSh} {K : Option Value → qMI → qML → qMP → Prop} {a0 : Nat} {x1 : Int32} {I : qMI} {L : qML} {P : qMP} (C : qCB X RX1 cX1_standing 2 (d + 1) 0 0) (hk : qCK X (some .int) 0 0 (fun v sh' I' L' P' => sh' = sh ∧ K v I' L' P')) (h : vc_X1_standing_0 d sh K a0 x1 I L P) : qG X 0 [some (.ref a0), some (.int x1)] [] sh I L P 0 0 := by
  unfold vc_X1_standing_0 at h
  refine q_aload_n C dX1_standing_0 rfl ?_
  refine q_aload_n C dX1_standing_1 rfl ?_
  have s1 := h.1
  replace h := h.2
  refine q_getI C fl_RX1_9 rfl s1 dX1_standing_2 ?_
  refine q_iload_n C dX1_standing_5 rfl ?_
  refine q_iadd C dX1_standing_6 ?_
  refine q_cVi (as := [.int ((I a0 2) + x1)]) (st := []) (r := a0) C mv_X1_cameTo ml_RX1_49 dX1_standing_7 rfl s1 rfl (Nat.le_of_ble_eq_true rfl) ⟨Nat.le_refl _, Nat.le_refl _⟩ h (fun r2 I3 L4 P5 h => ?_)
  exact q_iret C hk dX1_standing_10 ⟨rfl, h⟩
theorem sp_X1_standing {d : Nat} {sh : List qSh} {K : Option Value → qMI → qML → qMP → Prop} {a0 : Nat} {x1 : Int32} {I : qMI} {L : qML} {P : qMP} (h0 : vc_X1_standing_0 d sh K a0 x1 I L P) : Sq (d + 1) mX1_standing sh [.ref a0, .int x1] I L P K := by
  refine Sq_of (by decide +kernel) (Nat.le_of_ble_eq_true rfl) (fun X C hk hn => ?_)
  exact rg_X1_standing_0 C hk h0
/-! BracketDraws$Draw.cameThrough(II)I -/
def vc_X1_cameThrough_0 (d : Nat) (sh : List qSh) (K : Option Value → qMI → qML → qMP → Prop) (a0 : Nat) (x1 : Int32) (x2 : Int32) (I : qMI) (L : qML) (P : qMP) : Prop :=
  ((x1 < 1) → (K (some (.int 10)) I L P)) ∧ ((¬ x1 < 1) → (((shp sh a0).1 = 1) ∧ ((((I a0 3) < x1) → (K (some (.int 10)) I L P)) ∧ ((¬ (I a0 3) < x1) → (Sq d mX1_cameTo sh [.ref a0, .int (((I a0 2) >>> (x1 &&& 31)) + x2)] I L P (KI fun r4 I5 L6 P7 => K (some (.int r4)) I5 L6 P7))))))
set_option maxRecDepth 100000 in
set_option maxHeartbeats 4000000 in
theorem rg_X1_cameThrough_0 {X : qCT} {d : Nat} {sh : List qSh} {K : Option Value → qMI → qML → qMP → Prop} {a0 : Nat} {x1 : Int32} {x2 : Int32} {I : qMI} {L : qML} {P : qMP} (C : qCB X RX1 cX1_cameThrough 3 (d + 1) 0 0) (hk : qCK X (some .int) 0 0 (fun v sh' I' L' P' => sh' = sh ∧ K v I' L' P')) (h : vc_X1_cameThrough_0 d sh K a0 x1 x2 I L P) : qG X 0 [some (.ref a0), some (.int x1), some (.int x2)] [] sh I L P 0 0 := by
  unfold vc_X1_cameThrough_0 at h
  refine q_iload_n C dX1_cameThrough_0 rfl ?_
  refine q_iconst (v := 1) C dX1_cameThrough_1 (by decide) ?_
  refine q_icmp_lt (tgt := 28) C dX1_cameThrough_2 (by decide) (fun c1 => ?_) (fun c1 => ?_)
  · replace h := h.1 c1
    refine q_bipush (v := 10) C dX1_cameThrough_28 (by decide) ?_
    exact q_iret C hk dX1_cameThrough_30 ⟨rfl, h⟩
  · replace h := h.2 c1
    refine q_iload_n C dX1_cameThrough_5 rfl ?_
    refine q_aload_n C dX1_cameThrough_6 rfl ?_
    have s2 := h.1
    replace h := h.2
    refine q_getI C fl_RX1_15 rfl s2 dX1_cameThrough_7 ?_
    refine q_icmp_gt (tgt := 28) C dX1_cameThrough_10 (by decide) (fun c3 => ?_) (fun c3 => ?_)
    · replace h := h.1 c3
      refine q_bipush (v := 10) C dX1_cameThrough_28 (by decide) ?_
      exact q_iret C hk dX1_cameThrough_30 ⟨rfl, h⟩
    · replace h := h.2 c3
      refine q_aload_n C dX1_cameThrough_13 rfl ?_
      refine q_aload_n C dX1_cameThrough_14 rfl ?_
      refine q_getI C fl_RX1_9 rfl s2 dX1_cameThrough_15 ?_
      refine q_iload_n C dX1_cameThrough_18 rfl ?_
      refine q_ishr C dX1_cameThrough_19 ?_
      refine q_iload_n C dX1_cameThrough_20 rfl ?_
      refine q_iadd C dX1_cameThrough_21 ?_
      refine q_cVi (as := [.int (((I a0 2) >>> (x1 &&& 31)) + x2)]) (st := []) (r := a0) C mv_X1_cameTo ml_RX1_49 dX1_cameThrough_22 rfl s2 rfl (Nat.le_of_ble_eq_true rfl) ⟨Nat.le_refl _, Nat.le_refl _⟩ h (fun r4 I5 L6 P7 h => ?_)
      refine q_goto (tgt := 30) C dX1_cameThrough_25 (by decide) ?_
      exact q_iret C hk dX1_cameThrough_30 ⟨rfl, h⟩
theorem sp_X1_cameThrough {d : Nat} {sh : List qSh} {K : Option Value → qMI → qML → qMP → Prop} {a0 : Nat} {x1 : Int32} {x2 : Int32} {I : qMI} {L : qML} {P : qMP} (h0 : vc_X1_cameThrough_0 d sh K a0 x1 x2 I L P) : Sq (d + 1) mX1_cameThrough sh [.ref a0, .int x1, .int x2] I L P K := by
  refine Sq_of (by decide +kernel) (Nat.le_of_ble_eq_true rfl) (fun X C hk hn => ?_)
  exact rg_X1_cameThrough_0 C hk h0
/-! BracketDraws$Draw.slotOf(I)I -/
def vc_X1_slotOf_0 (d : Nat) (sh : List qSh) (K : Option Value → qMI → qML → qMP → Prop) (T1 : Int32 → qMI → qML → qMP → Prop) (a0 : Nat) (x1 : Int32) (I : qMI) (L : qML) (P : qMP) : Prop :=
  T1 0 I L P
set_option maxRecDepth 100000 in
set_option maxHeartbeats 4000000 in
theorem rg_X1_slotOf_0 {X : qCT} {d : Nat} {sh : List qSh} {K : Option Value → qMI → qML → qMP → Prop} {T1 : Int32 → qMI → qML → qMP → Prop} {a0 : Nat} {x1 : Int32} {I : qMI} {L : qML} {P : qMP} (C : qCB X RX1 cX1_slotOf 3 (d + 1) 0 0) (hk : qCK X (some .int) 0 0 (fun v sh' I' L' P' => sh' = sh ∧ K v I' L' P')) (hT1 : ∀ (x2 : Int32) (I : qMI) (L : qML) (P : qMP), T1 x2 I L P → qG X 2 [some (.ref a0), some (.int x1), some (.int x2)] [] sh I L P 0 0) (h : vc_X1_slotOf_0 d sh K T1 a0 x1 I L P) : qG X 0 [some (.ref a0), some (.int x1), none] [] sh I L P 0 0 := by
  unfold vc_X1_slotOf_0 at h
  refine q_iconst (v := 0) C dX1_slotOf_0 (by decide) ?_
  refine q_istore_n (lo1 := [some (.ref a0), some (.int x1), some (.int 0)]) C dX1_slotOf_1 (by decide) rfl ?_
  exact hT1 _ _ _ _ h
def vc_X1_slotOf_1 (d : Nat) (sh : List qSh) (K : Option Value → qMI → qML → qMP → Prop) (T1 : Int32 → qMI → qML → qMP → Prop) (a0 : Nat) (x1 : Int32) (x2 : Int32) (I : qMI) (L : qML) (P : qMP) : Prop :=
  ((shp sh a0).1 = 1) ∧ ((((I a0 2) ≤ x2) → (K (some (.int 0)) I L P)) ∧ ((¬ (I a0 2) ≤ x2) → (Sq d mX1_standing sh [.ref a0, .int x2] I L P (KI fun r3 I4 L5 P6 => ((¬ r3 = x1) → (T1 (x2 + 1) I4 L5 P6)) ∧ ((r3 = x1) → (K (some (.int x2)) I4 L5 P6))))))
set_option maxRecDepth 100000 in
set_option maxHeartbeats 4000000 in
theorem rg_X1_slotOf_1 {X : qCT} {d : Nat} {sh : List qSh} {K : Option Value → qMI → qML → qMP → Prop} {T1 : Int32 → qMI → qML → qMP → Prop} {a0 : Nat} {x1 : Int32} {x2 : Int32} {I : qMI} {L : qML} {P : qMP} (C : qCB X RX1 cX1_slotOf 3 (d + 1) 0 0) (hk : qCK X (some .int) 0 0 (fun v sh' I' L' P' => sh' = sh ∧ K v I' L' P')) (hT1 : ∀ (x2 : Int32) (I : qMI) (L : qML) (P : qMP), T1 x2 I L P → qG X 2 [some (.ref a0), some (.int x1), some (.int x2)] [] sh I L P 0 0) (h : vc_X1_slotOf_1 d sh K T1 a0 x1 x2 I L P) : qG X 2 [some (.ref a0), some (.int x1), some (.int x2)] [] sh I L P 0 0 := by
  unfold vc_X1_slotOf_1 at h
  refine q_iload_n C dX1_slotOf_2 rfl ?_
  refine q_aload_n C dX1_slotOf_3 rfl ?_
  have s1 := h.1
  replace h := h.2
  refine q_getI C fl_RX1_9 rfl s1 dX1_slotOf_4 ?_
  refine q_icmp_ge (tgt := 27) C dX1_slotOf_7 (by decide) (fun c2 => ?_) (fun c2 => ?_)
  · replace h := h.1 c2
    refine q_iconst (v := 0) C dX1_slotOf_27 (by decide) ?_
    exact q_iret C hk dX1_slotOf_28 ⟨rfl, h⟩
  · replace h := h.2 c2
    refine q_aload_n C dX1_slotOf_10 rfl ?_
    refine q_iload_n C dX1_slotOf_11 rfl ?_
    refine q_cVi (as := [.int x2]) (st := []) (r := a0) C mv_X1_standing ml_RX1_53 dX1_slotOf_12 rfl s1 rfl (Nat.le_of_ble_eq_true rfl) ⟨Nat.le_refl _, Nat.le_refl _⟩ h (fun r3 I4 L5 P6 h => ?_)
    refine q_iload_n C dX1_slotOf_15 rfl ?_
    refine q_icmp_ne (tgt := 21) C dX1_slotOf_16 (by decide) (fun c7 => ?_) (fun c7 => ?_)
    · replace h := h.1 c7
      refine q_iinc (w := 1) (lo1 := [some (.ref a0), some (.int x1), some (.int (x2 + 1))]) C dX1_slotOf_21 rfl (by decide) (by decide) rfl ?_
      refine q_goto (tgt := 2) C dX1_slotOf_24 (by decide) ?_
      exact hT1 _ _ _ _ h
    · replace h := h.2 c7
      refine q_iload_n C dX1_slotOf_19 rfl ?_
      exact q_iret C hk dX1_slotOf_20 ⟨rfl, h⟩
theorem sp_X1_slotOf {d : Nat} {sh : List qSh} {K : Option Value → qMI → qML → qMP → Prop} {a0 : Nat} {x1 : Int32} {I : qMI} {L : qML} {P : qMP} (T1 : Int32 → qMI → qML → qMP → Prop) (m1 : Int32 → qMI → qML → qMP → Nat) (h0 : vc_X1_slotOf_0 d sh K T1 a0 x1 I L P)
    (h1 : ∀ (x2 : Int32) (I : qMI) (L : qML) (P : qMP), T1 x2 I L P → vc_X1_slotOf_1 d sh K (fun w0 I' L' P' => T1 w0 I' L' P' ∧ m1 w0 I' L' P' < m1 x2 I L P) a0 x1 x2 I L P) : Sq (d + 1) mX1_slotOf sh [.ref a0, .int x1] I L P K := by
  refine Sq_of (by decide +kernel) (Nat.le_of_ble_eq_true rfl) (fun X C hk hn => ?_)
  have go : ∀ N : Nat, (∀ (x2 : Int32) (I : qMI) (L : qML) (P : qMP), T1 x2 I L P → m1 x2 I L P < N → qG X 2 [some (.ref a0), some (.int x1), some (.int x2)] [] sh I L P 0 0) := by
    intro N
    induction N with
    | zero => exact fun _ _ _ _ _ q => absurd q (Nat.not_lt_zero _)
    | succ N ih =>
      exact fun b0 I1 L1 P1 t q => rg_X1_slotOf_1 C hk (fun z0 I2 L2 P2 z => ih z0 I2 L2 P2 z.1 (Nat.lt_of_lt_of_le z.2 (Nat.le_of_lt_succ q))) (h1 b0 I1 L1 P1 t)
  exact rg_X1_slotOf_0 C hk (fun b0 I1 L1 P1 t => (go (m1 b0 I1 L1 P1 + 1)) b0 I1 L1 P1 t (Nat.lt_succ_self _)) h0
/-! BracketDraws$Draw.firstCommonRound(II)I -/
def vc_X1_firstCommonRound_0 (d : Nat) (sh : List qSh) (K : Option Value → qMI → qML → qMP → Prop) (T1 : Int32 → Int32 → qMI → qML → qMP → Prop) (a0 : Nat) (x1 : Int32) (x2 : Int32) (I : qMI) (L : qML) (P : qMP) : Prop :=
  ((shp sh a0).1 = 1) ∧ (Sq d mX1_slotOf sh [.ref a0, .int x1] I L P (KI fun r2 I3 L4 P5 => Sq d mX1_slotOf sh [.ref a0, .int x2] I3 L4 P5 (KI fun r6 I7 L8 P9 => T1 (r2 ^^^ r6) 0 I7 L8 P9)))
set_option maxRecDepth 100000 in
set_option maxHeartbeats 4000000 in
theorem rg_X1_firstCommonRound_0 {X : qCT} {d : Nat} {sh : List qSh} {K : Option Value → qMI → qML → qMP → Prop} {T1 : Int32 → Int32 → qMI → qML → qMP → Prop} {a0 : Nat} {x1 : Int32} {x2 : Int32} {I : qMI} {L : qML} {P : qMP} (C : qCB X RX1 cX1_firstCommonRound 5 (d + 1) 0 0) (hk : qCK X (some .int) 0 0 (fun v sh' I' L' P' => sh' = sh ∧ K v I' L' P')) (hT1 : ∀ (x3 : Int32) (x4 : Int32) (I : qMI) (L : qML) (P : qMP), T1 x3 x4 I L P → qG X 15 [some (.ref a0), some (.int x1), some (.int x2), some (.int x3), some (.int x4)] [] sh I L P 0 0) (h : vc_X1_firstCommonRound_0 d sh K T1 a0 x1 x2 I L P) : qG X 0 [some (.ref a0), some (.int x1), some (.int x2), none, none] [] sh I L P 0 0 := by
  unfold vc_X1_firstCommonRound_0 at h
  refine q_aload_n C dX1_firstCommonRound_0 rfl ?_
  refine q_iload_n C dX1_firstCommonRound_1 rfl ?_
  have s1 := h.1
  replace h := h.2
  refine q_cVi (as := [.int x1]) (st := []) (r := a0) C mv_X1_slotOf ml_RX1_56 dX1_firstCommonRound_2 rfl s1 rfl (Nat.le_of_ble_eq_true rfl) ⟨Nat.le_refl _, Nat.le_refl _⟩ h (fun r2 I3 L4 P5 h => ?_)
  refine q_aload_n C dX1_firstCommonRound_5 rfl ?_
  refine q_iload_n C dX1_firstCommonRound_6 rfl ?_
  refine q_cVi (as := [.int x2]) (st := [.int r2]) (r := a0) C mv_X1_slotOf ml_RX1_56 dX1_firstCommonRound_7 rfl s1 rfl (Nat.le_of_ble_eq_true rfl) ⟨Nat.le_refl _, Nat.le_refl _⟩ h (fun r6 I7 L8 P9 h => ?_)
  refine q_ixor C dX1_firstCommonRound_10 ?_
  refine q_istore_n (lo1 := [some (.ref a0), some (.int x1), some (.int x2), some (.int (r2 ^^^ r6)), none]) C dX1_firstCommonRound_11 (by decide) rfl ?_
  refine q_iconst (v := 0) C dX1_firstCommonRound_12 (by decide) ?_
  refine q_istore (lo1 := [some (.ref a0), some (.int x1), some (.int x2), some (.int (r2 ^^^ r6)), some (.int 0)]) C dX1_firstCommonRound_13 (by decide) rfl ?_
  exact hT1 _ _ _ _ _ h
def vc_X1_firstCommonRound_1 (d : Nat) (sh : List qSh) (K : Option Value → qMI → qML → qMP → Prop) (T1 : Int32 → Int32 → qMI → qML → qMP → Prop) (a0 : Nat) (x1 : Int32) (x2 : Int32) (x3 : Int32) (x4 : Int32) (I : qMI) (L : qML) (P : qMP) : Prop :=
  ((shp sh a0).1 = 1) ∧ ((((I a0 3) ≤ x4) → (K (some (.int x4)) I L P)) ∧ ((¬ (I a0 3) ≤ x4) → ((((x3 >>> (x4 &&& 31)) = 0) → (K (some (.int x4)) I L P)) ∧ ((¬ (x3 >>> (x4 &&& 31)) = 0) → (T1 x3 (x4 + 1) I L P)))))
set_option maxRecDepth 100000 in
set_option maxHeartbeats 4000000 in
theorem rg_X1_firstCommonRound_1 {X : qCT} {d : Nat} {sh : List qSh} {K : Option Value → qMI → qML → qMP → Prop} {T1 : Int32 → Int32 → qMI → qML → qMP → Prop} {a0 : Nat} {x1 : Int32} {x2 : Int32} {x3 : Int32} {x4 : Int32} {I : qMI} {L : qML} {P : qMP} (C : qCB X RX1 cX1_firstCommonRound 5 (d + 1) 0 0) (hk : qCK X (some .int) 0 0 (fun v sh' I' L' P' => sh' = sh ∧ K v I' L' P')) (hT1 : ∀ (x3 : Int32) (x4 : Int32) (I : qMI) (L : qML) (P : qMP), T1 x3 x4 I L P → qG X 15 [some (.ref a0), some (.int x1), some (.int x2), some (.int x3), some (.int x4)] [] sh I L P 0 0) (h : vc_X1_firstCommonRound_1 d sh K T1 a0 x1 x2 x3 x4 I L P) : qG X 15 [some (.ref a0), some (.int x1), some (.int x2), some (.int x3), some (.int x4)] [] sh I L P 0 0 := by
  unfold vc_X1_firstCommonRound_1 at h
  refine q_iload C dX1_firstCommonRound_15 rfl ?_
  refine q_aload_n C dX1_firstCommonRound_17 rfl ?_
  have s1 := h.1
  replace h := h.2
  refine q_getI C fl_RX1_15 rfl s1 dX1_firstCommonRound_18 ?_
  refine q_icmp_ge (tgt := 37) C dX1_firstCommonRound_21 (by decide) (fun c2 => ?_) (fun c2 => ?_)
  · replace h := h.1 c2
    refine q_iload C dX1_firstCommonRound_37 rfl ?_
    exact q_iret C hk dX1_firstCommonRound_39 ⟨rfl, h⟩
  · replace h := h.2 c2
    refine q_iload_n C dX1_firstCommonRound_24 rfl ?_
    refine q_iload C dX1_firstCommonRound_25 rfl ?_
    refine q_ishr C dX1_firstCommonRound_27 ?_
    refine q_if_eq (tgt := 37) C dX1_firstCommonRound_28 (by decide) (fun c3 => ?_) (fun c3 => ?_)
    · replace h := h.1 c3
      refine q_iload C dX1_firstCommonRound_37 rfl ?_
      exact q_iret C hk dX1_firstCommonRound_39 ⟨rfl, h⟩
    · replace h := h.2 c3
      refine q_iinc (w := 1) (lo1 := [some (.ref a0), some (.int x1), some (.int x2), some (.int x3), some (.int (x4 + 1))]) C dX1_firstCommonRound_31 rfl (by decide) (by decide) rfl ?_
      refine q_goto (tgt := 15) C dX1_firstCommonRound_34 (by decide) ?_
      exact hT1 _ _ _ _ _ h
theorem sp_X1_firstCommonRound {d : Nat} {sh : List qSh} {K : Option Value → qMI → qML → qMP → Prop} {a0 : Nat} {x1 : Int32} {x2 : Int32} {I : qMI} {L : qML} {P : qMP} (T1 : Int32 → Int32 → qMI → qML → qMP → Prop) (m1 : Int32 → Int32 → qMI → qML → qMP → Nat) (h0 : vc_X1_firstCommonRound_0 d sh K T1 a0 x1 x2 I L P)
    (h1 : ∀ (x3 : Int32) (x4 : Int32) (I : qMI) (L : qML) (P : qMP), T1 x3 x4 I L P → vc_X1_firstCommonRound_1 d sh K (fun w0 w1 I' L' P' => T1 w0 w1 I' L' P' ∧ m1 w0 w1 I' L' P' < m1 x3 x4 I L P) a0 x1 x2 x3 x4 I L P) : Sq (d + 1) mX1_firstCommonRound sh [.ref a0, .int x1, .int x2] I L P K := by
  refine Sq_of (by decide +kernel) (Nat.le_of_ble_eq_true rfl) (fun X C hk hn => ?_)
  have go : ∀ N : Nat, (∀ (x3 : Int32) (x4 : Int32) (I : qMI) (L : qML) (P : qMP), T1 x3 x4 I L P → m1 x3 x4 I L P < N → qG X 15 [some (.ref a0), some (.int x1), some (.int x2), some (.int x3), some (.int x4)] [] sh I L P 0 0) := by
    intro N
    induction N with
    | zero => exact fun _ _ _ _ _ _ q => absurd q (Nat.not_lt_zero _)
    | succ N ih =>
      exact fun b0 b1 I1 L1 P1 t q => rg_X1_firstCommonRound_1 C hk (fun z0 z1 I2 L2 P2 z => ih z0 z1 I2 L2 P2 z.1 (Nat.lt_of_lt_of_le z.2 (Nat.le_of_lt_succ q))) (h1 b0 b1 I1 L1 P1 t)
  exact rg_X1_firstCommonRound_0 C hk (fun b0 b1 I1 L1 P1 t => (go (m1 b0 b1 I1 L1 P1 + 1)) b0 b1 I1 L1 P1 t (Nat.lt_succ_self _)) h0
/-! BracketDraws$Draw.blockOf(II)I -/
def vc_X1_blockOf_0 (d : Nat) (sh : List qSh) (K : Option Value → qMI → qML → qMP → Prop) (a0 : Nat) (x1 : Int32) (x2 : Int32) (I : qMI) (L : qML) (P : qMP) : Prop :=
  ((shp sh a0).1 = 1) ∧ (Sq d mX1_slotOf sh [.ref a0, .int x1] I L P (KI fun r2 I3 L4 P5 => K (some (.int (((I a0 2) + r2) >>> (x2 &&& 31)))) I3 L4 P5))
set_option maxRecDepth 100000 in
set_option maxHeartbeats 4000000 in
theorem rg_X1_blockOf_0 {X : qCT} {d : Nat} {sh : List qSh} {K : Option Value → qMI → qML → qMP → Prop} {a0 : Nat} {x1 : Int32} {x2 : Int32} {I : qMI} {L : qML} {P : qMP} (C : qCB X RX1 cX1_blockOf 3 (d + 1) 0 0) (hk : qCK X (some .int) 0 0 (fun v sh' I' L' P' => sh' = sh ∧ K v I' L' P')) (h : vc_X1_blockOf_0 d sh K a0 x1 x2 I L P) : qG X 0 [some (.ref a0), some (.int x1), some (.int x2)] [] sh I L P 0 0 := by
  unfold vc_X1_blockOf_0 at h
  refine q_aload_n C dX1_blockOf_0 rfl ?_
  have s1 := h.1
  replace h := h.2
  refine q_getI C fl_RX1_9 rfl s1 dX1_blockOf_1 ?_
  refine q_aload_n C dX1_blockOf_4 rfl ?_
  refine q_iload_n C dX1_blockOf_5 rfl ?_
  refine q_cVi (as := [.int x1]) (st := [.int (I a0 2)]) (r := a0) C mv_X1_slotOf ml_RX1_56 dX1_blockOf_6 rfl s1 rfl (Nat.le_of_ble_eq_true rfl) ⟨Nat.le_refl _, Nat.le_refl _⟩ h (fun r2 I3 L4 P5 h => ?_)
  refine q_iadd C dX1_blockOf_9 ?_
  refine q_iload_n C dX1_blockOf_10 rfl ?_
  refine q_ishr C dX1_blockOf_11 ?_
  exact q_iret C hk dX1_blockOf_12 ⟨rfl, h⟩
theorem sp_X1_blockOf {d : Nat} {sh : List qSh} {K : Option Value → qMI → qML → qMP → Prop} {a0 : Nat} {x1 : Int32} {x2 : Int32} {I : qMI} {L : qML} {P : qMP} (h0 : vc_X1_blockOf_0 d sh K a0 x1 x2 I L P) : Sq (d + 1) mX1_blockOf sh [.ref a0, .int x1, .int x2] I L P K := by
  refine Sq_of (by decide +kernel) (Nat.le_of_ble_eq_true rfl) (fun X C hk hn => ?_)
  exact rg_X1_blockOf_0 C hk h0
/-! BracketDraws$Draw.isIn(II)Z -/
def vc_X1_isIn_0 (d : Nat) (sh : List qSh) (K : Option Value → qMI → qML → qMP → Prop) (a0 : Nat) (x1 : Int32) (x2 : Int32) (I : qMI) (L : qML) (P : qMP) : Prop :=
  ((shp sh a0).1 = 1) ∧ (Sq d mX1_blockOf sh [.ref a0, .int x1, .int x2] I L P (KI fun r2 I3 L4 P5 => Sq d mX1_cameTo sh [.ref a0, .int r2] I3 L4 P5 (KI fun r6 I7 L8 P9 => ((¬ r6 = x1) → (K (some (.int 0)) I7 L8 P9)) ∧ ((r6 = x1) → (K (some (.int 1)) I7 L8 P9)))))
set_option maxRecDepth 100000 in
set_option maxHeartbeats 4000000 in
theorem rg_X1_isIn_0 {X : qCT} {d : Nat} {sh : List qSh} {K : Option Value → qMI → qML → qMP → Prop} {a0 : Nat} {x1 : Int32} {x2 : Int32} {I : qMI} {L : qML} {P : qMP} (C : qCB X RX1 cX1_isIn 3 (d + 1) 0 0) (hk : qCK X (some .boolean) 0 0 (fun v sh' I' L' P' => sh' = sh ∧ K v I' L' P')) (h : vc_X1_isIn_0 d sh K a0 x1 x2 I L P) : qG X 0 [some (.ref a0), some (.int x1), some (.int x2)] [] sh I L P 0 0 := by
  unfold vc_X1_isIn_0 at h
  refine q_aload_n C dX1_isIn_0 rfl ?_
  refine q_aload_n C dX1_isIn_1 rfl ?_
  refine q_iload_n C dX1_isIn_2 rfl ?_
  refine q_iload_n C dX1_isIn_3 rfl ?_
  have s1 := h.1
  replace h := h.2
  refine q_cVi (as := [.int x1, .int x2]) (st := [.ref a0]) (r := a0) C mv_X1_blockOf ml_RX1_59 dX1_isIn_4 rfl s1 rfl (Nat.le_of_ble_eq_true rfl) ⟨Nat.le_refl _, Nat.le_refl _⟩ h (fun r2 I3 L4 P5 h => ?_)
  refine q_cVi (as := [.int r2]) (st := []) (r := a0) C mv_X1_cameTo ml_RX1_49 dX1_isIn_7 rfl s1 rfl (Nat.le_of_ble_eq_true rfl) ⟨Nat.le_refl _, Nat.le_refl _⟩ h (fun r6 I7 L8 P9 h => ?_)
  refine q_iload_n C dX1_isIn_10 rfl ?_
  refine q_icmp_ne (tgt := 18) C dX1_isIn_11 (by decide) (fun c10 => ?_) (fun c10 => ?_)
  · replace h := h.1 c10
    refine q_iconst (v := 0) C dX1_isIn_18 (by decide) ?_
    exact q_zret C hk (Or.inl rfl) dX1_isIn_19 ⟨rfl, h⟩
  · replace h := h.2 c10
    refine q_iconst (v := 1) C dX1_isIn_14 (by decide) ?_
    refine q_goto (tgt := 19) C dX1_isIn_15 (by decide) ?_
    exact q_zret C hk (Or.inr rfl) dX1_isIn_19 ⟨rfl, h⟩
theorem sp_X1_isIn {d : Nat} {sh : List qSh} {K : Option Value → qMI → qML → qMP → Prop} {a0 : Nat} {x1 : Int32} {x2 : Int32} {I : qMI} {L : qML} {P : qMP} (h0 : vc_X1_isIn_0 d sh K a0 x1 x2 I L P) : Sq (d + 1) mX1_isIn sh [.ref a0, .int x1, .int x2] I L P K := by
  refine Sq_of (by decide +kernel) (Nat.le_of_ble_eq_true rfl) (fun X C hk hn => ?_)
  exact rg_X1_isIn_0 C hk h0
/-! BracketDraws$Draw.opponent(II)I -/
def vc_X1_opponent_0 (d : Nat) (sh : List qSh) (K : Option Value → qMI → qML → qMP → Prop) (a0 : Nat) (x1 : Int32) (x2 : Int32) (I : qMI) (L : qML) (P : qMP) : Prop :=
  ((shp sh a0).1 = 1) ∧ (Sq d mX1_blockOf sh [.ref a0, .int x1, .int (x2 - 1)] I L P (KI fun r2 I3 L4 P5 => Sq d mX1_cameTo sh [.ref a0, .int (r2 ^^^ 1)] I3 L4 P5 (KI fun r6 I7 L8 P9 => K (some (.int r6)) I7 L8 P9)))
set_option maxRecDepth 100000 in
set_option maxHeartbeats 4000000 in
theorem rg_X1_opponent_0 {X : qCT} {d : Nat} {sh : List qSh} {K : Option Value → qMI → qML → qMP → Prop} {a0 : Nat} {x1 : Int32} {x2 : Int32} {I : qMI} {L : qML} {P : qMP} (C : qCB X RX1 cX1_opponent 3 (d + 1) 0 0) (hk : qCK X (some .int) 0 0 (fun v sh' I' L' P' => sh' = sh ∧ K v I' L' P')) (h : vc_X1_opponent_0 d sh K a0 x1 x2 I L P) : qG X 0 [some (.ref a0), some (.int x1), some (.int x2)] [] sh I L P 0 0 := by
  unfold vc_X1_opponent_0 at h
  refine q_aload_n C dX1_opponent_0 rfl ?_
  refine q_aload_n C dX1_opponent_1 rfl ?_
  refine q_iload_n C dX1_opponent_2 rfl ?_
  refine q_iload_n C dX1_opponent_3 rfl ?_
  refine q_iconst (v := 1) C dX1_opponent_4 (by decide) ?_
  refine q_isub C dX1_opponent_5 ?_
  have s1 := h.1
  replace h := h.2
  refine q_cVi (as := [.int x1, .int (x2 - 1)]) (st := [.ref a0]) (r := a0) C mv_X1_blockOf ml_RX1_59 dX1_opponent_6 rfl s1 rfl (Nat.le_of_ble_eq_true rfl) ⟨Nat.le_refl _, Nat.le_refl _⟩ h (fun r2 I3 L4 P5 h => ?_)
  refine q_iconst (v := 1) C dX1_opponent_9 (by decide) ?_
  refine q_ixor C dX1_opponent_10 ?_
  refine q_cVi (as := [.int (r2 ^^^ 1)]) (st := []) (r := a0) C mv_X1_cameTo ml_RX1_49 dX1_opponent_11 rfl s1 rfl (Nat.le_of_ble_eq_true rfl) ⟨Nat.le_refl _, Nat.le_refl _⟩ h (fun r6 I7 L8 P9 h => ?_)
  exact q_iret C hk dX1_opponent_14 ⟨rfl, h⟩
theorem sp_X1_opponent {d : Nat} {sh : List qSh} {K : Option Value → qMI → qML → qMP → Prop} {a0 : Nat} {x1 : Int32} {x2 : Int32} {I : qMI} {L : qML} {P : qMP} (h0 : vc_X1_opponent_0 d sh K a0 x1 x2 I L P) : Sq (d + 1) mX1_opponent sh [.ref a0, .int x1, .int x2] I L P K := by
  refine Sq_of (by decide +kernel) (Nat.le_of_ble_eq_true rfl) (fun X C hk hn => ?_)
  exact rg_X1_opponent_0 C hk h0
/-! BracketDraws$Draw.favour(I)V -/
def vc_X1_favour_0 (d : Nat) (sh : List qSh) (K : Option Value → qMI → qML → qMP → Prop) (a0 : Nat) (x1 : Int32) (I : qMI) (L : qML) (P : qMP) : Prop :=
  ((shp sh a0).1 = 1) ∧ (Sq d mX1_blockOf sh [.ref a0, .int x1, .int ((I a0 4) + 1)] I L P (KI fun r2 I3 L4 P5 => ((r2 < 1) → (K none I3 L4 P5)) ∧ ((¬ r2 < 1) → (((shp sh (P5 a0 6)).1 = 20) ∧ ((((nI (shp sh (P5 a0 6)).2) ≤ r2) → (K none I3 L4 P5)) ∧ ((¬ (nI (shp sh (P5 a0 6)).2) ≤ r2) → ((vp_in r2 (shp sh (P5 a0 6)).2) ∧ (∀ I10 : qMI, I10 = uI I3 (P5 a0 6) (Int32.toNatClampNeg r2) x1 → (K none I10 L4 P5)))))))))
set_option maxRecDepth 100000 in
set_option maxHeartbeats 4000000 in
theorem rg_X1_favour_0 {X : qCT} {d : Nat} {sh : List qSh} {K : Option Value → qMI → qML → qMP → Prop} {a0 : Nat} {x1 : Int32} {I : qMI} {L : qML} {P : qMP} (C : qCB X RX1 cX1_favour 3 (d + 1) 0 0) (hk : qCK X (none) 0 0 (fun v sh' I' L' P' => sh' = sh ∧ K v I' L' P')) (h : vc_X1_favour_0 d sh K a0 x1 I L P) : qG X 0 [some (.ref a0), some (.int x1), none] [] sh I L P 0 0 := by
  unfold vc_X1_favour_0 at h
  refine q_aload_n C dX1_favour_0 rfl ?_
  refine q_iload_n C dX1_favour_1 rfl ?_
  refine q_aload_n C dX1_favour_2 rfl ?_
  have s1 := h.1
  replace h := h.2
  refine q_getI C fl_RX1_33 rfl s1 dX1_favour_3 ?_
  refine q_iconst (v := 1) C dX1_favour_6 (by decide) ?_
  refine q_iadd C dX1_favour_7 ?_
  refine q_cVi (as := [.int x1, .int ((I a0 4) + 1)]) (st := []) (r := a0) C mv_X1_blockOf ml_RX1_59 dX1_favour_8 rfl s1 rfl (Nat.le_of_ble_eq_true rfl) ⟨Nat.le_refl _, Nat.le_refl _⟩ h (fun r2 I3 L4 P5 h => ?_)
  refine q_istore_n (lo1 := [some (.ref a0), some (.int x1), some (.int r2)]) C dX1_favour_11 (by decide) rfl ?_
  refine q_iload_n C dX1_favour_12 rfl ?_
  refine q_iconst (v := 1) C dX1_favour_13 (by decide) ?_
  refine q_icmp_lt (tgt := 33) C dX1_favour_14 (by decide) (fun c6 => ?_) (fun c6 => ?_)
  · replace h := h.1 c6
    exact q_vret C hk dX1_favour_33 ⟨rfl, h⟩
  · replace h := h.2 c6
    refine q_iload_n C dX1_favour_17 rfl ?_
    refine q_aload_n C dX1_favour_18 rfl ?_
    refine q_getP C fl_RX1_22 rfl s1 dX1_favour_19 ?_
    have s7 := h.1
    replace h := h.2
    refine q_alen20 C s7 dX1_favour_22 ?_
    refine q_icmp_ge (tgt := 33) C dX1_favour_23 (by decide) (fun c8 => ?_) (fun c8 => ?_)
    · replace h := h.1 c8
      exact q_vret C hk dX1_favour_33 ⟨rfl, h⟩
    · replace h := h.2 c8
      refine q_aload_n C dX1_favour_26 rfl ?_
      refine q_getP C fl_RX1_22 rfl s1 dX1_favour_27 ?_
      refine q_iload_n C dX1_favour_30 rfl ?_
      refine q_iload_n C dX1_favour_31 rfl ?_
      have s9 := h.1
      replace h := h.2
      refine q_iast C s7 s9 dX1_favour_32 (fun I10 eI10 => ?_)
      replace h := h I10 eI10
      exact q_vret C hk dX1_favour_33 ⟨rfl, h⟩
theorem sp_X1_favour {d : Nat} {sh : List qSh} {K : Option Value → qMI → qML → qMP → Prop} {a0 : Nat} {x1 : Int32} {I : qMI} {L : qML} {P : qMP} (h0 : vc_X1_favour_0 d sh K a0 x1 I L P) : Sq (d + 1) mX1_favour sh [.ref a0, .int x1] I L P K := by
  refine Sq_of (by decide +kernel) (Nat.le_of_ble_eq_true rfl) (fun X C hk hn => ?_)
  exact rg_X1_favour_0 C hk h0
/-! BracketDraws$Draw.goOn(LBracketDraws$Entries;)V -/
def vc_X1_goOn_0 (d : Nat) (sh : List qSh) (K : Option Value → qMI → qML → qMP → Prop) (T1 : Int32 → Int32 → qMI → qML → qMP → Prop) (a0 : Nat) (a1 : Nat) (I : qMI) (L : qML) (P : qMP) : Prop :=
  ((shp sh a0).1 = 1) ∧ (Sq d mX1_canGoOn sh [.ref a0] I L P (KI fun r2 I3 L4 P5 => ((¬ r2 = 0) → (T1 ((I3 a0 2) >>> (((I3 a0 4) + 1) &&& 31)) ((I3 a0 2) >>> (((I3 a0 4) + 1) &&& 31)) I3 L4 P5)) ∧ ((r2 = 0) → (K none I3 L4 P5))))
set_option maxRecDepth 100000 in
set_option maxHeartbeats 4000000 in
theorem rg_X1_goOn_0 {X : qCT} {d : Nat} {sh : List qSh} {K : Option Value → qMI → qML → qMP → Prop} {T1 : Int32 → Int32 → qMI → qML → qMP → Prop} {a0 : Nat} {a1 : Nat} {I : qMI} {L : qML} {P : qMP} (C : qCB X RX1 cX1_goOn 4 (d + 1) 0 0) (hk : qCK X (none) 0 0 (fun v sh' I' L' P' => sh' = sh ∧ K v I' L' P')) (hT1 : ∀ (x2 : Int32) (x3 : Int32) (I : qMI) (L : qML) (P : qMP), T1 x2 x3 I L P → qG X 22 [some (.ref a0), some (.ref a1), some (.int x2), some (.int x3)] [] sh I L P 0 0) (h : vc_X1_goOn_0 d sh K T1 a0 a1 I L P) : qG X 0 [some (.ref a0), some (.ref a1), none, none] [] sh I L P 0 0 := by
  unfold vc_X1_goOn_0 at h
  refine q_aload_n C dX1_goOn_0 rfl ?_
  have s1 := h.1
  replace h := h.2
  refine q_cVi (as := []) (st := []) (r := a0) C mv_X1_canGoOn ml_RX1_63 dX1_goOn_1 rfl s1 rfl (Nat.le_of_ble_eq_true rfl) ⟨Nat.le_refl _, Nat.le_refl _⟩ h (fun r2 I3 L4 P5 h => ?_)
  refine q_if_ne (tgt := 8) C dX1_goOn_4 (by decide) (fun c6 => ?_) (fun c6 => ?_)
  · replace h := h.1 c6
    refine q_aload_n C dX1_goOn_8 rfl ?_
    refine q_getI C fl_RX1_9 rfl s1 dX1_goOn_9 ?_
    refine q_aload_n C dX1_goOn_12 rfl ?_
    refine q_getI C fl_RX1_33 rfl s1 dX1_goOn_13 ?_
    refine q_iconst (v := 1) C dX1_goOn_16 (by decide) ?_
    refine q_iadd C dX1_goOn_17 ?_
    refine q_ishr C dX1_goOn_18 ?_
    refine q_istore_n (lo1 := [some (.ref a0), some (.ref a1), some (.int ((I3 a0 2) >>> (((I3 a0 4) + 1) &&& 31))), none]) C dX1_goOn_19 (by decide) rfl ?_
    refine q_iload_n C dX1_goOn_20 rfl ?_
    refine q_istore_n (lo1 := [some (.ref a0), some (.ref a1), some (.int ((I3 a0 2) >>> (((I3 a0 4) + 1) &&& 31))), some (.int ((I3 a0 2) >>> (((I3 a0 4) + 1) &&& 31)))]) C dX1_goOn_21 (by decide) rfl ?_
    exact hT1 _ _ _ _ _ h
  · replace h := h.2 c6
    exact q_vret C hk dX1_goOn_7 ⟨rfl, h⟩
def vc_X1_goOn_1 (d : Nat) (sh : List qSh) (K : Option Value → qMI → qML → qMP → Prop) (T1 : Int32 → Int32 → qMI → qML → qMP → Prop) (a0 : Nat) (a1 : Nat) (x2 : Int32) (x3 : Int32) (I : qMI) (L : qML) (P : qMP) : Prop :=
  (((2 * x2) ≤ x3) → (((shp sh a0).1 = 1) ∧ (∀ I3 : qMI, I3 = uI I a0 4 ((I a0 4) + 1) → (K none I3 L P)))) ∧ ((¬ (2 * x2) ≤ x3) → (((shp sh a0).1 = 1) ∧ (((shp sh (P a0 6)).1 = 20) ∧ ((((nI (shp sh (P a0 6)).2) ≤ x3) → (∀ I7 : qMI, I7 = uI I a0 4 ((I a0 4) + 1) → (K none I7 L P))) ∧ ((¬ (nI (shp sh (P a0 6)).2) ≤ x3) → (Sq d mX1_comesThrough sh [.ref a0, .int x3, .ref a1] I L P (KI fun r8 I9 L10 P11 => ((shp sh (P a0 5)).1 = 20) ∧ ((vp_in x3 (shp sh (P a0 5)).2) ∧ (∀ I14 : qMI, I14 = uI I9 (P a0 5) (Int32.toNatClampNeg x3) r8 → (T1 x2 (x3 + 1) I14 L10 P11))))))))))
set_option maxRecDepth 100000 in
set_option maxHeartbeats 4000000 in
theorem rg_X1_goOn_1 {X : qCT} {d : Nat} {sh : List qSh} {K : Option Value → qMI → qML → qMP → Prop} {T1 : Int32 → Int32 → qMI → qML → qMP → Prop} {a0 : Nat} {a1 : Nat} {x2 : Int32} {x3 : Int32} {I : qMI} {L : qML} {P : qMP} (C : qCB X RX1 cX1_goOn 4 (d + 1) 0 0) (hk : qCK X (none) 0 0 (fun v sh' I' L' P' => sh' = sh ∧ K v I' L' P')) (hT1 : ∀ (x2 : Int32) (x3 : Int32) (I : qMI) (L : qML) (P : qMP), T1 x2 x3 I L P → qG X 22 [some (.ref a0), some (.ref a1), some (.int x2), some (.int x3)] [] sh I L P 0 0) (h : vc_X1_goOn_1 d sh K T1 a0 a1 x2 x3 I L P) : qG X 22 [some (.ref a0), some (.ref a1), some (.int x2), some (.int x3)] [] sh I L P 0 0 := by
  unfold vc_X1_goOn_1 at h
  refine q_iload_n C dX1_goOn_22 rfl ?_
  refine q_iconst (v := 2) C dX1_goOn_23 (by decide) ?_
  refine q_iload_n C dX1_goOn_24 rfl ?_
  refine q_imul C dX1_goOn_25 ?_
  refine q_icmp_ge (tgt := 56) C dX1_goOn_26 (by decide) (fun c1 => ?_) (fun c1 => ?_)
  · replace h := h.1 c1
    refine q_aload_n C dX1_goOn_56 rfl ?_
    refine q_dup C dX1_goOn_57 rfl ?_
    have s2 := h.1
    replace h := h.2
    refine q_getI C fl_RX1_33 rfl s2 dX1_goOn_58 ?_
    refine q_iconst (v := 1) C dX1_goOn_61 (by decide) ?_
    refine q_iadd C dX1_goOn_62 ?_
    refine q_putI C fl_RX1_33 (fun T hT => by cases hT; rfl) rfl s2 dX1_goOn_63 (fun I3 eI3 => ?_)
    replace h := h I3 eI3
    exact q_vret C hk dX1_goOn_66 ⟨rfl, h⟩
  · replace h := h.2 c1
    refine q_iload_n C dX1_goOn_29 rfl ?_
    refine q_aload_n C dX1_goOn_30 rfl ?_
    have s4 := h.1
    replace h := h.2
    refine q_getP C fl_RX1_22 rfl s4 dX1_goOn_31 ?_
    have s5 := h.1
    replace h := h.2
    refine q_alen20 C s5 dX1_goOn_34 ?_
    refine q_icmp_ge (tgt := 56) C dX1_goOn_35 (by decide) (fun c6 => ?_) (fun c6 => ?_)
    · replace h := h.1 c6
      refine q_aload_n C dX1_goOn_56 rfl ?_
      refine q_dup C dX1_goOn_57 rfl ?_
      refine q_getI C fl_RX1_33 rfl s4 dX1_goOn_58 ?_
      refine q_iconst (v := 1) C dX1_goOn_61 (by decide) ?_
      refine q_iadd C dX1_goOn_62 ?_
      refine q_putI C fl_RX1_33 (fun T hT => by cases hT; rfl) rfl s4 dX1_goOn_63 (fun I7 eI7 => ?_)
      replace h := h I7 eI7
      exact q_vret C hk dX1_goOn_66 ⟨rfl, h⟩
    · replace h := h.2 c6
      refine q_aload_n C dX1_goOn_38 rfl ?_
      refine q_getP C fl_RX1_18 rfl s4 dX1_goOn_39 ?_
      refine q_iload_n C dX1_goOn_42 rfl ?_
      refine q_aload_n C dX1_goOn_43 rfl ?_
      refine q_iload_n C dX1_goOn_44 rfl ?_
      refine q_aload_n C dX1_goOn_45 rfl ?_
      refine q_cVi (as := [.int x3, .ref a1]) (st := [.int x3, .ref (P a0 5)]) (r := a0) C mv_X1_comesThrough ml_RX1_67 dX1_goOn_46 rfl s4 rfl (Nat.le_of_ble_eq_true rfl) ⟨Nat.le_refl _, Nat.le_refl _⟩ h (fun r8 I9 L10 P11 h => ?_)
      have s12 := h.1
      replace h := h.2
      have s13 := h.1
      replace h := h.2
      refine q_iast C s12 s13 dX1_goOn_49 (fun I14 eI14 => ?_)
      replace h := h I14 eI14
      refine q_iinc (w := 1) (lo1 := [some (.ref a0), some (.ref a1), some (.int x2), some (.int (x3 + 1))]) C dX1_goOn_50 rfl (by decide) (by decide) rfl ?_
      refine q_goto (tgt := 22) C dX1_goOn_53 (by decide) ?_
      exact hT1 _ _ _ _ _ h
theorem sp_X1_goOn {d : Nat} {sh : List qSh} {K : Option Value → qMI → qML → qMP → Prop} {a0 : Nat} {a1 : Nat} {I : qMI} {L : qML} {P : qMP} (T1 : Int32 → Int32 → qMI → qML → qMP → Prop) (m1 : Int32 → Int32 → qMI → qML → qMP → Nat) (h0 : vc_X1_goOn_0 d sh K T1 a0 a1 I L P)
    (h1 : ∀ (x2 : Int32) (x3 : Int32) (I : qMI) (L : qML) (P : qMP), T1 x2 x3 I L P → vc_X1_goOn_1 d sh K (fun w0 w1 I' L' P' => T1 w0 w1 I' L' P' ∧ m1 w0 w1 I' L' P' < m1 x2 x3 I L P) a0 a1 x2 x3 I L P) : Sq (d + 1) mX1_goOn sh [.ref a0, .ref a1] I L P K := by
  refine Sq_of (by decide +kernel) (Nat.le_of_ble_eq_true rfl) (fun X C hk hn => ?_)
  have go : ∀ N : Nat, (∀ (x2 : Int32) (x3 : Int32) (I : qMI) (L : qML) (P : qMP), T1 x2 x3 I L P → m1 x2 x3 I L P < N → qG X 22 [some (.ref a0), some (.ref a1), some (.int x2), some (.int x3)] [] sh I L P 0 0) := by
    intro N
    induction N with
    | zero => exact fun _ _ _ _ _ _ q => absurd q (Nat.not_lt_zero _)
    | succ N ih =>
      exact fun b0 b1 I1 L1 P1 t q => rg_X1_goOn_1 C hk (fun z0 z1 I2 L2 P2 z => ih z0 z1 I2 L2 P2 z.1 (Nat.lt_of_lt_of_le z.2 (Nat.le_of_lt_succ q))) (h1 b0 b1 I1 L1 P1 t)
  exact rg_X1_goOn_0 C hk (fun b0 b1 I1 L1 P1 t => (go (m1 b0 b1 I1 L1 P1 + 1)) b0 b1 I1 L1 P1 t (Nat.lt_succ_self _)) h0
/-! BracketDraws$Draw.comesThrough(ILBracketDraws$Entries;)I -/
def vc_X1_comesThrough_0 (d : Nat) (sh : List qSh) (K : Option Value → qMI → qML → qMP → Prop) (a0 : Nat) (x1 : Int32) (a2 : Nat) (I : qMI) (L : qML) (P : qMP) : Prop :=
  ((shp sh a0).1 = 1) ∧ (Sq d mX1_cameTo sh [.ref a0, .int (2 * x1)] I L P (KI fun r2 I3 L4 P5 => Sq d mX1_cameTo sh [.ref a0, .int ((2 * x1) + 1)] I3 L4 P5 (KI fun r6 I7 L8 P9 => ((r2 = 10) → (((¬ r2 = 10) → (K (some (.int r2)) I7 L8 P9)) ∧ ((r2 = 10) → (K (some (.int r6)) I7 L8 P9)))) ∧ ((¬ r2 = 10) → (((¬ r6 = 10) → (((x1 < 1) → (((((-1)) = r2) → (K (some (.int ((-1)))) I7 L8 P9)) ∧ ((¬ ((-1)) = r2) → (((¬ ((-1)) = r6) → (((shp sh a2).1 = 2) ∧ (Sq d mX2_beats sh [.ref a2, .int r2, .int r6] I7 L8 P9 (KI fun r17 I18 L19 P20 => ((r17 = 0) → (K (some (.int r6)) I18 L19 P20)) ∧ ((¬ r17 = 0) → (K (some (.int r2)) I18 L19 P20)))))) ∧ ((((-1)) = r6) → (K (some (.int ((-1)))) I7 L8 P9)))))) ∧ ((¬ x1 < 1) → (((shp sh (P9 a0 6)).1 = 20) ∧ ((((nI (shp sh (P9 a0 6)).2) ≤ x1) → (((((-1)) = r2) → (K (some (.int ((-1)))) I7 L8 P9)) ∧ ((¬ ((-1)) = r2) → (((¬ ((-1)) = r6) → (((shp sh a2).1 = 2) ∧ (Sq d mX2_beats sh [.ref a2, .int r2, .int r6] I7 L8 P9 (KI fun r27 I28 L29 P30 => ((r27 = 0) → (K (some (.int r6)) I28 L29 P30)) ∧ ((¬ r27 = 0) → (K (some (.int r2)) I28 L29 P30)))))) ∧ ((((-1)) = r6) → (K (some (.int ((-1)))) I7 L8 P9)))))) ∧ ((¬ (nI (shp sh (P9 a0 6)).2) ≤ x1) → ((vp_in x1 (shp sh (P9 a0 6)).2) ∧ ((((I7 (P9 a0 6) (Int32.toNatClampNeg x1)) = r2) → (K (some (.int (I7 (P9 a0 6) (Int32.toNatClampNeg x1)))) I7 L8 P9)) ∧ ((¬ (I7 (P9 a0 6) (Int32.toNatClampNeg x1)) = r2) → (((¬ (I7 (P9 a0 6) (Int32.toNatClampNeg x1)) = r6) → (((shp sh a2).1 = 2) ∧ (Sq d mX2_beats sh [.ref a2, .int r2, .int r6] I7 L8 P9 (KI fun r36 I37 L38 P39 => ((r36 = 0) → (K (some (.int r6)) I37 L38 P39)) ∧ ((¬ r36 = 0) → (K (some (.int r2)) I37 L38 P39)))))) ∧ (((I7 (P9 a0 6) (Int32.toNatClampNeg x1)) = r6) → (K (some (.int (I7 (P9 a0 6) (Int32.toNatClampNeg x1)))) I7 L8 P9)))))))))))) ∧ ((r6 = 10) → (((¬ r2 = 10) → (K (some (.int r2)) I7 L8 P9)) ∧ ((r2 = 10) → (K (some (.int r6)) I7 L8 P9)))))))))
set_option maxRecDepth 100000 in
set_option maxHeartbeats 4000000 in
theorem rg_X1_comesThrough_0 {X : qCT} {d : Nat} {sh : List qSh} {K : Option Value → qMI → qML → qMP → Prop} {a0 : Nat} {x1 : Int32} {a2 : Nat} {I : qMI} {L : qML} {P : qMP} (C : qCB X RX1 cX1_comesThrough 6 (d + 1) 0 0) (hk : qCK X (some .int) 0 0 (fun v sh' I' L' P' => sh' = sh ∧ K v I' L' P')) (h : vc_X1_comesThrough_0 d sh K a0 x1 a2 I L P) : qG X 0 [some (.ref a0), some (.int x1), some (.ref a2), none, none, none] [] sh I L P 0 0 := by
  unfold vc_X1_comesThrough_0 at h
  refine q_aload_n C dX1_comesThrough_0 rfl ?_
  refine q_iconst (v := 2) C dX1_comesThrough_1 (by decide) ?_
  refine q_iload_n C dX1_comesThrough_2 rfl ?_
  refine q_imul C dX1_comesThrough_3 ?_
  have s1 := h.1
  replace h := h.2
  refine q_cVi (as := [.int (2 * x1)]) (st := []) (r := a0) C mv_X1_cameTo ml_RX1_49 dX1_comesThrough_4 rfl s1 rfl (Nat.le_of_ble_eq_true rfl) ⟨Nat.le_refl _, Nat.le_refl _⟩ h (fun r2 I3 L4 P5 h => ?_)
  refine q_istore_n (lo1 := [some (.ref a0), some (.int x1), some (.ref a2), some (.int r2), none, none]) C dX1_comesThrough_7 (by decide) rfl ?_
  refine q_aload_n C dX1_comesThrough_8 rfl ?_
  refine q_iconst (v := 2) C dX1_comesThrough_9 (by decide) ?_
  refine q_iload_n C dX1_comesThrough_10 rfl ?_
  refine q_imul C dX1_comesThrough_11 ?_
  refine q_iconst (v := 1) C dX1_comesThrough_12 (by decide) ?_
  refine q_iadd C dX1_comesThrough_13 ?_
  refine q_cVi (as := [.int ((2 * x1) + 1)]) (st := []) (r := a0) C mv_X1_cameTo ml_RX1_49 dX1_comesThrough_14 rfl s1 rfl (Nat.le_of_ble_eq_true rfl) ⟨Nat.le_refl _, Nat.le_refl _⟩ h (fun r6 I7 L8 P9 h => ?_)
  refine q_istore (lo1 := [some (.ref a0), some (.int x1), some (.ref a2), some (.int r2), some (.int r6), none]) C dX1_comesThrough_17 (by decide) rfl ?_
  refine q_iload_n C dX1_comesThrough_19 rfl ?_
  refine q_bipush (v := 10) C dX1_comesThrough_20 (by decide) ?_
  refine q_icmp_eq (tgt := 32) C dX1_comesThrough_22 (by decide) (fun c10 => ?_) (fun c10 => ?_)
  · replace h := h.1 c10
    refine q_iload_n C dX1_comesThrough_32 rfl ?_
    refine q_bipush (v := 10) C dX1_comesThrough_33 (by decide) ?_
    refine q_icmp_ne (tgt := 43) C dX1_comesThrough_35 (by decide) (fun c11 => ?_) (fun c11 => ?_)
    · replace h := h.1 c11
      refine q_iload_n C dX1_comesThrough_43 rfl ?_
      exact q_iret C hk dX1_comesThrough_44 ⟨rfl, h⟩
    · replace h := h.2 c11
      refine q_iload C dX1_comesThrough_38 rfl ?_
      refine q_goto (tgt := 44) C dX1_comesThrough_40 (by decide) ?_
      exact q_iret C hk dX1_comesThrough_44 ⟨rfl, h⟩
  · replace h := h.2 c10
    refine q_iload C dX1_comesThrough_25 rfl ?_
    refine q_bipush (v := 10) C dX1_comesThrough_27 (by decide) ?_
    refine q_icmp_ne (tgt := 45) C dX1_comesThrough_29 (by decide) (fun c12 => ?_) (fun c12 => ?_)
    · replace h := h.1 c12
      refine q_iload_n C dX1_comesThrough_45 rfl ?_
      refine q_iconst (v := 1) C dX1_comesThrough_46 (by decide) ?_
      refine q_icmp_lt (tgt := 68) C dX1_comesThrough_47 (by decide) (fun c13 => ?_) (fun c13 => ?_)
      · replace h := h.1 c13
        refine q_iconst (v := (-1)) C dX1_comesThrough_68 (by decide) ?_
        refine q_istore (lo1 := [some (.ref a0), some (.int x1), some (.ref a2), some (.int r2), some (.int r6), some (.int ((-1)))]) C dX1_comesThrough_69 (by decide) rfl ?_
        refine q_iload C dX1_comesThrough_71 rfl ?_
        refine q_iload_n C dX1_comesThrough_73 rfl ?_
        refine q_icmp_eq (tgt := 84) C dX1_comesThrough_74 (by decide) (fun c14 => ?_) (fun c14 => ?_)
        · replace h := h.1 c14
          refine q_iload C dX1_comesThrough_84 rfl ?_
          exact q_iret C hk dX1_comesThrough_86 ⟨rfl, h⟩
        · replace h := h.2 c14
          refine q_iload C dX1_comesThrough_77 rfl ?_
          refine q_iload C dX1_comesThrough_79 rfl ?_
          refine q_icmp_ne (tgt := 87) C dX1_comesThrough_81 (by decide) (fun c15 => ?_) (fun c15 => ?_)
          · replace h := h.1 c15
            refine q_aload_n C dX1_comesThrough_87 rfl ?_
            refine q_iload_n C dX1_comesThrough_88 rfl ?_
            refine q_iload C dX1_comesThrough_89 rfl ?_
            have s16 := h.1
            replace h := h.2
            refine q_cVi (as := [.int r2, .int r6]) (st := []) (r := a2) C mv_X2_beats ml_RX1_71 dX1_comesThrough_91 rfl s16 rfl (Nat.le_of_ble_eq_true rfl) ⟨Nat.le_refl _, Nat.le_refl _⟩ h (fun r17 I18 L19 P20 h => ?_)
            refine q_if_eq (tgt := 101) C dX1_comesThrough_94 (by decide) (fun c21 => ?_) (fun c21 => ?_)
            · replace h := h.1 c21
              refine q_iload C dX1_comesThrough_101 rfl ?_
              exact q_iret C hk dX1_comesThrough_103 ⟨rfl, h⟩
            · replace h := h.2 c21
              refine q_iload_n C dX1_comesThrough_97 rfl ?_
              refine q_goto (tgt := 103) C dX1_comesThrough_98 (by decide) ?_
              exact q_iret C hk dX1_comesThrough_103 ⟨rfl, h⟩
          · replace h := h.2 c15
            refine q_iload C dX1_comesThrough_84 rfl ?_
            exact q_iret C hk dX1_comesThrough_86 ⟨rfl, h⟩
      · replace h := h.2 c13
        refine q_iload_n C dX1_comesThrough_50 rfl ?_
        refine q_aload_n C dX1_comesThrough_51 rfl ?_
        refine q_getP C fl_RX1_22 rfl s1 dX1_comesThrough_52 ?_
        have s22 := h.1
        replace h := h.2
        refine q_alen20 C s22 dX1_comesThrough_55 ?_
        refine q_icmp_ge (tgt := 68) C dX1_comesThrough_56 (by decide) (fun c23 => ?_) (fun c23 => ?_)
        · replace h := h.1 c23
          refine q_iconst (v := (-1)) C dX1_comesThrough_68 (by decide) ?_
          refine q_istore (lo1 := [some (.ref a0), some (.int x1), some (.ref a2), some (.int r2), some (.int r6), some (.int ((-1)))]) C dX1_comesThrough_69 (by decide) rfl ?_
          refine q_iload C dX1_comesThrough_71 rfl ?_
          refine q_iload_n C dX1_comesThrough_73 rfl ?_
          refine q_icmp_eq (tgt := 84) C dX1_comesThrough_74 (by decide) (fun c24 => ?_) (fun c24 => ?_)
          · replace h := h.1 c24
            refine q_iload C dX1_comesThrough_84 rfl ?_
            exact q_iret C hk dX1_comesThrough_86 ⟨rfl, h⟩
          · replace h := h.2 c24
            refine q_iload C dX1_comesThrough_77 rfl ?_
            refine q_iload C dX1_comesThrough_79 rfl ?_
            refine q_icmp_ne (tgt := 87) C dX1_comesThrough_81 (by decide) (fun c25 => ?_) (fun c25 => ?_)
            · replace h := h.1 c25
              refine q_aload_n C dX1_comesThrough_87 rfl ?_
              refine q_iload_n C dX1_comesThrough_88 rfl ?_
              refine q_iload C dX1_comesThrough_89 rfl ?_
              have s26 := h.1
              replace h := h.2
              refine q_cVi (as := [.int r2, .int r6]) (st := []) (r := a2) C mv_X2_beats ml_RX1_71 dX1_comesThrough_91 rfl s26 rfl (Nat.le_of_ble_eq_true rfl) ⟨Nat.le_refl _, Nat.le_refl _⟩ h (fun r27 I28 L29 P30 h => ?_)
              refine q_if_eq (tgt := 101) C dX1_comesThrough_94 (by decide) (fun c31 => ?_) (fun c31 => ?_)
              · replace h := h.1 c31
                refine q_iload C dX1_comesThrough_101 rfl ?_
                exact q_iret C hk dX1_comesThrough_103 ⟨rfl, h⟩
              · replace h := h.2 c31
                refine q_iload_n C dX1_comesThrough_97 rfl ?_
                refine q_goto (tgt := 103) C dX1_comesThrough_98 (by decide) ?_
                exact q_iret C hk dX1_comesThrough_103 ⟨rfl, h⟩
            · replace h := h.2 c25
              refine q_iload C dX1_comesThrough_84 rfl ?_
              exact q_iret C hk dX1_comesThrough_86 ⟨rfl, h⟩
        · replace h := h.2 c23
          refine q_aload_n C dX1_comesThrough_59 rfl ?_
          refine q_getP C fl_RX1_22 rfl s1 dX1_comesThrough_60 ?_
          refine q_iload_n C dX1_comesThrough_63 rfl ?_
          have s32 := h.1
          replace h := h.2
          refine q_iald C s22 s32 dX1_comesThrough_64 ?_
          refine q_goto (tgt := 69) C dX1_comesThrough_65 (by decide) ?_
          refine q_istore (lo1 := [some (.ref a0), some (.int x1), some (.ref a2), some (.int r2), some (.int r6), some (.int (I7 (P9 a0 6) (Int32.toNatClampNeg x1)))]) C dX1_comesThrough_69 (by decide) rfl ?_
          refine q_iload C dX1_comesThrough_71 rfl ?_
          refine q_iload_n C dX1_comesThrough_73 rfl ?_
          refine q_icmp_eq (tgt := 84) C dX1_comesThrough_74 (by decide) (fun c33 => ?_) (fun c33 => ?_)
          · replace h := h.1 c33
            refine q_iload C dX1_comesThrough_84 rfl ?_
            exact q_iret C hk dX1_comesThrough_86 ⟨rfl, h⟩
          · replace h := h.2 c33
            refine q_iload C dX1_comesThrough_77 rfl ?_
            refine q_iload C dX1_comesThrough_79 rfl ?_
            refine q_icmp_ne (tgt := 87) C dX1_comesThrough_81 (by decide) (fun c34 => ?_) (fun c34 => ?_)
            · replace h := h.1 c34
              refine q_aload_n C dX1_comesThrough_87 rfl ?_
              refine q_iload_n C dX1_comesThrough_88 rfl ?_
              refine q_iload C dX1_comesThrough_89 rfl ?_
              have s35 := h.1
              replace h := h.2
              refine q_cVi (as := [.int r2, .int r6]) (st := []) (r := a2) C mv_X2_beats ml_RX1_71 dX1_comesThrough_91 rfl s35 rfl (Nat.le_of_ble_eq_true rfl) ⟨Nat.le_refl _, Nat.le_refl _⟩ h (fun r36 I37 L38 P39 h => ?_)
              refine q_if_eq (tgt := 101) C dX1_comesThrough_94 (by decide) (fun c40 => ?_) (fun c40 => ?_)
              · replace h := h.1 c40
                refine q_iload C dX1_comesThrough_101 rfl ?_
                exact q_iret C hk dX1_comesThrough_103 ⟨rfl, h⟩
              · replace h := h.2 c40
                refine q_iload_n C dX1_comesThrough_97 rfl ?_
                refine q_goto (tgt := 103) C dX1_comesThrough_98 (by decide) ?_
                exact q_iret C hk dX1_comesThrough_103 ⟨rfl, h⟩
            · replace h := h.2 c34
              refine q_iload C dX1_comesThrough_84 rfl ?_
              exact q_iret C hk dX1_comesThrough_86 ⟨rfl, h⟩
    · replace h := h.2 c12
      refine q_iload_n C dX1_comesThrough_32 rfl ?_
      refine q_bipush (v := 10) C dX1_comesThrough_33 (by decide) ?_
      refine q_icmp_ne (tgt := 43) C dX1_comesThrough_35 (by decide) (fun c41 => ?_) (fun c41 => ?_)
      · replace h := h.1 c41
        refine q_iload_n C dX1_comesThrough_43 rfl ?_
        exact q_iret C hk dX1_comesThrough_44 ⟨rfl, h⟩
      · replace h := h.2 c41
        refine q_iload C dX1_comesThrough_38 rfl ?_
        refine q_goto (tgt := 44) C dX1_comesThrough_40 (by decide) ?_
        exact q_iret C hk dX1_comesThrough_44 ⟨rfl, h⟩
theorem sp_X1_comesThrough {d : Nat} {sh : List qSh} {K : Option Value → qMI → qML → qMP → Prop} {a0 : Nat} {x1 : Int32} {a2 : Nat} {I : qMI} {L : qML} {P : qMP} (h0 : vc_X1_comesThrough_0 d sh K a0 x1 a2 I L P) : Sq (d + 1) mX1_comesThrough sh [.ref a0, .int x1, .ref a2] I L P K := by
  refine Sq_of (by decide +kernel) (Nat.le_of_ble_eq_true rfl) (fun X C hk hn => ?_)
  exact rg_X1_comesThrough_0 C hk h0
/-! BracketDraws$Draw.printedByte(I)I -/
def vc_X1_printedByte_0 (d : Nat) (sh : List qSh) (K : Option Value → qMI → qML → qMP → Prop) (a0 : Nat) (x1 : Int32) (I : qMI) (L : qML) (P : qMP) : Prop :=
  ((shp sh a0).1 = 1) ∧ (((x1 < 0) → (((0 ≤ x1) → (K (some (.int ((-2)))) I L P)) ∧ ((¬ 0 ≤ x1) → (K (some (.int ((2 * (I a0 2)) - 1))) I L P)))) ∧ ((¬ x1 < 0) → (((x1 < ((2 * (I a0 2)) - 1)) → (((¬ (x1 - x1 / 2 * 2) = 0) → (((¬ (((x1 / 2) + 1) - ((x1 / 2) + 1) / 4 * 4) = 0) → (K (some (.int 32)) I L P)) ∧ (((((x1 / 2) + 1) - ((x1 / 2) + 1) / 4 * 4) = 0) → (K (some (.int 124)) I L P)))) ∧ (((x1 - x1 / 2 * 2) = 0) → (Sq d mX1_standing sh [.ref a0, .int (x1 / 2)] I L P (KI fun r7 I8 L9 P10 => ((¬ r7 = 10) → (K (some (.int (48 + r7))) I8 L9 P10)) ∧ ((r7 = 10) → (K (some (.int 45)) I8 L9 P10))))))) ∧ ((¬ x1 < ((2 * (I a0 2)) - 1)) → (((0 ≤ x1) → (K (some (.int ((-2)))) I L P)) ∧ ((¬ 0 ≤ x1) → (K (some (.int ((2 * (I a0 2)) - 1))) I L P)))))))
set_option maxRecDepth 100000 in
set_option maxHeartbeats 4000000 in
theorem rg_X1_printedByte_0 {X : qCT} {d : Nat} {sh : List qSh} {K : Option Value → qMI → qML → qMP → Prop} {a0 : Nat} {x1 : Int32} {I : qMI} {L : qML} {P : qMP} (C : qCB X RX1 cX1_printedByte 4 (d + 1) 0 0) (hk : qCK X (some .int) 0 0 (fun v sh' I' L' P' => sh' = sh ∧ K v I' L' P')) (h : vc_X1_printedByte_0 d sh K a0 x1 I L P) : qG X 0 [some (.ref a0), some (.int x1), none, none] [] sh I L P 0 0 := by
  unfold vc_X1_printedByte_0 at h
  refine q_iconst (v := 2) C dX1_printedByte_0 (by decide) ?_
  refine q_aload_n C dX1_printedByte_1 rfl ?_
  have s1 := h.1
  replace h := h.2
  refine q_getI C fl_RX1_9 rfl s1 dX1_printedByte_2 ?_
  refine q_imul C dX1_printedByte_5 ?_
  refine q_iconst (v := 1) C dX1_printedByte_6 (by decide) ?_
  refine q_isub C dX1_printedByte_7 ?_
  refine q_istore_n (lo1 := [some (.ref a0), some (.int x1), some (.int ((2 * (I a0 2)) - 1)), none]) C dX1_printedByte_8 (by decide) rfl ?_
  refine q_iload_n C dX1_printedByte_9 rfl ?_
  refine q_if_lt (tgt := 18) C dX1_printedByte_10 (by decide) (fun c2 => ?_) (fun c2 => ?_)
  · replace h := h.1 c2
    refine q_iload_n C dX1_printedByte_18 rfl ?_
    refine q_if_ge (tgt := 26) C dX1_printedByte_19 (by decide) (fun c3 => ?_) (fun c3 => ?_)
    · replace h := h.1 c3
      refine q_bipush (v := (-2)) C dX1_printedByte_26 (by decide) ?_
      exact q_iret C hk dX1_printedByte_28 ⟨rfl, h⟩
    · replace h := h.2 c3
      refine q_iload_n C dX1_printedByte_22 rfl ?_
      refine q_goto (tgt := 28) C dX1_printedByte_23 (by decide) ?_
      exact q_iret C hk dX1_printedByte_28 ⟨rfl, h⟩
  · replace h := h.2 c2
    refine q_iload_n C dX1_printedByte_13 rfl ?_
    refine q_iload_n C dX1_printedByte_14 rfl ?_
    refine q_icmp_lt (tgt := 29) C dX1_printedByte_15 (by decide) (fun c4 => ?_) (fun c4 => ?_)
    · replace h := h.1 c4
      refine q_iload_n C dX1_printedByte_29 rfl ?_
      refine q_iconst (v := 2) C dX1_printedByte_30 (by decide) ?_
      refine q_irem C dX1_printedByte_31 (by decide) ?_
      refine q_if_ne (tgt := 59) C dX1_printedByte_32 (by decide) (fun c5 => ?_) (fun c5 => ?_)
      · replace h := h.1 c5
        refine q_iload_n C dX1_printedByte_59 rfl ?_
        refine q_iconst (v := 2) C dX1_printedByte_60 (by decide) ?_
        refine q_idiv C dX1_printedByte_61 (by decide) ?_
        refine q_iconst (v := 1) C dX1_printedByte_62 (by decide) ?_
        refine q_iadd C dX1_printedByte_63 ?_
        refine q_iconst (v := 4) C dX1_printedByte_64 (by decide) ?_
        refine q_irem C dX1_printedByte_65 (by decide) ?_
        refine q_if_ne (tgt := 74) C dX1_printedByte_66 (by decide) (fun c6 => ?_) (fun c6 => ?_)
        · replace h := h.1 c6
          refine q_bipush (v := 32) C dX1_printedByte_74 (by decide) ?_
          exact q_iret C hk dX1_printedByte_76 ⟨rfl, h⟩
        · replace h := h.2 c6
          refine q_bipush (v := 124) C dX1_printedByte_69 (by decide) ?_
          refine q_goto (tgt := 76) C dX1_printedByte_71 (by decide) ?_
          exact q_iret C hk dX1_printedByte_76 ⟨rfl, h⟩
      · replace h := h.2 c5
        refine q_aload_n C dX1_printedByte_35 rfl ?_
        refine q_iload_n C dX1_printedByte_36 rfl ?_
        refine q_iconst (v := 2) C dX1_printedByte_37 (by decide) ?_
        refine q_idiv C dX1_printedByte_38 (by decide) ?_
        refine q_cVi (as := [.int (x1 / 2)]) (st := []) (r := a0) C mv_X1_standing ml_RX1_53 dX1_printedByte_39 rfl s1 rfl (Nat.le_of_ble_eq_true rfl) ⟨Nat.le_refl _, Nat.le_refl _⟩ h (fun r7 I8 L9 P10 h => ?_)
        refine q_istore_n (lo1 := [some (.ref a0), some (.int x1), some (.int ((2 * (I a0 2)) - 1)), some (.int r7)]) C dX1_printedByte_42 (by decide) rfl ?_
        refine q_iload_n C dX1_printedByte_43 rfl ?_
        refine q_bipush (v := 10) C dX1_printedByte_44 (by decide) ?_
        refine q_icmp_ne (tgt := 54) C dX1_printedByte_46 (by decide) (fun c11 => ?_) (fun c11 => ?_)
        · replace h := h.1 c11
          refine q_bipush (v := 48) C dX1_printedByte_54 (by decide) ?_
          refine q_iload_n C dX1_printedByte_56 rfl ?_
          refine q_iadd C dX1_printedByte_57 ?_
          exact q_iret C hk dX1_printedByte_58 ⟨rfl, h⟩
        · replace h := h.2 c11
          refine q_bipush (v := 45) C dX1_printedByte_49 (by decide) ?_
          refine q_goto (tgt := 58) C dX1_printedByte_51 (by decide) ?_
          exact q_iret C hk dX1_printedByte_58 ⟨rfl, h⟩
    · replace h := h.2 c4
      refine q_iload_n C dX1_printedByte_18 rfl ?_
      refine q_if_ge (tgt := 26) C dX1_printedByte_19 (by decide) (fun c12 => ?_) (fun c12 => ?_)
      · replace h := h.1 c12
        refine q_bipush (v := (-2)) C dX1_printedByte_26 (by decide) ?_
        exact q_iret C hk dX1_printedByte_28 ⟨rfl, h⟩
      · replace h := h.2 c12
        refine q_iload_n C dX1_printedByte_22 rfl ?_
        refine q_goto (tgt := 28) C dX1_printedByte_23 (by decide) ?_
        exact q_iret C hk dX1_printedByte_28 ⟨rfl, h⟩
theorem sp_X1_printedByte {d : Nat} {sh : List qSh} {K : Option Value → qMI → qML → qMP → Prop} {a0 : Nat} {x1 : Int32} {I : qMI} {L : qML} {P : qMP} (h0 : vc_X1_printedByte_0 d sh K a0 x1 I L P) : Sq (d + 1) mX1_printedByte sh [.ref a0, .int x1] I L P K := by
  refine Sq_of (by decide +kernel) (Nat.le_of_ble_eq_true rfl) (fun X C hk hn => ?_)
  exact rg_X1_printedByte_0 C hk h0
/-! BracketDraws$Draw.bracketsByte(I)I -/
def vc_X1_bracketsByte_0 (d : Nat) (sh : List qSh) (K : Option Value → qMI → qML → qMP → Prop) (T1 : Int32 → Int32 → qMI → qML → qMP → Prop) (a0 : Nat) (x1 : Int32) (I : qMI) (L : qML) (P : qMP) : Prop :=
  T1 0 1 I L P
set_option maxRecDepth 100000 in
set_option maxHeartbeats 4000000 in
theorem rg_X1_bracketsByte_0 {X : qCT} {d : Nat} {sh : List qSh} {K : Option Value → qMI → qML → qMP → Prop} {T1 : Int32 → Int32 → qMI → qML → qMP → Prop} {a0 : Nat} {x1 : Int32} {I : qMI} {L : qML} {P : qMP} (C : qCB X RX1 cX1_bracketsByte 6 (d + 1) 0 0) (hk : qCK X (some .int) 0 0 (fun v sh' I' L' P' => sh' = sh ∧ K v I' L' P')) (hT1 : ∀ (x2 : Int32) (x3 : Int32) (I : qMI) (L : qML) (P : qMP), T1 x2 x3 I L P → qG X 4 [some (.ref a0), some (.int x1), some (.int x2), some (.int x3), none, none] [] sh I L P 0 0) (h : vc_X1_bracketsByte_0 d sh K T1 a0 x1 I L P) : qG X 0 [some (.ref a0), some (.int x1), none, none, none, none] [] sh I L P 0 0 := by
  unfold vc_X1_bracketsByte_0 at h
  refine q_iconst (v := 0) C dX1_bracketsByte_0 (by decide) ?_
  refine q_istore_n (lo1 := [some (.ref a0), some (.int x1), some (.int 0), none, none, none]) C dX1_bracketsByte_1 (by decide) rfl ?_
  refine q_iconst (v := 1) C dX1_bracketsByte_2 (by decide) ?_
  refine q_istore_n (lo1 := [some (.ref a0), some (.int x1), some (.int 0), some (.int 1), none, none]) C dX1_bracketsByte_3 (by decide) rfl ?_
  exact hT1 _ _ _ _ _ h
def vc_X1_bracketsByte_1 (d : Nat) (sh : List qSh) (K : Option Value → qMI → qML → qMP → Prop) (T1 : Int32 → Int32 → qMI → qML → qMP → Prop) (a0 : Nat) (x1 : Int32) (x2 : Int32) (x3 : Int32) (I : qMI) (L : qML) (P : qMP) : Prop :=
  ((shp sh a0).1 = 1) ∧ ((((I a0 4) < x3) → (((0 ≤ x1) → (K (some (.int ((-2)))) I L P)) ∧ ((¬ 0 ≤ x1) → (K (some (.int x2)) I L P)))) ∧ ((¬ (I a0 4) < x3) → ((((x1 - x2) < 0) → (T1 (x2 + (2 * ((I a0 2) >>> (x3 &&& 31)))) (x3 + 1) I L P)) ∧ ((¬ (x1 - x2) < 0) → ((((2 * ((I a0 2) >>> (x3 &&& 31))) ≤ (x1 - x2)) → (T1 (x2 + (2 * ((I a0 2) >>> (x3 &&& 31)))) (x3 + 1) I L P)) ∧ ((¬ (2 * ((I a0 2) >>> (x3 &&& 31))) ≤ (x1 - x2)) → (Sq d mX1_roundsByte sh [.ref a0, .int x3, .int (x1 - x2), .int ((I a0 2) >>> (x3 &&& 31))] I L P (KI fun r6 I7 L8 P9 => K (some (.int r6)) I7 L8 P9))))))))
set_option maxRecDepth 100000 in
set_option maxHeartbeats 4000000 in
theorem rg_X1_bracketsByte_1 {X : qCT} {d : Nat} {sh : List qSh} {K : Option Value → qMI → qML → qMP → Prop} {T1 : Int32 → Int32 → qMI → qML → qMP → Prop} {a0 : Nat} {x1 : Int32} {x2 : Int32} {x3 : Int32} {I : qMI} {L : qML} {P : qMP} (C : qCB X RX1 cX1_bracketsByte 6 (d + 1) 0 0) (hk : qCK X (some .int) 0 0 (fun v sh' I' L' P' => sh' = sh ∧ K v I' L' P')) (hT1 : ∀ (x2 : Int32) (x3 : Int32) (I : qMI) (L : qML) (P : qMP), T1 x2 x3 I L P → qG X 4 [some (.ref a0), some (.int x1), some (.int x2), some (.int x3), none, none] [] sh I L P 0 0) (h : vc_X1_bracketsByte_1 d sh K T1 a0 x1 x2 x3 I L P) : qG X 4 [some (.ref a0), some (.int x1), some (.int x2), some (.int x3), none, none] [] sh I L P 0 0 := by
  unfold vc_X1_bracketsByte_1 at h
  refine q_iload_n C dX1_bracketsByte_4 rfl ?_
  refine q_aload_n C dX1_bracketsByte_5 rfl ?_
  have s1 := h.1
  replace h := h.2
  refine q_getI C fl_RX1_33 rfl s1 dX1_bracketsByte_6 ?_
  refine q_icmp_gt (tgt := 62) C dX1_bracketsByte_9 (by decide) (fun c2 => ?_) (fun c2 => ?_)
  · replace h := h.1 c2
    refine q_iload_n C dX1_bracketsByte_62 rfl ?_
    refine q_if_ge (tgt := 70) C dX1_bracketsByte_63 (by decide) (fun c3 => ?_) (fun c3 => ?_)
    · replace h := h.1 c3
      refine q_bipush (v := (-2)) C dX1_bracketsByte_70 (by decide) ?_
      exact q_iret C hk dX1_bracketsByte_72 ⟨rfl, h⟩
    · replace h := h.2 c3
      refine q_iload_n C dX1_bracketsByte_66 rfl ?_
      refine q_goto (tgt := 72) C dX1_bracketsByte_67 (by decide) ?_
      exact q_iret C hk dX1_bracketsByte_72 ⟨rfl, h⟩
  · replace h := h.2 c2
    refine q_aload_n C dX1_bracketsByte_12 rfl ?_
    refine q_getI C fl_RX1_9 rfl s1 dX1_bracketsByte_13 ?_
    refine q_iload_n C dX1_bracketsByte_16 rfl ?_
    refine q_ishr C dX1_bracketsByte_17 ?_
    refine q_istore (lo1 := [some (.ref a0), some (.int x1), some (.int x2), some (.int x3), some (.int ((I a0 2) >>> (x3 &&& 31))), none]) C dX1_bracketsByte_18 (by decide) rfl ?_
    refine q_iload_n C dX1_bracketsByte_20 rfl ?_
    refine q_iload_n C dX1_bracketsByte_21 rfl ?_
    refine q_isub C dX1_bracketsByte_22 ?_
    refine q_istore (lo1 := [some (.ref a0), some (.int x1), some (.int x2), some (.int x3), some (.int ((I a0 2) >>> (x3 &&& 31))), some (.int (x1 - x2))]) C dX1_bracketsByte_23 (by decide) rfl ?_
    refine q_iload C dX1_bracketsByte_25 rfl ?_
    refine q_if_lt (tgt := 49) C dX1_bracketsByte_27 (by decide) (fun c4 => ?_) (fun c4 => ?_)
    · replace h := h.1 c4
      refine q_iload_n C dX1_bracketsByte_49 rfl ?_
      refine q_iconst (v := 2) C dX1_bracketsByte_50 (by decide) ?_
      refine q_iload C dX1_bracketsByte_51 rfl ?_
      refine q_imul C dX1_bracketsByte_53 ?_
      refine q_iadd C dX1_bracketsByte_54 ?_
      refine q_istore_n (lo1 := [some (.ref a0), some (.int x1), some (.int (x2 + (2 * ((I a0 2) >>> (x3 &&& 31))))), some (.int x3), some (.int ((I a0 2) >>> (x3 &&& 31))), some (.int (x1 - x2))]) C dX1_bracketsByte_55 (by decide) rfl ?_
      refine q_iinc (w := 1) (lo1 := [some (.ref a0), some (.int x1), some (.int (x2 + (2 * ((I a0 2) >>> (x3 &&& 31))))), some (.int (x3 + 1)), some (.int ((I a0 2) >>> (x3 &&& 31))), some (.int (x1 - x2))]) C dX1_bracketsByte_56 rfl (by decide) (by decide) rfl ?_
      refine q_goto (tgt := 4) C dX1_bracketsByte_59 (by decide) ?_
      refine q_kill 4 (lo1 := [some (.ref a0), some (.int x1), some (.int (x2 + (2 * ((I a0 2) >>> (x3 &&& 31))))), some (.int (x3 + 1)), none, some (.int (x1 - x2))]) rfl ?_
      refine q_kill 5 (lo1 := [some (.ref a0), some (.int x1), some (.int (x2 + (2 * ((I a0 2) >>> (x3 &&& 31))))), some (.int (x3 + 1)), none, none]) rfl ?_
      exact hT1 _ _ _ _ _ h
    · replace h := h.2 c4
      refine q_iload C dX1_bracketsByte_30 rfl ?_
      refine q_iconst (v := 2) C dX1_bracketsByte_32 (by decide) ?_
      refine q_iload C dX1_bracketsByte_33 rfl ?_
      refine q_imul C dX1_bracketsByte_35 ?_
      refine q_icmp_ge (tgt := 49) C dX1_bracketsByte_36 (by decide) (fun c5 => ?_) (fun c5 => ?_)
      · replace h := h.1 c5
        refine q_iload_n C dX1_bracketsByte_49 rfl ?_
        refine q_iconst (v := 2) C dX1_bracketsByte_50 (by decide) ?_
        refine q_iload C dX1_bracketsByte_51 rfl ?_
        refine q_imul C dX1_bracketsByte_53 ?_
        refine q_iadd C dX1_bracketsByte_54 ?_
        refine q_istore_n (lo1 := [some (.ref a0), some (.int x1), some (.int (x2 + (2 * ((I a0 2) >>> (x3 &&& 31))))), some (.int x3), some (.int ((I a0 2) >>> (x3 &&& 31))), some (.int (x1 - x2))]) C dX1_bracketsByte_55 (by decide) rfl ?_
        refine q_iinc (w := 1) (lo1 := [some (.ref a0), some (.int x1), some (.int (x2 + (2 * ((I a0 2) >>> (x3 &&& 31))))), some (.int (x3 + 1)), some (.int ((I a0 2) >>> (x3 &&& 31))), some (.int (x1 - x2))]) C dX1_bracketsByte_56 rfl (by decide) (by decide) rfl ?_
        refine q_goto (tgt := 4) C dX1_bracketsByte_59 (by decide) ?_
        refine q_kill 4 (lo1 := [some (.ref a0), some (.int x1), some (.int (x2 + (2 * ((I a0 2) >>> (x3 &&& 31))))), some (.int (x3 + 1)), none, some (.int (x1 - x2))]) rfl ?_
        refine q_kill 5 (lo1 := [some (.ref a0), some (.int x1), some (.int (x2 + (2 * ((I a0 2) >>> (x3 &&& 31))))), some (.int (x3 + 1)), none, none]) rfl ?_
        exact hT1 _ _ _ _ _ h
      · replace h := h.2 c5
        refine q_aload_n C dX1_bracketsByte_39 rfl ?_
        refine q_iload_n C dX1_bracketsByte_40 rfl ?_
        refine q_iload C dX1_bracketsByte_41 rfl ?_
        refine q_iload C dX1_bracketsByte_43 rfl ?_
        refine q_cVi (as := [.int x3, .int (x1 - x2), .int ((I a0 2) >>> (x3 &&& 31))]) (st := []) (r := a0) C mv_X1_roundsByte ml_RX1_75 dX1_bracketsByte_45 rfl s1 rfl (Nat.le_of_ble_eq_true rfl) ⟨Nat.le_refl _, Nat.le_refl _⟩ h (fun r6 I7 L8 P9 h => ?_)
        exact q_iret C hk dX1_bracketsByte_48 ⟨rfl, h⟩
theorem sp_X1_bracketsByte {d : Nat} {sh : List qSh} {K : Option Value → qMI → qML → qMP → Prop} {a0 : Nat} {x1 : Int32} {I : qMI} {L : qML} {P : qMP} (T1 : Int32 → Int32 → qMI → qML → qMP → Prop) (m1 : Int32 → Int32 → qMI → qML → qMP → Nat) (h0 : vc_X1_bracketsByte_0 d sh K T1 a0 x1 I L P)
    (h1 : ∀ (x2 : Int32) (x3 : Int32) (I : qMI) (L : qML) (P : qMP), T1 x2 x3 I L P → vc_X1_bracketsByte_1 d sh K (fun w0 w1 I' L' P' => T1 w0 w1 I' L' P' ∧ m1 w0 w1 I' L' P' < m1 x2 x3 I L P) a0 x1 x2 x3 I L P) : Sq (d + 1) mX1_bracketsByte sh [.ref a0, .int x1] I L P K := by
  refine Sq_of (by decide +kernel) (Nat.le_of_ble_eq_true rfl) (fun X C hk hn => ?_)
  have go : ∀ N : Nat, (∀ (x2 : Int32) (x3 : Int32) (I : qMI) (L : qML) (P : qMP), T1 x2 x3 I L P → m1 x2 x3 I L P < N → qG X 4 [some (.ref a0), some (.int x1), some (.int x2), some (.int x3), none, none] [] sh I L P 0 0) := by
    intro N
    induction N with
    | zero => exact fun _ _ _ _ _ _ q => absurd q (Nat.not_lt_zero _)
    | succ N ih =>
      exact fun b0 b1 I1 L1 P1 t q => rg_X1_bracketsByte_1 C hk (fun z0 z1 I2 L2 P2 z => ih z0 z1 I2 L2 P2 z.1 (Nat.lt_of_lt_of_le z.2 (Nat.le_of_lt_succ q))) (h1 b0 b1 I1 L1 P1 t)
  exact rg_X1_bracketsByte_0 C hk (fun b0 b1 I1 L1 P1 t => (go (m1 b0 b1 I1 L1 P1 + 1)) b0 b1 I1 L1 P1 t (Nat.lt_succ_self _)) h0
/-! BracketDraws$Draw.roundsByte(III)I -/
def vc_X1_roundsByte_0 (d : Nat) (sh : List qSh) (K : Option Value → qMI → qML → qMP → Prop) (a0 : Nat) (x1 : Int32) (x2 : Int32) (x3 : Int32) (I : qMI) (L : qML) (P : qMP) : Prop :=
  ((¬ (x2 - x2 / 2 * 2) = 0) → (((¬ (x2 / 2) = (x3 - 1)) → (K (some (.int 44)) I L P)) ∧ (((x2 / 2) = (x3 - 1)) → (K (some (.int 59)) I L P)))) ∧ (((x2 - x2 / 2 * 2) = 0) → (((shp sh a0).1 = 1) ∧ (Sq d mX1_cameThrough sh [.ref a0, .int x1, .int (x2 / 2)] I L P (KI fun r4 I5 L6 P7 => K (some (.int (48 + r4))) I5 L6 P7))))
set_option maxRecDepth 100000 in
set_option maxHeartbeats 4000000 in
theorem rg_X1_roundsByte_0 {X : qCT} {d : Nat} {sh : List qSh} {K : Option Value → qMI → qML → qMP → Prop} {a0 : Nat} {x1 : Int32} {x2 : Int32} {x3 : Int32} {I : qMI} {L : qML} {P : qMP} (C : qCB X RX1 cX1_roundsByte 4 (d + 1) 0 0) (hk : qCK X (some .int) 0 0 (fun v sh' I' L' P' => sh' = sh ∧ K v I' L' P')) (h : vc_X1_roundsByte_0 d sh K a0 x1 x2 x3 I L P) : qG X 0 [some (.ref a0), some (.int x1), some (.int x2), some (.int x3)] [] sh I L P 0 0 := by
  unfold vc_X1_roundsByte_0 at h
  refine q_iload_n C dX1_roundsByte_0 rfl ?_
  refine q_iconst (v := 2) C dX1_roundsByte_1 (by decide) ?_
  refine q_irem C dX1_roundsByte_2 (by decide) ?_
  refine q_if_ne (tgt := 18) C dX1_roundsByte_3 (by decide) (fun c1 => ?_) (fun c1 => ?_)
  · replace h := h.1 c1
    refine q_iload_n C dX1_roundsByte_18 rfl ?_
    refine q_iconst (v := 2) C dX1_roundsByte_19 (by decide) ?_
    refine q_idiv C dX1_roundsByte_20 (by decide) ?_
    refine q_iload_n C dX1_roundsByte_21 rfl ?_
    refine q_iconst (v := 1) C dX1_roundsByte_22 (by decide) ?_
    refine q_isub C dX1_roundsByte_23 ?_
    refine q_icmp_ne (tgt := 32) C dX1_roundsByte_24 (by decide) (fun c2 => ?_) (fun c2 => ?_)
    · replace h := h.1 c2
      refine q_bipush (v := 44) C dX1_roundsByte_32 (by decide) ?_
      exact q_iret C hk dX1_roundsByte_34 ⟨rfl, h⟩
    · replace h := h.2 c2
      refine q_bipush (v := 59) C dX1_roundsByte_27 (by decide) ?_
      refine q_goto (tgt := 34) C dX1_roundsByte_29 (by decide) ?_
      exact q_iret C hk dX1_roundsByte_34 ⟨rfl, h⟩
  · replace h := h.2 c1
    refine q_bipush (v := 48) C dX1_roundsByte_6 (by decide) ?_
    refine q_aload_n C dX1_roundsByte_8 rfl ?_
    refine q_iload_n C dX1_roundsByte_9 rfl ?_
    refine q_iload_n C dX1_roundsByte_10 rfl ?_
    refine q_iconst (v := 2) C dX1_roundsByte_11 (by decide) ?_
    refine q_idiv C dX1_roundsByte_12 (by decide) ?_
    have s3 := h.1
    replace h := h.2
    refine q_cVi (as := [.int x1, .int (x2 / 2)]) (st := [.int 48]) (r := a0) C mv_X1_cameThrough ml_RX1_79 dX1_roundsByte_13 rfl s3 rfl (Nat.le_of_ble_eq_true rfl) ⟨Nat.le_refl _, Nat.le_refl _⟩ h (fun r4 I5 L6 P7 h => ?_)
    refine q_iadd C dX1_roundsByte_16 ?_
    exact q_iret C hk dX1_roundsByte_17 ⟨rfl, h⟩
theorem sp_X1_roundsByte {d : Nat} {sh : List qSh} {K : Option Value → qMI → qML → qMP → Prop} {a0 : Nat} {x1 : Int32} {x2 : Int32} {x3 : Int32} {I : qMI} {L : qML} {P : qMP} (h0 : vc_X1_roundsByte_0 d sh K a0 x1 x2 x3 I L P) : Sq (d + 1) mX1_roundsByte sh [.ref a0, .int x1, .int x2, .int x3] I L P K := by
  refine Sq_of (by decide +kernel) (Nat.le_of_ble_eq_true rfl) (fun X C hk hn => ?_)
  exact rg_X1_roundsByte_0 C hk h0
