/-! BracketDraws$History.forget(LBracketDraws$Situation;)V -/
def vc_X3_forget_0 (d : Nat) (sh : List qSh) (K : Option Value → qMI → qML → qMP → Prop) (a0 : Nat) (a1 : Nat) (I : qMI) (L : qML) (P : qMP) : Prop :=
  ((shp sh a0).1 = 3) ∧ (∀ I2 : qMI, I2 = uI I a0 1 0 → (∀ I3 : qMI, I3 = uI I2 a0 2 0 → (((shp sh (P a0 0)).1 = 23) ∧ ((vp_in 0 (shp sh (P a0 0)).2) ∧ (((shp sh (P (P a0 0) (Int32.toNatClampNeg 0))).1 = 6) ∧ (Sq d mX6_copyFrom sh [.ref (P (P a0 0) (Int32.toNatClampNeg 0)), .ref a1] I3 L P (KV fun I7 L8 P9 => K none I7 L8 P9)))))))
set_option maxRecDepth 100000 in
set_option maxHeartbeats 4000000 in
theorem rg_X3_forget_0 {X : qCT} {d : Nat} {sh : List qSh} {K : Option Value → qMI → qML → qMP → Prop} {a0 : Nat} {a1 : Nat} {I : qMI} {L : qML} {P : qMP} (C : qCB X RX3 cX3_forget 2 (d + 1) 0 0) (hk : qCK X (none) 0 0 (fun v sh' I' L' P' => sh' = sh ∧ K v I' L' P')) (h : vc_X3_forget_0 d sh K a0 a1 I L P) : qG X 0 [some (.ref a0), some (.ref a1)] [] sh I L P 0 0 := by
  unfold vc_X3_forget_0 at h
  refine q_aload_n C dX3_forget_0 rfl ?_
  refine q_iconst (v := 0) C dX3_forget_1 (by decide) ?_
  have s1 := h.1
  replace h := h.2
  refine q_putI C fl_RX3_16 (fun T hT => by cases hT; rfl) rfl s1 dX3_forget_2 (fun I2 eI2 => ?_)
  replace h := h I2 eI2
  refine q_aload_n C dX3_forget_5 rfl ?_
  refine q_iconst (v := 0) C dX3_forget_6 (by decide) ?_
  refine q_putI C fl_RX3_20 (fun T hT => by cases hT; rfl) rfl s1 dX3_forget_7 (fun I3 eI3 => ?_)
  replace h := h I3 eI3
  refine q_aload_n C dX3_forget_10 rfl ?_
  refine q_getP C fl_RX3_11 rfl s1 dX3_forget_11 ?_
  refine q_iconst (v := 0) C dX3_forget_14 (by decide) ?_
  have s4 := h.1
  replace h := h.2
  have s5 := h.1
  replace h := h.2
  refine q_aald C s4 s5 dX3_forget_15 ?_
  refine q_aload_n C dX3_forget_16 rfl ?_
  have s6 := h.1
  replace h := h.2
  refine q_cVv (as := [.ref a1]) (st := []) (r := P (P a0 0) (Int32.toNatClampNeg 0)) C mv_X6_copyFrom ml_RX3_23 dX3_forget_17 rfl s6 rfl (Nat.le_of_ble_eq_true rfl) ⟨Nat.le_refl _, Nat.le_refl _⟩ h (fun I7 L8 P9 h => ?_)
  exact q_vret C hk dX3_forget_20 ⟨rfl, h⟩
theorem sp_X3_forget {d : Nat} {sh : List qSh} {K : Option Value → qMI → qML → qMP → Prop} {a0 : Nat} {a1 : Nat} {I : qMI} {L : qML} {P : qMP} (h0 : vc_X3_forget_0 d sh K a0 a1 I L P) : Sq (d + 1) mX3_forget sh [.ref a0, .ref a1] I L P K := by
  refine Sq_of (by decide +kernel) (Nat.le_of_ble_eq_true rfl) (fun X C hk hn => ?_)
  exact rg_X3_forget_0 C hk h0
/-! BracketDraws$History.remember(LBracketDraws$Situation;)V -/
def vc_X3_remember_0 (d : Nat) (sh : List qSh) (K : Option Value → qMI → qML → qMP → Prop) (a0 : Nat) (a1 : Nat) (I : qMI) (L : qML) (P : qMP) : Prop :=
  ((shp sh a0).1 = 3) ∧ (((10 ≤ (I a0 1)) → (Sq d mX3_loseOldest sh [.ref a0] I L P (KV fun I3 L4 P5 => ∀ I6 : qMI, I6 = uI I3 a0 2 (I3 a0 1) → (((shp sh (P5 a0 0)).1 = 23) ∧ ((vp_in (I6 a0 1) (shp sh (P5 a0 0)).2) ∧ (((shp sh (P5 (P5 a0 0) (Int32.toNatClampNeg (I6 a0 1)))).1 = 6) ∧ (Sq d mX6_copyFrom sh [.ref (P5 (P5 a0 0) (Int32.toNatClampNeg (I6 a0 1))), .ref a1] I6 L4 P5 (KV fun I10 L11 P12 => K none I10 L11 P12)))))))) ∧ ((¬ 10 ≤ (I a0 1)) → (∀ I13 : qMI, I13 = uI I a0 1 ((I a0 1) + 1) → (∀ I14 : qMI, I14 = uI I13 a0 2 (I13 a0 1) → (((shp sh (P a0 0)).1 = 23) ∧ ((vp_in (I14 a0 1) (shp sh (P a0 0)).2) ∧ (((shp sh (P (P a0 0) (Int32.toNatClampNeg (I14 a0 1)))).1 = 6) ∧ (Sq d mX6_copyFrom sh [.ref (P (P a0 0) (Int32.toNatClampNeg (I14 a0 1))), .ref a1] I14 L P (KV fun I18 L19 P20 => K none I18 L19 P20)))))))))
set_option maxRecDepth 100000 in
set_option maxHeartbeats 4000000 in
theorem rg_X3_remember_0 {X : qCT} {d : Nat} {sh : List qSh} {K : Option Value → qMI → qML → qMP → Prop} {a0 : Nat} {a1 : Nat} {I : qMI} {L : qML} {P : qMP} (C : qCB X RX3 cX3_remember 2 (d + 1) 0 0) (hk : qCK X (none) 0 0 (fun v sh' I' L' P' => sh' = sh ∧ K v I' L' P')) (h : vc_X3_remember_0 d sh K a0 a1 I L P) : qG X 0 [some (.ref a0), some (.ref a1)] [] sh I L P 0 0 := by
  unfold vc_X3_remember_0 at h
  refine q_aload_n C dX3_remember_0 rfl ?_
  have s1 := h.1
  replace h := h.2
  refine q_getI C fl_RX3_16 rfl s1 dX3_remember_1 ?_
  refine q_bipush (v := 10) C dX3_remember_4 (by decide) ?_
  refine q_icmp_ge (tgt := 22) C dX3_remember_6 (by decide) (fun c2 => ?_) (fun c2 => ?_)
  · replace h := h.1 c2
    refine q_aload_n C dX3_remember_22 rfl ?_
    refine q_cVv (as := []) (st := []) (r := a0) C mv_X3_loseOldest ml_RX3_27 dX3_remember_23 rfl s1 rfl (Nat.le_of_ble_eq_true rfl) ⟨Nat.le_refl _, Nat.le_refl _⟩ h (fun I3 L4 P5 h => ?_)
    refine q_aload_n C dX3_remember_26 rfl ?_
    refine q_aload_n C dX3_remember_27 rfl ?_
    refine q_getI C fl_RX3_16 rfl s1 dX3_remember_28 ?_
    refine q_putI C fl_RX3_20 (fun T hT => by cases hT; rfl) rfl s1 dX3_remember_31 (fun I6 eI6 => ?_)
    replace h := h I6 eI6
    refine q_aload_n C dX3_remember_34 rfl ?_
    refine q_getP C fl_RX3_11 rfl s1 dX3_remember_35 ?_
    refine q_aload_n C dX3_remember_38 rfl ?_
    refine q_getI C fl_RX3_16 rfl s1 dX3_remember_39 ?_
    have s7 := h.1
    replace h := h.2
    have s8 := h.1
    replace h := h.2
    refine q_aald C s7 s8 dX3_remember_42 ?_
    refine q_aload_n C dX3_remember_43 rfl ?_
    have s9 := h.1
    replace h := h.2
    refine q_cVv (as := [.ref a1]) (st := []) (r := P5 (P5 a0 0) (Int32.toNatClampNeg (I6 a0 1))) C mv_X6_copyFrom ml_RX3_23 dX3_remember_44 rfl s9 rfl (Nat.le_of_ble_eq_true rfl) ⟨Nat.le_refl _, Nat.le_refl _⟩ h (fun I10 L11 P12 h => ?_)
    exact q_vret C hk dX3_remember_47 ⟨rfl, h⟩
  · replace h := h.2 c2
    refine q_aload_n C dX3_remember_9 rfl ?_
    refine q_dup C dX3_remember_10 rfl ?_
    refine q_getI C fl_RX3_16 rfl s1 dX3_remember_11 ?_
    refine q_iconst (v := 1) C dX3_remember_14 (by decide) ?_
    refine q_iadd C dX3_remember_15 ?_
    refine q_putI C fl_RX3_16 (fun T hT => by cases hT; rfl) rfl s1 dX3_remember_16 (fun I13 eI13 => ?_)
    replace h := h I13 eI13
    refine q_goto (tgt := 26) C dX3_remember_19 (by decide) ?_
    refine q_aload_n C dX3_remember_26 rfl ?_
    refine q_aload_n C dX3_remember_27 rfl ?_
    refine q_getI C fl_RX3_16 rfl s1 dX3_remember_28 ?_
    refine q_putI C fl_RX3_20 (fun T hT => by cases hT; rfl) rfl s1 dX3_remember_31 (fun I14 eI14 => ?_)
    replace h := h I14 eI14
    refine q_aload_n C dX3_remember_34 rfl ?_
    refine q_getP C fl_RX3_11 rfl s1 dX3_remember_35 ?_
    refine q_aload_n C dX3_remember_38 rfl ?_
    refine q_getI C fl_RX3_16 rfl s1 dX3_remember_39 ?_
    have s15 := h.1
    replace h := h.2
    have s16 := h.1
    replace h := h.2
    refine q_aald C s15 s16 dX3_remember_42 ?_
    refine q_aload_n C dX3_remember_43 rfl ?_
    have s17 := h.1
    replace h := h.2
    refine q_cVv (as := [.ref a1]) (st := []) (r := P (P a0 0) (Int32.toNatClampNeg (I14 a0 1))) C mv_X6_copyFrom ml_RX3_23 dX3_remember_44 rfl s17 rfl (Nat.le_of_ble_eq_true rfl) ⟨Nat.le_refl _, Nat.le_refl _⟩ h (fun I18 L19 P20 h => ?_)
    exact q_vret C hk dX3_remember_47 ⟨rfl, h⟩
theorem sp_X3_remember {d : Nat} {sh : List qSh} {K : Option Value → qMI → qML → qMP → Prop} {a0 : Nat} {a1 : Nat} {I : qMI} {L : qML} {P : qMP} (h0 : vc_X3_remember_0 d sh K a0 a1 I L P) : Sq (d + 1) mX3_remember sh [.ref a0, .ref a1] I L P K := by
  refine Sq_of (by decide +kernel) (Nat.le_of_ble_eq_true rfl) (fun X C hk hn => ?_)
  exact rg_X3_remember_0 C hk h0
/-! BracketDraws$History.loseOldest()V -/
def vc_X3_loseOldest_0 (d : Nat) (sh : List qSh) (K : Option Value → qMI → qML → qMP → Prop) (T1 : Nat → Int32 → qMI → qML → qMP → Prop) (a0 : Nat) (I : qMI) (L : qML) (P : qMP) : Prop :=
  ((shp sh a0).1 = 3) ∧ (((shp sh (P a0 0)).1 = 23) ∧ ((vp_in 0 (shp sh (P a0 0)).2) ∧ (T1 (P (P a0 0) (Int32.toNatClampNeg 0)) 1 I L P)))
set_option maxRecDepth 100000 in
set_option maxHeartbeats 4000000 in
theorem rg_X3_loseOldest_0 {X : qCT} {d : Nat} {sh : List qSh} {K : Option Value → qMI → qML → qMP → Prop} {T1 : Nat → Int32 → qMI → qML → qMP → Prop} {a0 : Nat} {I : qMI} {L : qML} {P : qMP} (C : qCB X RX3 cX3_loseOldest 3 (d + 1) 0 0) (hk : qCK X (none) 0 0 (fun v sh' I' L' P' => sh' = sh ∧ K v I' L' P')) (hT1 : ∀ (a1 : Nat) (x2 : Int32) (I : qMI) (L : qML) (P : qMP), T1 a1 x2 I L P → qG X 9 [some (.ref a0), some (.ref a1), some (.int x2)] [] sh I L P 0 0) (h : vc_X3_loseOldest_0 d sh K T1 a0 I L P) : qG X 0 [some (.ref a0), none, none] [] sh I L P 0 0 := by
  unfold vc_X3_loseOldest_0 at h
  refine q_aload_n C dX3_loseOldest_0 rfl ?_
  have s1 := h.1
  replace h := h.2
  refine q_getP C fl_RX3_11 rfl s1 dX3_loseOldest_1 ?_
  refine q_iconst (v := 0) C dX3_loseOldest_4 (by decide) ?_
  have s2 := h.1
  replace h := h.2
  have s3 := h.1
  replace h := h.2
  refine q_aald C s2 s3 dX3_loseOldest_5 ?_
  refine q_astore_n (lo1 := [some (.ref a0), some (.ref (P (P a0 0) (Int32.toNatClampNeg 0))), none]) C dX3_loseOldest_6 (by decide) rfl ?_
  refine q_iconst (v := 1) C dX3_loseOldest_7 (by decide) ?_
  refine q_istore_n (lo1 := [some (.ref a0), some (.ref (P (P a0 0) (Int32.toNatClampNeg 0))), some (.int 1)]) C dX3_loseOldest_8 (by decide) rfl ?_
  exact hT1 _ _ _ _ _ h
def vc_X3_loseOldest_1 (d : Nat) (sh : List qSh) (K : Option Value → qMI → qML → qMP → Prop) (T1 : Nat → Int32 → qMI → qML → qMP → Prop) (a0 : Nat) (a1 : Nat) (x2 : Int32) (I : qMI) (L : qML) (P : qMP) : Prop :=
  ((shp sh a0).1 = 3) ∧ (((shp sh (P a0 0)).1 = 23) ∧ ((((nI (shp sh (P a0 0)).2) ≤ x2) → ((vp_in ((nI (shp sh (P a0 0)).2) - 1) (shp sh (P a0 0)).2) ∧ (((shp sh a1).1 = 6) ∧ (∀ P6 : qMP, P6 = uP P (P a0 0) (Int32.toNatClampNeg ((nI (shp sh (P a0 0)).2) - 1)) a1 → (K none I L P6))))) ∧ ((¬ (nI (shp sh (P a0 0)).2) ≤ x2) → ((vp_in x2 (shp sh (P a0 0)).2) ∧ ((vp_in (x2 - 1) (shp sh (P a0 0)).2) ∧ (((shp sh (P (P a0 0) (Int32.toNatClampNeg x2))).1 = 6) ∧ (∀ P10 : qMP, P10 = uP P (P a0 0) (Int32.toNatClampNeg (x2 - 1)) (P (P a0 0) (Int32.toNatClampNeg x2)) → (T1 a1 (x2 + 1) I L P10))))))))
set_option maxRecDepth 100000 in
set_option maxHeartbeats 4000000 in
theorem rg_X3_loseOldest_1 {X : qCT} {d : Nat} {sh : List qSh} {K : Option Value → qMI → qML → qMP → Prop} {T1 : Nat → Int32 → qMI → qML → qMP → Prop} {a0 : Nat} {a1 : Nat} {x2 : Int32} {I : qMI} {L : qML} {P : qMP} (C : qCB X RX3 cX3_loseOldest 3 (d + 1) 0 0) (hk : qCK X (none) 0 0 (fun v sh' I' L' P' => sh' = sh ∧ K v I' L' P')) (hT1 : ∀ (a1 : Nat) (x2 : Int32) (I : qMI) (L : qML) (P : qMP), T1 a1 x2 I L P → qG X 9 [some (.ref a0), some (.ref a1), some (.int x2)] [] sh I L P 0 0) (h : vc_X3_loseOldest_1 d sh K T1 a0 a1 x2 I L P) : qG X 9 [some (.ref a0), some (.ref a1), some (.int x2)] [] sh I L P 0 0 := by
  unfold vc_X3_loseOldest_1 at h
  refine q_iload_n C dX3_loseOldest_9 rfl ?_
  refine q_aload_n C dX3_loseOldest_10 rfl ?_
  have s1 := h.1
  replace h := h.2
  refine q_getP C fl_RX3_11 rfl s1 dX3_loseOldest_11 ?_
  have s2 := h.1
  replace h := h.2
  refine q_alen23 C s2 dX3_loseOldest_14 ?_
  refine q_icmp_ge (tgt := 38) C dX3_loseOldest_15 (by decide) (fun c3 => ?_) (fun c3 => ?_)
  · replace h := h.1 c3
    refine q_aload_n C dX3_loseOldest_38 rfl ?_
    refine q_getP C fl_RX3_11 rfl s1 dX3_loseOldest_39 ?_
    refine q_aload_n C dX3_loseOldest_42 rfl ?_
    refine q_getP C fl_RX3_11 rfl s1 dX3_loseOldest_43 ?_
    refine q_alen23 C s2 dX3_loseOldest_46 ?_
    refine q_iconst (v := 1) C dX3_loseOldest_47 (by decide) ?_
    refine q_isub C dX3_loseOldest_48 ?_
    refine q_aload_n C dX3_loseOldest_49 rfl ?_
    have s4 := h.1
    replace h := h.2
    have s5 := h.1
    replace h := h.2
    refine q_aast C s2 s4 s5 dX3_loseOldest_50 (fun P6 eP6 => ?_)
    replace h := h P6 eP6
    exact q_vret C hk dX3_loseOldest_51 ⟨rfl, h⟩
  · replace h := h.2 c3
    refine q_aload_n C dX3_loseOldest_18 rfl ?_
    refine q_getP C fl_RX3_11 rfl s1 dX3_loseOldest_19 ?_
    refine q_iload_n C dX3_loseOldest_22 rfl ?_
    refine q_iconst (v := 1) C dX3_loseOldest_23 (by decide) ?_
    refine q_isub C dX3_loseOldest_24 ?_
    refine q_aload_n C dX3_loseOldest_25 rfl ?_
    refine q_getP C fl_RX3_11 rfl s1 dX3_loseOldest_26 ?_
    refine q_iload_n C dX3_loseOldest_29 rfl ?_
    have s7 := h.1
    replace h := h.2
    refine q_aald C s2 s7 dX3_loseOldest_30 ?_
    have s8 := h.1
    replace h := h.2
    have s9 := h.1
    replace h := h.2
    refine q_aast C s2 s8 s9 dX3_loseOldest_31 (fun P10 eP10 => ?_)
    replace h := h P10 eP10
    refine q_iinc (w := 1) (lo1 := [some (.ref a0), some (.ref a1), some (.int (x2 + 1))]) C dX3_loseOldest_32 rfl (by decide) (by decide) rfl ?_
    refine q_goto (tgt := 9) C dX3_loseOldest_35 (by decide) ?_
    exact hT1 _ _ _ _ _ h
theorem sp_X3_loseOldest {d : Nat} {sh : List qSh} {K : Option Value → qMI → qML → qMP → Prop} {a0 : Nat} {I : qMI} {L : qML} {P : qMP} (T1 : Nat → Int32 → qMI → qML → qMP → Prop) (m1 : Nat → Int32 → qMI → qML → qMP → Nat) (h0 : vc_X3_loseOldest_0 d sh K T1 a0 I L P)
    (h1 : ∀ (a1 : Nat) (x2 : Int32) (I : qMI) (L : qML) (P : qMP), T1 a1 x2 I L P → vc_X3_loseOldest_1 d sh K (fun w0 w1 I' L' P' => T1 w0 w1 I' L' P' ∧ m1 w0 w1 I' L' P' < m1 a1 x2 I L P) a0 a1 x2 I L P) : Sq (d + 1) mX3_loseOldest sh [.ref a0] I L P K := by
  refine Sq_of (by decide +kernel) (Nat.le_of_ble_eq_true rfl) (fun X C hk hn => ?_)
  have go : ∀ N : Nat, (∀ (a1 : Nat) (x2 : Int32) (I : qMI) (L : qML) (P : qMP), T1 a1 x2 I L P → m1 a1 x2 I L P < N → qG X 9 [some (.ref a0), some (.ref a1), some (.int x2)] [] sh I L P 0 0) := by
    intro N
    induction N with
    | zero => exact fun _ _ _ _ _ _ q => absurd q (Nat.not_lt_zero _)
    | succ N ih =>
      exact fun b0 b1 I1 L1 P1 t q => rg_X3_loseOldest_1 C hk (fun z0 z1 I2 L2 P2 z => ih z0 z1 I2 L2 P2 z.1 (Nat.lt_of_lt_of_le z.2 (Nat.le_of_lt_succ q))) (h1 b0 b1 I1 L1 P1 t)
  exact rg_X3_loseOldest_0 C hk (fun b0 b1 I1 L1 P1 t => (go (m1 b0 b1 I1 L1 P1 + 1)) b0 b1 I1 L1 P1 t (Nat.lt_succ_self _)) h0
/-! BracketDraws$History.step(LBracketDraws$Situation;I)V -/
def vc_X3_step_0 (d : Nat) (sh : List qSh) (K : Option Value → qMI → qML → qMP → Prop) (a0 : Nat) (a1 : Nat) (x2 : Int32) (I : qMI) (L : qML) (P : qMP) : Prop :=
  ((shp sh a0).1 = 3) ∧ (((((I a0 1) + x2) < 0) → (K none I L P)) ∧ ((¬ ((I a0 1) + x2) < 0) → ((((I a0 2) < ((I a0 1) + x2)) → (K none I L P)) ∧ ((¬ (I a0 2) < ((I a0 1) + x2)) → (((shp sh (P a0 0)).1 = 23) ∧ ((((nI (shp sh (P a0 0)).2) ≤ ((I a0 1) + x2)) → (K none I L P)) ∧ ((¬ (nI (shp sh (P a0 0)).2) ≤ ((I a0 1) + x2)) → (∀ I6 : qMI, I6 = uI I a0 1 ((I a0 1) + x2) → ((vp_in ((I a0 1) + x2) (shp sh (P a0 0)).2) ∧ (((shp sh a1).1 = 6) ∧ (Sq d mX6_copyFrom sh [.ref a1, .ref (P (P a0 0) (Int32.toNatClampNeg ((I a0 1) + x2)))] I6 L P (KV fun I9 L10 P11 => K none I9 L10 P11))))))))))))
set_option maxRecDepth 100000 in
set_option maxHeartbeats 4000000 in
theorem rg_X3_step_0 {X : qCT} {d : Nat} {sh : List qSh} {K : Option Value → qMI → qML → qMP → Prop} {a0 : Nat} {a1 : Nat} {x2 : Int32} {I : qMI} {L : qML} {P : qMP} (C : qCB X RX3 cX3_step 4 (d + 1) 0 0) (hk : qCK X (none) 0 0 (fun v sh' I' L' P' => sh' = sh ∧ K v I' L' P')) (h : vc_X3_step_0 d sh K a0 a1 x2 I L P) : qG X 0 [some (.ref a0), some (.ref a1), some (.int x2), none] [] sh I L P 0 0 := by
  unfold vc_X3_step_0 at h
  refine q_aload_n C dX3_step_0 rfl ?_
  have s1 := h.1
  replace h := h.2
  refine q_getI C fl_RX3_16 rfl s1 dX3_step_1 ?_
  refine q_iload_n C dX3_step_4 rfl ?_
  refine q_iadd C dX3_step_5 ?_
  refine q_istore_n (lo1 := [some (.ref a0), some (.ref a1), some (.int x2), some (.int ((I a0 1) + x2))]) C dX3_step_6 (by decide) rfl ?_
  refine q_iload_n C dX3_step_7 rfl ?_
  refine q_if_lt (tgt := 43) C dX3_step_8 (by decide) (fun c2 => ?_) (fun c2 => ?_)
  · replace h := h.1 c2
    exact q_vret C hk dX3_step_43 ⟨rfl, h⟩
  · replace h := h.2 c2
    refine q_iload_n C dX3_step_11 rfl ?_
    refine q_aload_n C dX3_step_12 rfl ?_
    refine q_getI C fl_RX3_20 rfl s1 dX3_step_13 ?_
    refine q_icmp_gt (tgt := 43) C dX3_step_16 (by decide) (fun c3 => ?_) (fun c3 => ?_)
    · replace h := h.1 c3
      exact q_vret C hk dX3_step_43 ⟨rfl, h⟩
    · replace h := h.2 c3
      refine q_iload_n C dX3_step_19 rfl ?_
      refine q_aload_n C dX3_step_20 rfl ?_
      refine q_getP C fl_RX3_11 rfl s1 dX3_step_21 ?_
      have s4 := h.1
      replace h := h.2
      refine q_alen23 C s4 dX3_step_24 ?_
      refine q_icmp_ge (tgt := 43) C dX3_step_25 (by decide) (fun c5 => ?_) (fun c5 => ?_)
      · replace h := h.1 c5
        exact q_vret C hk dX3_step_43 ⟨rfl, h⟩
      · replace h := h.2 c5
        refine q_aload_n C dX3_step_28 rfl ?_
        refine q_iload_n C dX3_step_29 rfl ?_
        refine q_putI C fl_RX3_16 (fun T hT => by cases hT; rfl) rfl s1 dX3_step_30 (fun I6 eI6 => ?_)
        replace h := h I6 eI6
        refine q_aload_n C dX3_step_33 rfl ?_
        refine q_aload_n C dX3_step_34 rfl ?_
        refine q_getP C fl_RX3_11 rfl s1 dX3_step_35 ?_
        refine q_iload_n C dX3_step_38 rfl ?_
        have s7 := h.1
        replace h := h.2
        refine q_aald C s4 s7 dX3_step_39 ?_
        have s8 := h.1
        replace h := h.2
        refine q_cVv (as := [.ref (P (P a0 0) (Int32.toNatClampNeg ((I a0 1) + x2)))]) (st := []) (r := a1) C mv_X6_copyFrom ml_RX3_23 dX3_step_40 rfl s8 rfl (Nat.le_of_ble_eq_true rfl) ⟨Nat.le_refl _, Nat.le_refl _⟩ h (fun I9 L10 P11 h => ?_)
        exact q_vret C hk dX3_step_43 ⟨rfl, h⟩
theorem sp_X3_step {d : Nat} {sh : List qSh} {K : Option Value → qMI → qML → qMP → Prop} {a0 : Nat} {a1 : Nat} {x2 : Int32} {I : qMI} {L : qML} {P : qMP} (h0 : vc_X3_step_0 d sh K a0 a1 x2 I L P) : Sq (d + 1) mX3_step sh [.ref a0, .ref a1, .int x2] I L P K := by
  refine Sq_of (by decide +kernel) (Nat.le_of_ble_eq_true rfl) (fun X C hk hn => ?_)
  exact rg_X3_step_0 C hk h0
/-! BracketDraws$Situation.copyFrom(LBracketDraws$Situation;)V -/
def vc_X6_copyFrom_0 (d : Nat) (sh : List qSh) (K : Option Value → qMI → qML → qMP → Prop) (a0 : Nat) (a1 : Nat) (I : qMI) (L : qML) (P : qMP) : Prop :=
  ((shp sh a0).1 = 6) ∧ (((shp sh a1).1 = 6) ∧ (((shp sh (P a0 0)).1 = 2) ∧ (Sq d mX2_copyFrom sh [.ref (P a0 0), .ref (P a1 0)] I L P (KV fun I4 L5 P6 => ((shp sh (P6 a0 1)).1 = 1) ∧ (Sq d mX1_copyFrom sh [.ref (P6 a0 1), .ref (P6 a1 1)] I4 L5 P6 (KV fun I8 L9 P10 => K none I8 L9 P10))))))
set_option maxRecDepth 100000 in
set_option maxHeartbeats 4000000 in
theorem rg_X6_copyFrom_0 {X : qCT} {d : Nat} {sh : List qSh} {K : Option Value → qMI → qML → qMP → Prop} {a0 : Nat} {a1 : Nat} {I : qMI} {L : qML} {P : qMP} (C : qCB X RX6 cX6_copyFrom 2 (d + 1) 0 0) (hk : qCK X (none) 0 0 (fun v sh' I' L' P' => sh' = sh ∧ K v I' L' P')) (h : vc_X6_copyFrom_0 d sh K a0 a1 I L P) : qG X 0 [some (.ref a0), some (.ref a1)] [] sh I L P 0 0 := by
  unfold vc_X6_copyFrom_0 at h
  refine q_aload_n C dX6_copyFrom_0 rfl ?_
  have s1 := h.1
  replace h := h.2
  refine q_getP C fl_RX6_10 rfl s1 dX6_copyFrom_1 ?_
  refine q_aload_n C dX6_copyFrom_4 rfl ?_
  have s2 := h.1
  replace h := h.2
  refine q_getP C fl_RX6_10 rfl s2 dX6_copyFrom_5 ?_
  have s3 := h.1
  replace h := h.2
  refine q_cVv (as := [.ref (P a1 0)]) (st := []) (r := P a0 0) C mv_X2_copyFrom ml_RX6_23 dX6_copyFrom_8 rfl s3 rfl (Nat.le_of_ble_eq_true rfl) ⟨Nat.le_refl _, Nat.le_refl _⟩ h (fun I4 L5 P6 h => ?_)
  refine q_aload_n C dX6_copyFrom_11 rfl ?_
  refine q_getP C fl_RX6_19 rfl s1 dX6_copyFrom_12 ?_
  refine q_aload_n C dX6_copyFrom_15 rfl ?_
  refine q_getP C fl_RX6_19 rfl s2 dX6_copyFrom_16 ?_
  have s7 := h.1
  replace h := h.2
  refine q_cVv (as := [.ref (P6 a1 1)]) (st := []) (r := P6 a0 1) C mv_X1_copyFrom ml_RX6_27 dX6_copyFrom_19 rfl s7 rfl (Nat.le_of_ble_eq_true rfl) ⟨Nat.le_refl _, Nat.le_refl _⟩ h (fun I8 L9 P10 h => ?_)
  exact q_vret C hk dX6_copyFrom_22 ⟨rfl, h⟩
theorem sp_X6_copyFrom {d : Nat} {sh : List qSh} {K : Option Value → qMI → qML → qMP → Prop} {a0 : Nat} {a1 : Nat} {I : qMI} {L : qML} {P : qMP} (h0 : vc_X6_copyFrom_0 d sh K a0 a1 I L P) : Sq (d + 1) mX6_copyFrom sh [.ref a0, .ref a1] I L P K := by
  refine Sq_of (by decide +kernel) (Nat.le_of_ble_eq_true rfl) (fun X C hk hn => ?_)
  exact rg_X6_copyFrom_0 C hk h0
/-! BracketDraws.player(IIII)I -/
def vc_X9_player_0 (d : Nat) (sh : List qSh) (K : Option Value → qMI → qML → qMP → Prop) (a0 : Nat) (x1 : Int32) (x2 : Int32) (x3 : Int32) (x4 : Int32) (I : qMI) (L : qML) (P : qMP) : Prop :=
  ((shp sh a0).1 = 9) ∧ (((shp sh (P a0 0)).1 = 6) ∧ (((shp sh (P (P a0 0) 0)).1 = 2) ∧ (Sq d mX2_mayTell sh [.ref (P (P a0 0) 0), .int ((-1)), .int 0, .int x1] I L P (KI fun r4 I5 L6 P7 => ((r4 = 0) → (K (some (.int ((-1)))) I5 L6 P7)) ∧ ((¬ r4 = 0) → (Sq d mX2_mayTell sh [.ref (P (P a0 0) 0), .int ((-1)), .int 1, .int x2] I5 L6 P7 (KI fun r9 I10 L11 P12 => ((r9 = 0) → (K (some (.int ((-1)))) I10 L11 P12)) ∧ ((¬ r9 = 0) → (Sq d mX2_mayTell sh [.ref (P (P a0 0) 0), .int ((-1)), .int 2, .int x3] I10 L11 P12 (KI fun r14 I15 L16 P17 => ((r14 = 0) → (K (some (.int ((-1)))) I15 L16 P17)) ∧ ((¬ r14 = 0) → (Sq d mX2_mayTell sh [.ref (P (P a0 0) 0), .int ((-1)), .int 3, .int x4] I15 L16 P17 (KI fun r19 I20 L21 P22 => ((r19 = 0) → (K (some (.int ((-1)))) I20 L21 P22)) ∧ ((¬ r19 = 0) → ((((I20 (P (P a0 0) 0) 0) < 10) → (Sq d mX2_add sh [.ref (P (P a0 0) 0), .int x1, .int x2, .int x3, .int x4] I20 L21 P22 (KV fun I25 L26 P27 => Sq d mX9_startAnew sh [.ref a0] I25 L26 P27 (KV fun I28 L29 P30 => K (some (.int ((I28 (P (P a0 0) 0) 0) - 1))) I28 L29 P30)))) ∧ ((¬ (I20 (P (P a0 0) 0) 0) < 10) → (K (some (.int ((-3)))) I20 L21 P22)))))))))))))))))
set_option maxRecDepth 100000 in
set_option maxHeartbeats 4000000 in
theorem rg_X9_player_0 {X : qCT} {d : Nat} {sh : List qSh} {K : Option Value → qMI → qML → qMP → Prop} {a0 : Nat} {x1 : Int32} {x2 : Int32} {x3 : Int32} {x4 : Int32} {I : qMI} {L : qML} {P : qMP} (C : qCB X RX9 cX9_player 7 (d + 1) 0 0) (hk : qCK X (some .int) 0 0 (fun v sh' I' L' P' => sh' = sh ∧ K v I' L' P')) (h : vc_X9_player_0 d sh K a0 x1 x2 x3 x4 I L P) : qG X 0 [some (.ref a0), some (.int x1), some (.int x2), some (.int x3), some (.int x4), none, none] [] sh I L P 0 0 := by
  unfold vc_X9_player_0 at h
  refine q_aload_n C dX9_player_0 rfl ?_
  have s1 := h.1
  replace h := h.2
  refine q_getP C fl_RX9_10 rfl s1 dX9_player_1 ?_
  have s2 := h.1
  replace h := h.2
  refine q_getP C fl_RX9_68 rfl s2 dX9_player_4 ?_
  refine q_astore (lo1 := [some (.ref a0), some (.int x1), some (.int x2), some (.int x3), some (.int x4), some (.ref (P (P a0 0) 0)), none]) C dX9_player_7 (by decide) rfl ?_
  refine q_aload C dX9_player_9 rfl ?_
  refine q_iconst (v := (-1)) C dX9_player_11 (by decide) ?_
  refine q_iconst (v := 0) C dX9_player_12 (by decide) ?_
  refine q_iload_n C dX9_player_13 rfl ?_
  have s3 := h.1
  replace h := h.2
  refine q_cVi (as := [.int ((-1)), .int 0, .int x1]) (st := []) (r := P (P a0 0) 0) C mv_X2_mayTell ml_RX9_71 dX9_player_14 rfl s3 rfl (Nat.le_of_ble_eq_true rfl) ⟨Nat.le_refl _, Nat.le_refl _⟩ h (fun r4 I5 L6 P7 h => ?_)
  refine q_if_eq (tgt := 58) C dX9_player_17 (by decide) (fun c8 => ?_) (fun c8 => ?_)
  · replace h := h.1 c8
    refine q_iconst (v := 0) C dX9_player_58 (by decide) ?_
    refine q_istore (lo1 := [some (.ref a0), some (.int x1), some (.int x2), some (.int x3), some (.int x4), some (.ref (P (P a0 0) 0)), some (.int 0)]) C dX9_player_59 (by decide) rfl ?_
    refine q_iload C dX9_player_61 rfl ?_
    refine q_if_ne (tgt := 68) C dX9_player_63 (by decide) (fun c => absurd c (by decide)) (fun _ => ?_)
    refine q_iconst (v := (-1)) C dX9_player_66 (by decide) ?_
    exact q_iret C hk dX9_player_67 ⟨rfl, h⟩
  · replace h := h.2 c8
    refine q_aload C dX9_player_20 rfl ?_
    refine q_iconst (v := (-1)) C dX9_player_22 (by decide) ?_
    refine q_iconst (v := 1) C dX9_player_23 (by decide) ?_
    refine q_iload_n C dX9_player_24 rfl ?_
    refine q_cVi (as := [.int ((-1)), .int 1, .int x2]) (st := []) (r := P (P a0 0) 0) C mv_X2_mayTell ml_RX9_71 dX9_player_25 rfl s3 rfl (Nat.le_of_ble_eq_true rfl) ⟨Nat.le_refl _, Nat.le_refl _⟩ h (fun r9 I10 L11 P12 h => ?_)
    refine q_if_eq (tgt := 58) C dX9_player_28 (by decide) (fun c13 => ?_) (fun c13 => ?_)
    · replace h := h.1 c13
      refine q_iconst (v := 0) C dX9_player_58 (by decide) ?_
      refine q_istore (lo1 := [some (.ref a0), some (.int x1), some (.int x2), some (.int x3), some (.int x4), some (.ref (P (P a0 0) 0)), some (.int 0)]) C dX9_player_59 (by decide) rfl ?_
      refine q_iload C dX9_player_61 rfl ?_
      refine q_if_ne (tgt := 68) C dX9_player_63 (by decide) (fun c => absurd c (by decide)) (fun _ => ?_)
      refine q_iconst (v := (-1)) C dX9_player_66 (by decide) ?_
      exact q_iret C hk dX9_player_67 ⟨rfl, h⟩
    · replace h := h.2 c13
      refine q_aload C dX9_player_31 rfl ?_
      refine q_iconst (v := (-1)) C dX9_player_33 (by decide) ?_
      refine q_iconst (v := 2) C dX9_player_34 (by decide) ?_
      refine q_iload_n C dX9_player_35 rfl ?_
      refine q_cVi (as := [.int ((-1)), .int 2, .int x3]) (st := []) (r := P (P a0 0) 0) C mv_X2_mayTell ml_RX9_71 dX9_player_36 rfl s3 rfl (Nat.le_of_ble_eq_true rfl) ⟨Nat.le_refl _, Nat.le_refl _⟩ h (fun r14 I15 L16 P17 h => ?_)
      refine q_if_eq (tgt := 58) C dX9_player_39 (by decide) (fun c18 => ?_) (fun c18 => ?_)
      · replace h := h.1 c18
        refine q_iconst (v := 0) C dX9_player_58 (by decide) ?_
        refine q_istore (lo1 := [some (.ref a0), some (.int x1), some (.int x2), some (.int x3), some (.int x4), some (.ref (P (P a0 0) 0)), some (.int 0)]) C dX9_player_59 (by decide) rfl ?_
        refine q_iload C dX9_player_61 rfl ?_
        refine q_if_ne (tgt := 68) C dX9_player_63 (by decide) (fun c => absurd c (by decide)) (fun _ => ?_)
        refine q_iconst (v := (-1)) C dX9_player_66 (by decide) ?_
        exact q_iret C hk dX9_player_67 ⟨rfl, h⟩
      · replace h := h.2 c18
        refine q_aload C dX9_player_42 rfl ?_
        refine q_iconst (v := (-1)) C dX9_player_44 (by decide) ?_
        refine q_iconst (v := 3) C dX9_player_45 (by decide) ?_
        refine q_iload C dX9_player_46 rfl ?_
        refine q_cVi (as := [.int ((-1)), .int 3, .int x4]) (st := []) (r := P (P a0 0) 0) C mv_X2_mayTell ml_RX9_71 dX9_player_48 rfl s3 rfl (Nat.le_of_ble_eq_true rfl) ⟨Nat.le_refl _, Nat.le_refl _⟩ h (fun r19 I20 L21 P22 h => ?_)
        refine q_if_eq (tgt := 58) C dX9_player_51 (by decide) (fun c23 => ?_) (fun c23 => ?_)
        · replace h := h.1 c23
          refine q_iconst (v := 0) C dX9_player_58 (by decide) ?_
          refine q_istore (lo1 := [some (.ref a0), some (.int x1), some (.int x2), some (.int x3), some (.int x4), some (.ref (P (P a0 0) 0)), some (.int 0)]) C dX9_player_59 (by decide) rfl ?_
          refine q_iload C dX9_player_61 rfl ?_
          refine q_if_ne (tgt := 68) C dX9_player_63 (by decide) (fun c => absurd c (by decide)) (fun _ => ?_)
          refine q_iconst (v := (-1)) C dX9_player_66 (by decide) ?_
          exact q_iret C hk dX9_player_67 ⟨rfl, h⟩
        · replace h := h.2 c23
          refine q_iconst (v := 1) C dX9_player_54 (by decide) ?_
          refine q_goto (tgt := 59) C dX9_player_55 (by decide) ?_
          refine q_istore (lo1 := [some (.ref a0), some (.int x1), some (.int x2), some (.int x3), some (.int x4), some (.ref (P (P a0 0) 0)), some (.int 1)]) C dX9_player_59 (by decide) rfl ?_
          refine q_iload C dX9_player_61 rfl ?_
          refine q_if_ne (tgt := 68) C dX9_player_63 (by decide) (fun _ => ?_) (fun c => absurd c (by decide))
          refine q_aload C dX9_player_68 rfl ?_
          refine q_getI C fl_RX9_75 rfl s3 dX9_player_70 ?_
          refine q_bipush (v := 10) C dX9_player_73 (by decide) ?_
          refine q_icmp_lt (tgt := 81) C dX9_player_75 (by decide) (fun c24 => ?_) (fun c24 => ?_)
          · replace h := h.1 c24
            refine q_aload C dX9_player_81 rfl ?_
            refine q_iload_n C dX9_player_83 rfl ?_
            refine q_iload_n C dX9_player_84 rfl ?_
            refine q_iload_n C dX9_player_85 rfl ?_
            refine q_iload C dX9_player_86 rfl ?_
            refine q_cVv (as := [.int x1, .int x2, .int x3, .int x4]) (st := []) (r := P (P a0 0) 0) C mv_X2_add ml_RX9_78 dX9_player_88 rfl s3 rfl (Nat.le_of_ble_eq_true rfl) ⟨Nat.le_refl _, Nat.le_refl _⟩ h (fun I25 L26 P27 h => ?_)
            refine q_aload_n C dX9_player_91 rfl ?_
            refine q_cVv (as := []) (st := []) (r := a0) C mv_X9_startAnew ml_RX9_82 dX9_player_92 rfl s1 rfl (Nat.le_of_ble_eq_true rfl) ⟨Nat.le_refl _, Nat.le_refl _⟩ h (fun I28 L29 P30 h => ?_)
            refine q_aload C dX9_player_95 rfl ?_
            refine q_getI C fl_RX9_75 rfl s3 dX9_player_97 ?_
            refine q_iconst (v := 1) C dX9_player_100 (by decide) ?_
            refine q_isub C dX9_player_101 ?_
            exact q_iret C hk dX9_player_102 ⟨rfl, h⟩
          · replace h := h.2 c24
            refine q_bipush (v := (-3)) C dX9_player_78 (by decide) ?_
            exact q_iret C hk dX9_player_80 ⟨rfl, h⟩
theorem sp_X9_player {d : Nat} {sh : List qSh} {K : Option Value → qMI → qML → qMP → Prop} {a0 : Nat} {x1 : Int32} {x2 : Int32} {x3 : Int32} {x4 : Int32} {I : qMI} {L : qML} {P : qMP} (h0 : vc_X9_player_0 d sh K a0 x1 x2 x3 x4 I L P) : Sq (d + 1) mX9_player sh [.ref a0, .int x1, .int x2, .int x3, .int x4] I L P K := by
  refine Sq_of (by decide +kernel) (Nat.le_of_ble_eq_true rfl) (fun X C hk hn => ?_)
  exact rg_X9_player_0 C hk h0
/-! BracketDraws.tell(III)I -/
def vc_X9_tell_0 (d : Nat) (sh : List qSh) (K : Option Value → qMI → qML → qMP → Prop) (a0 : Nat) (x1 : Int32) (x2 : Int32) (x3 : Int32) (I : qMI) (L : qML) (P : qMP) : Prop :=
  ((shp sh a0).1 = 9) ∧ (((shp sh (P a0 0)).1 = 6) ∧ (((shp sh (P (P a0 0) 0)).1 = 2) ∧ (Sq d mX2_has sh [.ref (P (P a0 0) 0), .int x1] I L P (KI fun r4 I5 L6 P7 => ((r4 = 0) → (K (some (.int ((-1)))) I5 L6 P7)) ∧ ((¬ r4 = 0) → (Sq d mX2_mayTell sh [.ref (P (P a0 0) 0), .int x1, .int x2, .int x3] I5 L6 P7 (KI fun r9 I10 L11 P12 => ((¬ r9 = 0) → (Sq d mX2_told sh [.ref (P (P a0 0) 0), .int x1, .int x2] I10 L11 P12 (KI fun r14 I15 L16 P17 => Sq d mX2_put sh [.ref (P (P a0 0) 0), .int x1, .int x2, .int x3] I15 L16 P17 (KV fun I18 L19 P20 => ((x2 = 3) → (((shp sh (P20 a0 2)).1 = 3) ∧ (Sq d mX3_remember sh [.ref (P20 a0 2), .ref (P20 a0 0)] I18 L19 P20 (KV fun I23 L24 P25 => K (some (.int r14)) I23 L24 P25)))) ∧ ((¬ x2 = 3) → (((shp sh (P20 a0 0)).1 = 6) ∧ (((shp sh (P20 (P20 a0 0) 1)).1 = 1) ∧ (Sq d mX1_drop sh [.ref (P20 (P20 a0 0) 1)] I18 L19 P20 (KV fun I28 L29 P30 => ((shp sh (P30 a0 2)).1 = 3) ∧ (Sq d mX3_remember sh [.ref (P30 a0 2), .ref (P30 a0 0)] I28 L29 P30 (KV fun I32 L33 P34 => K (some (.int r14)) I32 L33 P34))))))))))) ∧ ((r9 = 0) → (K (some (.int ((-1)))) I10 L11 P12)))))))))
set_option maxRecDepth 100000 in
set_option maxHeartbeats 4000000 in
theorem rg_X9_tell_0 {X : qCT} {d : Nat} {sh : List qSh} {K : Option Value → qMI → qML → qMP → Prop} {a0 : Nat} {x1 : Int32} {x2 : Int32} {x3 : Int32} {I : qMI} {L : qML} {P : qMP} (C : qCB X RX9 cX9_tell 6 (d + 1) 0 0) (hk : qCK X (some .int) 0 0 (fun v sh' I' L' P' => sh' = sh ∧ K v I' L' P')) (h : vc_X9_tell_0 d sh K a0 x1 x2 x3 I L P) : qG X 0 [some (.ref a0), some (.int x1), some (.int x2), some (.int x3), none, none] [] sh I L P 0 0 := by
  unfold vc_X9_tell_0 at h
  refine q_aload_n C dX9_tell_0 rfl ?_
  have s1 := h.1
  replace h := h.2
  refine q_getP C fl_RX9_10 rfl s1 dX9_tell_1 ?_
  have s2 := h.1
  replace h := h.2
  refine q_getP C fl_RX9_68 rfl s2 dX9_tell_4 ?_
  refine q_astore (lo1 := [some (.ref a0), some (.int x1), some (.int x2), some (.int x3), some (.ref (P (P a0 0) 0)), none]) C dX9_tell_7 (by decide) rfl ?_
  refine q_aload C dX9_tell_9 rfl ?_
  refine q_iload_n C dX9_tell_11 rfl ?_
  have s3 := h.1
  replace h := h.2
  refine q_cVi (as := [.int x1]) (st := []) (r := P (P a0 0) 0) C mv_X2_has ml_RX9_85 dX9_tell_12 rfl s3 rfl (Nat.le_of_ble_eq_true rfl) ⟨Nat.le_refl _, Nat.le_refl _⟩ h (fun r4 I5 L6 P7 h => ?_)
  refine q_if_eq (tgt := 29) C dX9_tell_15 (by decide) (fun c8 => ?_) (fun c8 => ?_)
  · replace h := h.1 c8
    refine q_iconst (v := (-1)) C dX9_tell_29 (by decide) ?_
    exact q_iret C hk dX9_tell_30 ⟨rfl, h⟩
  · replace h := h.2 c8
    refine q_aload C dX9_tell_18 rfl ?_
    refine q_iload_n C dX9_tell_20 rfl ?_
    refine q_iload_n C dX9_tell_21 rfl ?_
    refine q_iload_n C dX9_tell_22 rfl ?_
    refine q_cVi (as := [.int x1, .int x2, .int x3]) (st := []) (r := P (P a0 0) 0) C mv_X2_mayTell ml_RX9_71 dX9_tell_23 rfl s3 rfl (Nat.le_of_ble_eq_true rfl) ⟨Nat.le_refl _, Nat.le_refl _⟩ h (fun r9 I10 L11 P12 h => ?_)
    refine q_if_ne (tgt := 31) C dX9_tell_26 (by decide) (fun c13 => ?_) (fun c13 => ?_)
    · replace h := h.1 c13
      refine q_aload C dX9_tell_31 rfl ?_
      refine q_iload_n C dX9_tell_33 rfl ?_
      refine q_iload_n C dX9_tell_34 rfl ?_
      refine q_cVi (as := [.int x1, .int x2]) (st := []) (r := P (P a0 0) 0) C mv_X2_told ml_RX9_89 dX9_tell_35 rfl s3 rfl (Nat.le_of_ble_eq_true rfl) ⟨Nat.le_refl _, Nat.le_refl _⟩ h (fun r14 I15 L16 P17 h => ?_)
      refine q_istore (lo1 := [some (.ref a0), some (.int x1), some (.int x2), some (.int x3), some (.ref (P (P a0 0) 0)), some (.int r14)]) C dX9_tell_38 (by decide) rfl ?_
      refine q_aload C dX9_tell_40 rfl ?_
      refine q_iload_n C dX9_tell_42 rfl ?_
      refine q_iload_n C dX9_tell_43 rfl ?_
      refine q_iload_n C dX9_tell_44 rfl ?_
      refine q_cVv (as := [.int x1, .int x2, .int x3]) (st := []) (r := P (P a0 0) 0) C mv_X2_put ml_RX9_93 dX9_tell_45 rfl s3 rfl (Nat.le_of_ble_eq_true rfl) ⟨Nat.le_refl _, Nat.le_refl _⟩ h (fun I18 L19 P20 h => ?_)
      refine q_iload_n C dX9_tell_48 rfl ?_
      refine q_iconst (v := 3) C dX9_tell_49 (by decide) ?_
      refine q_icmp_eq (tgt := 63) C dX9_tell_50 (by decide) (fun c21 => ?_) (fun c21 => ?_)
      · replace h := h.1 c21
        refine q_aload_n C dX9_tell_63 rfl ?_
        refine q_getP C fl_RX9_22 rfl s1 dX9_tell_64 ?_
        refine q_aload_n C dX9_tell_67 rfl ?_
        refine q_getP C fl_RX9_10 rfl s1 dX9_tell_68 ?_
        have s22 := h.1
        replace h := h.2
        refine q_cVv (as := [.ref (P20 a0 0)]) (st := []) (r := P20 a0 2) C mv_X3_remember ml_RX9_103 dX9_tell_71 rfl s22 rfl (Nat.le_of_ble_eq_true rfl) ⟨Nat.le_refl _, Nat.le_refl _⟩ h (fun I23 L24 P25 h => ?_)
        refine q_iload C dX9_tell_74 rfl ?_
        exact q_iret C hk dX9_tell_76 ⟨rfl, h⟩
      · replace h := h.2 c21
        refine q_aload_n C dX9_tell_53 rfl ?_
        refine q_getP C fl_RX9_10 rfl s1 dX9_tell_54 ?_
        have s26 := h.1
        replace h := h.2
        refine q_getP C fl_RX9_97 rfl s26 dX9_tell_57 ?_
        have s27 := h.1
        replace h := h.2
        refine q_cVv (as := []) (st := []) (r := P20 (P20 a0 0) 1) C mv_X1_drop ml_RX9_100 dX9_tell_60 rfl s27 rfl (Nat.le_of_ble_eq_true rfl) ⟨Nat.le_refl _, Nat.le_refl _⟩ h (fun I28 L29 P30 h => ?_)
        refine q_aload_n C dX9_tell_63 rfl ?_
        refine q_getP C fl_RX9_22 rfl s1 dX9_tell_64 ?_
        refine q_aload_n C dX9_tell_67 rfl ?_
        refine q_getP C fl_RX9_10 rfl s1 dX9_tell_68 ?_
        have s31 := h.1
        replace h := h.2
        refine q_cVv (as := [.ref (P30 a0 0)]) (st := []) (r := P30 a0 2) C mv_X3_remember ml_RX9_103 dX9_tell_71 rfl s31 rfl (Nat.le_of_ble_eq_true rfl) ⟨Nat.le_refl _, Nat.le_refl _⟩ h (fun I32 L33 P34 h => ?_)
        refine q_iload C dX9_tell_74 rfl ?_
        exact q_iret C hk dX9_tell_76 ⟨rfl, h⟩
    · replace h := h.2 c13
      refine q_iconst (v := (-1)) C dX9_tell_29 (by decide) ?_
      exact q_iret C hk dX9_tell_30 ⟨rfl, h⟩
theorem sp_X9_tell {d : Nat} {sh : List qSh} {K : Option Value → qMI → qML → qMP → Prop} {a0 : Nat} {x1 : Int32} {x2 : Int32} {x3 : Int32} {I : qMI} {L : qML} {P : qMP} (h0 : vc_X9_tell_0 d sh K a0 x1 x2 x3 I L P) : Sq (d + 1) mX9_tell sh [.ref a0, .int x1, .int x2, .int x3] I L P K := by
  refine Sq_of (by decide +kernel) (Nat.le_of_ble_eq_true rfl) (fun X C hk hn => ?_)
  exact rg_X9_tell_0 C hk h0
/-! BracketDraws.of(II)I -/
def vc_X9_of_0 (d : Nat) (sh : List qSh) (K : Option Value → qMI → qML → qMP → Prop) (a0 : Nat) (x1 : Int32) (x2 : Int32) (I : qMI) (L : qML) (P : qMP) : Prop :=
  ((shp sh a0).1 = 9) ∧ (((shp sh (P a0 0)).1 = 6) ∧ (((shp sh (P (P a0 0) 0)).1 = 2) ∧ (Sq d mX2_has sh [.ref (P (P a0 0) 0), .int x1] I L P (KI fun r4 I5 L6 P7 => ((r4 = 0) → (K (some (.int ((-1)))) I5 L6 P7)) ∧ ((¬ r4 = 0) → (((x2 < 0) → (K (some (.int ((-1)))) I5 L6 P7)) ∧ ((¬ x2 < 0) → (((x2 ≤ 4) → (((4 ≤ x2) → (Sq d mX2_seedSlot sh [.ref (P (P a0 0) 0), .int x1] I5 L6 P7 (KI fun r12 I13 L14 P15 => ((¬ r12 = ((-1))) → (K (some (.int r12)) I13 L14 P15)) ∧ ((r12 = ((-1))) → (K (some (.int ((-2)))) I13 L14 P15))))) ∧ ((¬ 4 ≤ x2) → (Sq d mX2_told sh [.ref (P (P a0 0) 0), .int x1, .int x2] I5 L6 P7 (KI fun r17 I18 L19 P20 => K (some (.int r17)) I18 L19 P20))))) ∧ ((¬ x2 ≤ 4) → (K (some (.int ((-1)))) I5 L6 P7))))))))))
set_option maxRecDepth 100000 in
set_option maxHeartbeats 4000000 in
theorem rg_X9_of_0 {X : qCT} {d : Nat} {sh : List qSh} {K : Option Value → qMI → qML → qMP → Prop} {a0 : Nat} {x1 : Int32} {x2 : Int32} {I : qMI} {L : qML} {P : qMP} (C : qCB X RX9 cX9_of 5 (d + 1) 0 0) (hk : qCK X (some .int) 0 0 (fun v sh' I' L' P' => sh' = sh ∧ K v I' L' P')) (h : vc_X9_of_0 d sh K a0 x1 x2 I L P) : qG X 0 [some (.ref a0), some (.int x1), some (.int x2), none, none] [] sh I L P 0 0 := by
  unfold vc_X9_of_0 at h
  refine q_aload_n C dX9_of_0 rfl ?_
  have s1 := h.1
  replace h := h.2
  refine q_getP C fl_RX9_10 rfl s1 dX9_of_1 ?_
  have s2 := h.1
  replace h := h.2
  refine q_getP C fl_RX9_68 rfl s2 dX9_of_4 ?_
  refine q_astore_n (lo1 := [some (.ref a0), some (.int x1), some (.int x2), some (.ref (P (P a0 0) 0)), none]) C dX9_of_7 (by decide) rfl ?_
  refine q_aload_n C dX9_of_8 rfl ?_
  refine q_iload_n C dX9_of_9 rfl ?_
  have s3 := h.1
  replace h := h.2
  refine q_cVi (as := [.int x1]) (st := []) (r := P (P a0 0) 0) C mv_X2_has ml_RX9_85 dX9_of_10 rfl s3 rfl (Nat.le_of_ble_eq_true rfl) ⟨Nat.le_refl _, Nat.le_refl _⟩ h (fun r4 I5 L6 P7 h => ?_)
  refine q_if_eq (tgt := 25) C dX9_of_13 (by decide) (fun c8 => ?_) (fun c8 => ?_)
  · replace h := h.1 c8
    refine q_iconst (v := (-1)) C dX9_of_25 (by decide) ?_
    exact q_iret C hk dX9_of_26 ⟨rfl, h⟩
  · replace h := h.2 c8
    refine q_iload_n C dX9_of_16 rfl ?_
    refine q_if_lt (tgt := 25) C dX9_of_17 (by decide) (fun c9 => ?_) (fun c9 => ?_)
    · replace h := h.1 c9
      refine q_iconst (v := (-1)) C dX9_of_25 (by decide) ?_
      exact q_iret C hk dX9_of_26 ⟨rfl, h⟩
    · replace h := h.2 c9
      refine q_iload_n C dX9_of_20 rfl ?_
      refine q_iconst (v := 4) C dX9_of_21 (by decide) ?_
      refine q_icmp_le (tgt := 27) C dX9_of_22 (by decide) (fun c10 => ?_) (fun c10 => ?_)
      · replace h := h.1 c10
        refine q_iload_n C dX9_of_27 rfl ?_
        refine q_iconst (v := 4) C dX9_of_28 (by decide) ?_
        refine q_icmp_ge (tgt := 39) C dX9_of_29 (by decide) (fun c11 => ?_) (fun c11 => ?_)
        · replace h := h.1 c11
          refine q_aload_n C dX9_of_39 rfl ?_
          refine q_iload_n C dX9_of_40 rfl ?_
          refine q_cVi (as := [.int x1]) (st := []) (r := P (P a0 0) 0) C mv_X2_seedSlot ml_RX9_107 dX9_of_41 rfl s3 rfl (Nat.le_of_ble_eq_true rfl) ⟨Nat.le_refl _, Nat.le_refl _⟩ h (fun r12 I13 L14 P15 h => ?_)
          refine q_istore (lo1 := [some (.ref a0), some (.int x1), some (.int x2), some (.ref (P (P a0 0) 0)), some (.int r12)]) C dX9_of_44 (by decide) rfl ?_
          refine q_iload C dX9_of_46 rfl ?_
          refine q_iconst (v := (-1)) C dX9_of_48 (by decide) ?_
          refine q_icmp_ne (tgt := 57) C dX9_of_49 (by decide) (fun c16 => ?_) (fun c16 => ?_)
          · replace h := h.1 c16
            refine q_iload C dX9_of_57 rfl ?_
            exact q_iret C hk dX9_of_59 ⟨rfl, h⟩
          · replace h := h.2 c16
            refine q_bipush (v := (-2)) C dX9_of_52 (by decide) ?_
            refine q_goto (tgt := 59) C dX9_of_54 (by decide) ?_
            exact q_iret C hk dX9_of_59 ⟨rfl, h⟩
        · replace h := h.2 c11
          refine q_aload_n C dX9_of_32 rfl ?_
          refine q_iload_n C dX9_of_33 rfl ?_
          refine q_iload_n C dX9_of_34 rfl ?_
          refine q_cVi (as := [.int x1, .int x2]) (st := []) (r := P (P a0 0) 0) C mv_X2_told ml_RX9_89 dX9_of_35 rfl s3 rfl (Nat.le_of_ble_eq_true rfl) ⟨Nat.le_refl _, Nat.le_refl _⟩ h (fun r17 I18 L19 P20 h => ?_)
          exact q_iret C hk dX9_of_38 ⟨rfl, h⟩
      · replace h := h.2 c10
        refine q_iconst (v := (-1)) C dX9_of_25 (by decide) ?_
        exact q_iret C hk dX9_of_26 ⟨rfl, h⟩
theorem sp_X9_of {d : Nat} {sh : List qSh} {K : Option Value → qMI → qML → qMP → Prop} {a0 : Nat} {x1 : Int32} {x2 : Int32} {I : qMI} {L : qML} {P : qMP} (h0 : vc_X9_of_0 d sh K a0 x1 x2 I L P) : Sq (d + 1) mX9_of sh [.ref a0, .int x1, .int x2] I L P K := by
  refine Sq_of (by decide +kernel) (Nat.le_of_ble_eq_true rfl) (fun X C hk hn => ?_)
  exact rg_X9_of_0 C hk h0
/-! BracketDraws.level(II)I -/
def vc_X9_level_0 (d : Nat) (sh : List qSh) (K : Option Value → qMI → qML → qMP → Prop) (a0 : Nat) (x1 : Int32) (x2 : Int32) (I : qMI) (L : qML) (P : qMP) : Prop :=
  ((x1 < 0) → (K (some (.int ((-1)))) I L P)) ∧ ((¬ x1 < 0) → (((1 < x1) → (K (some (.int ((-1)))) I L P)) ∧ ((¬ 1 < x1) → (((x2 < 0) → (K (some (.int ((-1)))) I L P)) ∧ ((¬ x2 < 0) → (((x2 ≤ 4) → (((shp sh a0).1 = 9) ∧ (((shp sh (P a0 0)).1 = 6) ∧ (((¬ x1 = 0) → (((shp sh (P (P a0 0) 0)).1 = 2) ∧ (((¬ x1 = 0) → (∀ I10 : qMI, I10 = uI I (P (P a0 0) 0) 2 x2 → (((shp sh (P (P a0 0) 1)).1 = 1) ∧ (Sq d mX1_drop sh [.ref (P (P a0 0) 1)] I10 L P (KV fun I12 L13 P14 => ((shp sh (P14 a0 2)).1 = 3) ∧ (Sq d mX3_remember sh [.ref (P14 a0 2), .ref (P14 a0 0)] I12 L13 P14 (KV fun I16 L17 P18 => K (some (.int (I (P (P a0 0) 0) 2))) I16 L17 P18))))))) ∧ ((x1 = 0) → (∀ I19 : qMI, I19 = uI I (P (P a0 0) 0) 1 x2 → (((shp sh (P (P a0 0) 1)).1 = 1) ∧ (Sq d mX1_drop sh [.ref (P (P a0 0) 1)] I19 L P (KV fun I21 L22 P23 => ((shp sh (P23 a0 2)).1 = 3) ∧ (Sq d mX3_remember sh [.ref (P23 a0 2), .ref (P23 a0 0)] I21 L22 P23 (KV fun I25 L26 P27 => K (some (.int (I (P (P a0 0) 0) 2))) I25 L26 P27)))))))))) ∧ ((x1 = 0) → (((shp sh (P (P a0 0) 0)).1 = 2) ∧ (((¬ x1 = 0) → (∀ I30 : qMI, I30 = uI I (P (P a0 0) 0) 2 x2 → (((shp sh (P (P a0 0) 1)).1 = 1) ∧ (Sq d mX1_drop sh [.ref (P (P a0 0) 1)] I30 L P (KV fun I32 L33 P34 => ((shp sh (P34 a0 2)).1 = 3) ∧ (Sq d mX3_remember sh [.ref (P34 a0 2), .ref (P34 a0 0)] I32 L33 P34 (KV fun I36 L37 P38 => K (some (.int (I (P (P a0 0) 0) 1))) I36 L37 P38))))))) ∧ ((x1 = 0) → (∀ I39 : qMI, I39 = uI I (P (P a0 0) 0) 1 x2 → (((shp sh (P (P a0 0) 1)).1 = 1) ∧ (Sq d mX1_drop sh [.ref (P (P a0 0) 1)] I39 L P (KV fun I41 L42 P43 => ((shp sh (P43 a0 2)).1 = 3) ∧ (Sq d mX3_remember sh [.ref (P43 a0 2), .ref (P43 a0 0)] I41 L42 P43 (KV fun I45 L46 P47 => K (some (.int (I (P (P a0 0) 0) 1))) I45 L46 P47)))))))))))))) ∧ ((¬ x2 ≤ 4) → (K (some (.int ((-1)))) I L P))))))))
set_option maxRecDepth 100000 in
set_option maxHeartbeats 4000000 in
theorem rg_X9_level_0 {X : qCT} {d : Nat} {sh : List qSh} {K : Option Value → qMI → qML → qMP → Prop} {a0 : Nat} {x1 : Int32} {x2 : Int32} {I : qMI} {L : qML} {P : qMP} (C : qCB X RX9 cX9_level 5 (d + 1) 0 0) (hk : qCK X (some .int) 0 0 (fun v sh' I' L' P' => sh' = sh ∧ K v I' L' P')) (h : vc_X9_level_0 d sh K a0 x1 x2 I L P) : qG X 0 [some (.ref a0), some (.int x1), some (.int x2), none, none] [] sh I L P 0 0 := by
  unfold vc_X9_level_0 at h
  refine q_iload_n C dX9_level_0 rfl ?_
  refine q_if_lt (tgt := 18) C dX9_level_1 (by decide) (fun c1 => ?_) (fun c1 => ?_)
  · replace h := h.1 c1
    refine q_iconst (v := (-1)) C dX9_level_18 (by decide) ?_
    exact q_iret C hk dX9_level_19 ⟨rfl, h⟩
  · replace h := h.2 c1
    refine q_iload_n C dX9_level_4 rfl ?_
    refine q_iconst (v := 1) C dX9_level_5 (by decide) ?_
    refine q_icmp_gt (tgt := 18) C dX9_level_6 (by decide) (fun c2 => ?_) (fun c2 => ?_)
    · replace h := h.1 c2
      refine q_iconst (v := (-1)) C dX9_level_18 (by decide) ?_
      exact q_iret C hk dX9_level_19 ⟨rfl, h⟩
    · replace h := h.2 c2
      refine q_iload_n C dX9_level_9 rfl ?_
      refine q_if_lt (tgt := 18) C dX9_level_10 (by decide) (fun c3 => ?_) (fun c3 => ?_)
      · replace h := h.1 c3
        refine q_iconst (v := (-1)) C dX9_level_18 (by decide) ?_
        exact q_iret C hk dX9_level_19 ⟨rfl, h⟩
      · replace h := h.2 c3
        refine q_iload_n C dX9_level_13 rfl ?_
        refine q_iconst (v := 4) C dX9_level_14 (by decide) ?_
        refine q_icmp_le (tgt := 20) C dX9_level_15 (by decide) (fun c4 => ?_) (fun c4 => ?_)
        · replace h := h.1 c4
          refine q_aload_n C dX9_level_20 rfl ?_
          have s5 := h.1
          replace h := h.2
          refine q_getP C fl_RX9_10 rfl s5 dX9_level_21 ?_
          have s6 := h.1
          replace h := h.2
          refine q_getP C fl_RX9_68 rfl s6 dX9_level_24 ?_
          refine q_astore_n (lo1 := [some (.ref a0), some (.int x1), some (.int x2), some (.ref (P (P a0 0) 0)), none]) C dX9_level_27 (by decide) rfl ?_
          refine q_iload_n C dX9_level_28 rfl ?_
          refine q_if_ne (tgt := 39) C dX9_level_29 (by decide) (fun c7 => ?_) (fun c7 => ?_)
          · replace h := h.1 c7
            refine q_aload_n C dX9_level_39 rfl ?_
            have s8 := h.1
            replace h := h.2
            refine q_getI C fl_RX9_114 rfl s8 dX9_level_40 ?_
            refine q_istore (lo1 := [some (.ref a0), some (.int x1), some (.int x2), some (.ref (P (P a0 0) 0)), some (.int (I (P (P a0 0) 0) 2))]) C dX9_level_43 (by decide) rfl ?_
            refine q_iload_n C dX9_level_45 rfl ?_
            refine q_if_ne (tgt := 57) C dX9_level_46 (by decide) (fun c9 => ?_) (fun c9 => ?_)
            · replace h := h.1 c9
              refine q_aload_n C dX9_level_57 rfl ?_
              refine q_iload_n C dX9_level_58 rfl ?_
              refine q_putI C fl_RX9_114 (fun T hT => by cases hT; rfl) rfl s8 dX9_level_59 (fun I10 eI10 => ?_)
              replace h := h I10 eI10
              refine q_aload_n C dX9_level_62 rfl ?_
              refine q_getP C fl_RX9_10 rfl s5 dX9_level_63 ?_
              refine q_getP C fl_RX9_97 rfl s6 dX9_level_66 ?_
              have s11 := h.1
              replace h := h.2
              refine q_cVv (as := []) (st := []) (r := P (P a0 0) 1) C mv_X1_drop ml_RX9_100 dX9_level_69 rfl s11 rfl (Nat.le_of_ble_eq_true rfl) ⟨Nat.le_refl _, Nat.le_refl _⟩ h (fun I12 L13 P14 h => ?_)
              refine q_aload_n C dX9_level_72 rfl ?_
              refine q_getP C fl_RX9_22 rfl s5 dX9_level_73 ?_
              refine q_aload_n C dX9_level_76 rfl ?_
              refine q_getP C fl_RX9_10 rfl s5 dX9_level_77 ?_
              have s15 := h.1
              replace h := h.2
              refine q_cVv (as := [.ref (P14 a0 0)]) (st := []) (r := P14 a0 2) C mv_X3_remember ml_RX9_103 dX9_level_80 rfl s15 rfl (Nat.le_of_ble_eq_true rfl) ⟨Nat.le_refl _, Nat.le_refl _⟩ h (fun I16 L17 P18 h => ?_)
              refine q_iload C dX9_level_83 rfl ?_
              exact q_iret C hk dX9_level_85 ⟨rfl, h⟩
            · replace h := h.2 c9
              refine q_aload_n C dX9_level_49 rfl ?_
              refine q_iload_n C dX9_level_50 rfl ?_
              refine q_putI C fl_RX9_111 (fun T hT => by cases hT; rfl) rfl s8 dX9_level_51 (fun I19 eI19 => ?_)
              replace h := h I19 eI19
              refine q_goto (tgt := 62) C dX9_level_54 (by decide) ?_
              refine q_aload_n C dX9_level_62 rfl ?_
              refine q_getP C fl_RX9_10 rfl s5 dX9_level_63 ?_
              refine q_getP C fl_RX9_97 rfl s6 dX9_level_66 ?_
              have s20 := h.1
              replace h := h.2
              refine q_cVv (as := []) (st := []) (r := P (P a0 0) 1) C mv_X1_drop ml_RX9_100 dX9_level_69 rfl s20 rfl (Nat.le_of_ble_eq_true rfl) ⟨Nat.le_refl _, Nat.le_refl _⟩ h (fun I21 L22 P23 h => ?_)
              refine q_aload_n C dX9_level_72 rfl ?_
              refine q_getP C fl_RX9_22 rfl s5 dX9_level_73 ?_
              refine q_aload_n C dX9_level_76 rfl ?_
              refine q_getP C fl_RX9_10 rfl s5 dX9_level_77 ?_
              have s24 := h.1
              replace h := h.2
              refine q_cVv (as := [.ref (P23 a0 0)]) (st := []) (r := P23 a0 2) C mv_X3_remember ml_RX9_103 dX9_level_80 rfl s24 rfl (Nat.le_of_ble_eq_true rfl) ⟨Nat.le_refl _, Nat.le_refl _⟩ h (fun I25 L26 P27 h => ?_)
              refine q_iload C dX9_level_83 rfl ?_
              exact q_iret C hk dX9_level_85 ⟨rfl, h⟩
          · replace h := h.2 c7
            refine q_aload_n C dX9_level_32 rfl ?_
            have s28 := h.1
            replace h := h.2
            refine q_getI C fl_RX9_111 rfl s28 dX9_level_33 ?_
            refine q_goto (tgt := 43) C dX9_level_36 (by decide) ?_
            refine q_istore (lo1 := [some (.ref a0), some (.int x1), some (.int x2), some (.ref (P (P a0 0) 0)), some (.int (I (P (P a0 0) 0) 1))]) C dX9_level_43 (by decide) rfl ?_
            refine q_iload_n C dX9_level_45 rfl ?_
            refine q_if_ne (tgt := 57) C dX9_level_46 (by decide) (fun c29 => ?_) (fun c29 => ?_)
            · replace h := h.1 c29
              refine q_aload_n C dX9_level_57 rfl ?_
              refine q_iload_n C dX9_level_58 rfl ?_
              refine q_putI C fl_RX9_114 (fun T hT => by cases hT; rfl) rfl s28 dX9_level_59 (fun I30 eI30 => ?_)
              replace h := h I30 eI30
              refine q_aload_n C dX9_level_62 rfl ?_
              refine q_getP C fl_RX9_10 rfl s5 dX9_level_63 ?_
              refine q_getP C fl_RX9_97 rfl s6 dX9_level_66 ?_
              have s31 := h.1
              replace h := h.2
              refine q_cVv (as := []) (st := []) (r := P (P a0 0) 1) C mv_X1_drop ml_RX9_100 dX9_level_69 rfl s31 rfl (Nat.le_of_ble_eq_true rfl) ⟨Nat.le_refl _, Nat.le_refl _⟩ h (fun I32 L33 P34 h => ?_)
              refine q_aload_n C dX9_level_72 rfl ?_
              refine q_getP C fl_RX9_22 rfl s5 dX9_level_73 ?_
              refine q_aload_n C dX9_level_76 rfl ?_
              refine q_getP C fl_RX9_10 rfl s5 dX9_level_77 ?_
              have s35 := h.1
              replace h := h.2
              refine q_cVv (as := [.ref (P34 a0 0)]) (st := []) (r := P34 a0 2) C mv_X3_remember ml_RX9_103 dX9_level_80 rfl s35 rfl (Nat.le_of_ble_eq_true rfl) ⟨Nat.le_refl _, Nat.le_refl _⟩ h (fun I36 L37 P38 h => ?_)
              refine q_iload C dX9_level_83 rfl ?_
              exact q_iret C hk dX9_level_85 ⟨rfl, h⟩
            · replace h := h.2 c29
              refine q_aload_n C dX9_level_49 rfl ?_
              refine q_iload_n C dX9_level_50 rfl ?_
              refine q_putI C fl_RX9_111 (fun T hT => by cases hT; rfl) rfl s28 dX9_level_51 (fun I39 eI39 => ?_)
              replace h := h I39 eI39
              refine q_goto (tgt := 62) C dX9_level_54 (by decide) ?_
              refine q_aload_n C dX9_level_62 rfl ?_
              refine q_getP C fl_RX9_10 rfl s5 dX9_level_63 ?_
              refine q_getP C fl_RX9_97 rfl s6 dX9_level_66 ?_
              have s40 := h.1
              replace h := h.2
              refine q_cVv (as := []) (st := []) (r := P (P a0 0) 1) C mv_X1_drop ml_RX9_100 dX9_level_69 rfl s40 rfl (Nat.le_of_ble_eq_true rfl) ⟨Nat.le_refl _, Nat.le_refl _⟩ h (fun I41 L42 P43 h => ?_)
              refine q_aload_n C dX9_level_72 rfl ?_
              refine q_getP C fl_RX9_22 rfl s5 dX9_level_73 ?_
              refine q_aload_n C dX9_level_76 rfl ?_
              refine q_getP C fl_RX9_10 rfl s5 dX9_level_77 ?_
              have s44 := h.1
              replace h := h.2
              refine q_cVv (as := [.ref (P43 a0 0)]) (st := []) (r := P43 a0 2) C mv_X3_remember ml_RX9_103 dX9_level_80 rfl s44 rfl (Nat.le_of_ble_eq_true rfl) ⟨Nat.le_refl _, Nat.le_refl _⟩ h (fun I45 L46 P47 h => ?_)
              refine q_iload C dX9_level_83 rfl ?_
              exact q_iret C hk dX9_level_85 ⟨rfl, h⟩
        · replace h := h.2 c4
          refine q_iconst (v := (-1)) C dX9_level_18 (by decide) ?_
          exact q_iret C hk dX9_level_19 ⟨rfl, h⟩
theorem sp_X9_level {d : Nat} {sh : List qSh} {K : Option Value → qMI → qML → qMP → Prop} {a0 : Nat} {x1 : Int32} {x2 : Int32} {I : qMI} {L : qML} {P : qMP} (h0 : vc_X9_level_0 d sh K a0 x1 x2 I L P) : Sq (d + 1) mX9_level sh [.ref a0, .int x1, .int x2] I L P K := by
  refine Sq_of (by decide +kernel) (Nat.le_of_ble_eq_true rfl) (fun X C hk hn => ?_)
  exact rg_X9_level_0 C hk h0
/-! BracketDraws.feed(I)I -/
def vc_X9_feed_0 (d : Nat) (sh : List qSh) (K : Option Value → qMI → qML → qMP → Prop) (a0 : Nat) (x1 : Int32) (I : qMI) (L : qML) (P : qMP) : Prop :=
  ((x1 < 32) → (K (some (.int ((-1)))) I L P)) ∧ ((¬ x1 < 32) → (((x1 ≤ 126) → (((shp sh a0).1 = 9) ∧ (((shp sh (P a0 3)).1 = 8) ∧ (((shp sh (P (P a0 3) 2)).1 = 7) ∧ (Sq d mX7_add sh [.ref (P (P a0 3) 2), .int x1] I L P (KI fun r6 I7 L8 P9 => ((r6 = 0) → (K (some (.int ((-3)))) I7 L8 P9)) ∧ ((¬ r6 = 0) → (((shp sh (P9 a0 3)).1 = 8) ∧ (((shp sh (P9 (P9 a0 3) 2)).1 = 7) ∧ (K (some (.int (I7 (P9 (P9 a0 3) 2) 1))) I7 L8 P9)))))))))) ∧ ((¬ x1 ≤ 126) → (K (some (.int ((-1)))) I L P))))
set_option maxRecDepth 100000 in
set_option maxHeartbeats 4000000 in
theorem rg_X9_feed_0 {X : qCT} {d : Nat} {sh : List qSh} {K : Option Value → qMI → qML → qMP → Prop} {a0 : Nat} {x1 : Int32} {I : qMI} {L : qML} {P : qMP} (C : qCB X RX9 cX9_feed 2 (d + 1) 0 0) (hk : qCK X (some .int) 0 0 (fun v sh' I' L' P' => sh' = sh ∧ K v I' L' P')) (h : vc_X9_feed_0 d sh K a0 x1 I L P) : qG X 0 [some (.ref a0), some (.int x1)] [] sh I L P 0 0 := by
  unfold vc_X9_feed_0 at h
  refine q_iload_n C dX9_feed_0 rfl ?_
  refine q_bipush (v := 32) C dX9_feed_1 (by decide) ?_
  refine q_icmp_lt (tgt := 12) C dX9_feed_3 (by decide) (fun c1 => ?_) (fun c1 => ?_)
  · replace h := h.1 c1
    refine q_iconst (v := (-1)) C dX9_feed_12 (by decide) ?_
    exact q_iret C hk dX9_feed_13 ⟨rfl, h⟩
  · replace h := h.2 c1
    refine q_iload_n C dX9_feed_6 rfl ?_
    refine q_bipush (v := 126) C dX9_feed_7 (by decide) ?_
    refine q_icmp_le (tgt := 14) C dX9_feed_9 (by decide) (fun c2 => ?_) (fun c2 => ?_)
    · replace h := h.1 c2
      refine q_aload_n C dX9_feed_14 rfl ?_
      have s3 := h.1
      replace h := h.2
      refine q_getP C fl_RX9_29 rfl s3 dX9_feed_15 ?_
      have s4 := h.1
      replace h := h.2
      refine q_getP C fl_RX9_117 rfl s4 dX9_feed_18 ?_
      refine q_iload_n C dX9_feed_21 rfl ?_
      have s5 := h.1
      replace h := h.2
      refine q_cVi (as := [.int x1]) (st := []) (r := P (P a0 3) 2) C mv_X7_add ml_RX9_121 dX9_feed_22 rfl s5 rfl (Nat.le_of_ble_eq_true rfl) ⟨Nat.le_refl _, Nat.le_refl _⟩ h (fun r6 I7 L8 P9 h => ?_)
      refine q_if_eq (tgt := 41) C dX9_feed_25 (by decide) (fun c10 => ?_) (fun c10 => ?_)
      · replace h := h.1 c10
        refine q_bipush (v := (-3)) C dX9_feed_41 (by decide) ?_
        exact q_iret C hk dX9_feed_43 ⟨rfl, h⟩
      · replace h := h.2 c10
        refine q_aload_n C dX9_feed_28 rfl ?_
        refine q_getP C fl_RX9_29 rfl s3 dX9_feed_29 ?_
        have s11 := h.1
        replace h := h.2
        refine q_getP C fl_RX9_117 rfl s11 dX9_feed_32 ?_
        have s12 := h.1
        replace h := h.2
        refine q_getI C fl_RX9_125 rfl s12 dX9_feed_35 ?_
        refine q_goto (tgt := 43) C dX9_feed_38 (by decide) ?_
        exact q_iret C hk dX9_feed_43 ⟨rfl, h⟩
    · replace h := h.2 c2
      refine q_iconst (v := (-1)) C dX9_feed_12 (by decide) ?_
      exact q_iret C hk dX9_feed_13 ⟨rfl, h⟩
theorem sp_X9_feed {d : Nat} {sh : List qSh} {K : Option Value → qMI → qML → qMP → Prop} {a0 : Nat} {x1 : Int32} {I : qMI} {L : qML} {P : qMP} (h0 : vc_X9_feed_0 d sh K a0 x1 I L P) : Sq (d + 1) mX9_feed sh [.ref a0, .int x1] I L P K := by
  refine Sq_of (by decide +kernel) (Nat.le_of_ble_eq_true rfl) (fun X C hk hn => ?_)
  exact rg_X9_feed_0 C hk h0
/-! BracketDraws.players()I -/
def vc_X9_players_0 (d : Nat) (sh : List qSh) (K : Option Value → qMI → qML → qMP → Prop) (a0 : Nat) (I : qMI) (L : qML) (P : qMP) : Prop :=
  ((shp sh a0).1 = 9) ∧ (((shp sh (P a0 0)).1 = 6) ∧ (((shp sh (P a0 3)).1 = 8) ∧ (Sq d mX8_read sh [.ref (P a0 3), .ref (P (P a0 0) 0)] I L P (KI fun r4 I5 L6 P7 => ((shp sh (P7 a0 3)).1 = 8) ∧ (((shp sh (P7 (P7 a0 3) 2)).1 = 7) ∧ (∀ I10 : qMI, I10 = uI I5 (P7 (P7 a0 3) 2) 1 0 → (((r4 = ((-1))) → (((shp sh (P7 a0 0)).1 = 6) ∧ (((shp sh (P7 (P7 a0 0) 0)).1 = 2) ∧ (Sq d mX2_copyFrom sh [.ref (P7 (P7 a0 0) 0), .ref (P7 (P7 a0 3) 0)] I10 L6 P7 (KV fun I14 L15 P16 => Sq d mX9_startAnew sh [.ref a0] I14 L15 P16 (KV fun I17 L18 P19 => ((shp sh (P19 a0 0)).1 = 6) ∧ (((shp sh (P19 (P19 a0 0) 0)).1 = 2) ∧ (K (some (.int (I17 (P19 (P19 a0 0) 0) 0))) I17 L18 P19)))))))) ∧ ((¬ r4 = ((-1))) → (K (some (.int (((-100)) - r4))) I10 L6 P7)))))))))
set_option maxRecDepth 100000 in
set_option maxHeartbeats 4000000 in
theorem rg_X9_players_0 {X : qCT} {d : Nat} {sh : List qSh} {K : Option Value → qMI → qML → qMP → Prop} {a0 : Nat} {I : qMI} {L : qML} {P : qMP} (C : qCB X RX9 cX9_players 2 (d + 1) 0 0) (hk : qCK X (some .int) 0 0 (fun v sh' I' L' P' => sh' = sh ∧ K v I' L' P')) (h : vc_X9_players_0 d sh K a0 I L P) : qG X 0 [some (.ref a0), none] [] sh I L P 0 0 := by
  unfold vc_X9_players_0 at h
  refine q_aload_n C dX9_players_0 rfl ?_
  have s1 := h.1
  replace h := h.2
  refine q_getP C fl_RX9_29 rfl s1 dX9_players_1 ?_
  refine q_aload_n C dX9_players_4 rfl ?_
  refine q_getP C fl_RX9_10 rfl s1 dX9_players_5 ?_
  have s2 := h.1
  replace h := h.2
  refine q_getP C fl_RX9_68 rfl s2 dX9_players_8 ?_
  have s3 := h.1
  replace h := h.2
  refine q_cVi (as := [.ref (P (P a0 0) 0)]) (st := []) (r := P a0 3) C mv_X8_read ml_RX9_128 dX9_players_11 rfl s3 rfl (Nat.le_of_ble_eq_true rfl) ⟨Nat.le_refl _, Nat.le_refl _⟩ h (fun r4 I5 L6 P7 h => ?_)
  refine q_istore_n (lo1 := [some (.ref a0), some (.int r4)]) C dX9_players_14 (by decide) rfl ?_
  refine q_aload_n C dX9_players_15 rfl ?_
  refine q_getP C fl_RX9_29 rfl s1 dX9_players_16 ?_
  have s8 := h.1
  replace h := h.2
  refine q_getP C fl_RX9_117 rfl s8 dX9_players_19 ?_
  refine q_iconst (v := 0) C dX9_players_22 (by decide) ?_
  have s9 := h.1
  replace h := h.2
  refine q_putI C fl_RX9_125 (fun T hT => by cases hT; rfl) rfl s9 dX9_players_23 (fun I10 eI10 => ?_)
  replace h := h I10 eI10
  refine q_iload_n C dX9_players_26 rfl ?_
  refine q_iconst (v := (-1)) C dX9_players_27 (by decide) ?_
  refine q_icmp_eq (tgt := 36) C dX9_players_28 (by decide) (fun c11 => ?_) (fun c11 => ?_)
  · replace h := h.1 c11
    refine q_aload_n C dX9_players_36 rfl ?_
    refine q_getP C fl_RX9_10 rfl s1 dX9_players_37 ?_
    have s12 := h.1
    replace h := h.2
    refine q_getP C fl_RX9_68 rfl s12 dX9_players_40 ?_
    refine q_aload_n C dX9_players_43 rfl ?_
    refine q_getP C fl_RX9_29 rfl s1 dX9_players_44 ?_
    refine q_getP C fl_RX9_132 rfl s8 dX9_players_47 ?_
    have s13 := h.1
    replace h := h.2
    refine q_cVv (as := [.ref (P7 (P7 a0 3) 0)]) (st := []) (r := P7 (P7 a0 0) 0) C mv_X2_copyFrom ml_RX9_133 dX9_players_50 rfl s13 rfl (Nat.le_of_ble_eq_true rfl) ⟨Nat.le_refl _, Nat.le_refl _⟩ h (fun I14 L15 P16 h => ?_)
    refine q_aload_n C dX9_players_53 rfl ?_
    refine q_cVv (as := []) (st := []) (r := a0) C mv_X9_startAnew ml_RX9_82 dX9_players_54 rfl s1 rfl (Nat.le_of_ble_eq_true rfl) ⟨Nat.le_refl _, Nat.le_refl _⟩ h (fun I17 L18 P19 h => ?_)
    refine q_aload_n C dX9_players_57 rfl ?_
    refine q_getP C fl_RX9_10 rfl s1 dX9_players_58 ?_
    have s20 := h.1
    replace h := h.2
    refine q_getP C fl_RX9_68 rfl s20 dX9_players_61 ?_
    have s21 := h.1
    replace h := h.2
    refine q_getI C fl_RX9_75 rfl s21 dX9_players_64 ?_
    exact q_iret C hk dX9_players_67 ⟨rfl, h⟩
  · replace h := h.2 c11
    refine q_bipush (v := (-100)) C dX9_players_31 (by decide) ?_
    refine q_iload_n C dX9_players_33 rfl ?_
    refine q_isub C dX9_players_34 ?_
    exact q_iret C hk dX9_players_35 ⟨rfl, h⟩
theorem sp_X9_players {d : Nat} {sh : List qSh} {K : Option Value → qMI → qML → qMP → Prop} {a0 : Nat} {I : qMI} {L : qML} {P : qMP} (h0 : vc_X9_players_0 d sh K a0 I L P) : Sq (d + 1) mX9_players sh [.ref a0] I L P K := by
  refine Sq_of (by decide +kernel) (Nat.le_of_ble_eq_true rfl) (fun X C hk hn => ?_)
  exact rg_X9_players_0 C hk h0
/-! BracketDraws.howMany()J -/
def vc_X9_howMany_0 (d : Nat) (sh : List qSh) (K : Option Value → qMI → qML → qMP → Prop) (a0 : Nat) (I : qMI) (L : qML) (P : qMP) : Prop :=
  ((shp sh a0).1 = 9) ∧ (((shp sh (P a0 0)).1 = 6) ∧ (((shp sh (P (P a0 0) 0)).1 = 2) ∧ (((2 ≤ (I (P (P a0 0) 0) 0)) → (Sq d mX9_allDraws sh [.ref a0] I L P (KL fun r5 I6 L7 P8 => K (some (.long r5)) I6 L7 P8))) ∧ ((¬ 2 ≤ (I (P (P a0 0) 0) 0)) → (K (some (.long ((-5)))) I L P)))))
set_option maxRecDepth 100000 in
set_option maxHeartbeats 4000000 in
theorem rg_X9_howMany_0 {X : qCT} {d : Nat} {sh : List qSh} {K : Option Value → qMI → qML → qMP → Prop} {a0 : Nat} {I : qMI} {L : qML} {P : qMP} (C : qCB X RX9 cX9_howMany 1 (d + 1) 0 0) (hk : qCK X (some .long) 0 0 (fun v sh' I' L' P' => sh' = sh ∧ K v I' L' P')) (h : vc_X9_howMany_0 d sh K a0 I L P) : qG X 0 [some (.ref a0)] [] sh I L P 0 0 := by
  unfold vc_X9_howMany_0 at h
  refine q_aload_n C dX9_howMany_0 rfl ?_
  have s1 := h.1
  replace h := h.2
  refine q_getP C fl_RX9_10 rfl s1 dX9_howMany_1 ?_
  have s2 := h.1
  replace h := h.2
  refine q_getP C fl_RX9_68 rfl s2 dX9_howMany_4 ?_
  have s3 := h.1
  replace h := h.2
  refine q_getI C fl_RX9_75 rfl s3 dX9_howMany_7 ?_
  refine q_iconst (v := 2) C dX9_howMany_10 (by decide) ?_
  refine q_icmp_ge (tgt := 20) C dX9_howMany_11 (by decide) (fun c4 => ?_) (fun c4 => ?_)
  · replace h := h.1 c4
    refine q_aload_n C dX9_howMany_20 rfl ?_
    refine q_cVl (as := []) (st := []) (r := a0) C mv_X9_allDraws ml_RX9_139 dX9_howMany_21 rfl s1 rfl (Nat.le_of_ble_eq_true rfl) ⟨Nat.le_refl _, Nat.le_refl _⟩ h (fun r5 I6 L7 P8 h => ?_)
    exact q_lret C hk dX9_howMany_24 ⟨rfl, h⟩
  · replace h := h.2 c4
    refine q_ldc2 C kl_RX9_137 dX9_howMany_14 ?_
    refine q_goto (tgt := 24) C dX9_howMany_17 (by decide) ?_
    exact q_lret C hk dX9_howMany_24 ⟨rfl, h⟩
theorem sp_X9_howMany {d : Nat} {sh : List qSh} {K : Option Value → qMI → qML → qMP → Prop} {a0 : Nat} {I : qMI} {L : qML} {P : qMP} (h0 : vc_X9_howMany_0 d sh K a0 I L P) : Sq (d + 1) mX9_howMany sh [.ref a0] I L P K := by
  refine Sq_of (by decide +kernel) (Nat.le_of_ble_eq_true rfl) (fun X C hk hn => ?_)
  exact rg_X9_howMany_0 C hk h0
/-! BracketDraws.stands(II)J -/
def vc_X9_stands_0 (d : Nat) (sh : List qSh) (K : Option Value → qMI → qML → qMP → Prop) (a0 : Nat) (x1 : Int32) (x2 : Int32) (I : qMI) (L : qML) (P : qMP) : Prop :=
  ((shp sh a0).1 = 9) ∧ (((shp sh (P a0 0)).1 = 6) ∧ (((shp sh (P (P a0 0) 0)).1 = 2) ∧ (Sq d mX2_has sh [.ref (P (P a0 0) 0), .int x1] I L P (KI fun r4 I5 L6 P7 => ((r4 = 0) → (K (some (.long ((-1)))) I5 L6 P7)) ∧ ((¬ r4 = 0) → (Sq d mX2_hasSlot sh [.ref (P (P a0 0) 0), .int x2] I5 L6 P7 (KI fun r9 I10 L11 P12 => ((¬ r9 = 0) → (((2 ≤ (I10 (P (P a0 0) 0) 0)) → (Sq d mX9_allDraws sh [.ref a0] I10 L11 P12 (KL fun r15 I16 L17 P18 => Sq d mX2_seedSlot sh [.ref (P (P a0 0) 0), .int x1] I16 L17 P18 (KI fun r19 I20 L21 P22 => ((r15 = 0) → (((¬ r19 = x2) → (K (some (.long 0)) I20 L21 P22)) ∧ ((r19 = x2) → (K (some (.long r15)) I20 L21 P22)))) ∧ ((¬ r15 = 0) → (((r19 = ((-1))) → (((shp sh (P22 a0 5)).1 = 0) ∧ (Sq d mX0_begin sh [.ref (P22 a0 5), .ref (P (P a0 0) 0)] I20 L21 P22 (KV fun I27 L28 P29 => ((shp sh (P29 a0 5)).1 = 0) ∧ (Sq d mX0_pin sh [.ref (P29 a0 5), .int x1, .int x2] I27 L28 P29 (KI fun r31 I32 L33 P34 => ((r31 = 0) → (K (some (.long 0)) I32 L33 P34)) ∧ ((¬ r31 = 0) → (((shp sh (P34 a0 5)).1 = 0) ∧ (Sq d mX0_total sh [.ref (P34 a0 5)] I32 L33 P34 (KL fun r37 I38 L39 P40 => K (some (.long r37)) I38 L39 P40)))))))))) ∧ ((¬ r19 = ((-1))) → (((¬ r19 = x2) → (K (some (.long 0)) I20 L21 P22)) ∧ ((r19 = x2) → (K (some (.long r15)) I20 L21 P22)))))))))) ∧ ((¬ 2 ≤ (I10 (P (P a0 0) 0) 0)) → (K (some (.long ((-5)))) I10 L11 P12)))) ∧ ((r9 = 0) → (K (some (.long ((-1)))) I10 L11 P12)))))))))
set_option maxRecDepth 100000 in
set_option maxHeartbeats 4000000 in
theorem rg_X9_stands_0 {X : qCT} {d : Nat} {sh : List qSh} {K : Option Value → qMI → qML → qMP → Prop} {a0 : Nat} {x1 : Int32} {x2 : Int32} {I : qMI} {L : qML} {P : qMP} (C : qCB X RX9 cX9_stands 7 (d + 1) 0 0) (hk : qCK X (some .long) 0 0 (fun v sh' I' L' P' => sh' = sh ∧ K v I' L' P')) (h : vc_X9_stands_0 d sh K a0 x1 x2 I L P) : qG X 0 [some (.ref a0), some (.int x1), some (.int x2), none, none, none, none] [] sh I L P 0 0 := by
  unfold vc_X9_stands_0 at h
  refine q_aload_n C dX9_stands_0 rfl ?_
  have s1 := h.1
  replace h := h.2
  refine q_getP C fl_RX9_10 rfl s1 dX9_stands_1 ?_
  have s2 := h.1
  replace h := h.2
  refine q_getP C fl_RX9_68 rfl s2 dX9_stands_4 ?_
  refine q_astore_n (lo1 := [some (.ref a0), some (.int x1), some (.int x2), some (.ref (P (P a0 0) 0)), none, none, none]) C dX9_stands_7 (by decide) rfl ?_
  refine q_aload_n C dX9_stands_8 rfl ?_
  refine q_iload_n C dX9_stands_9 rfl ?_
  have s3 := h.1
  replace h := h.2
  refine q_cVi (as := [.int x1]) (st := []) (r := P (P a0 0) 0) C mv_X2_has ml_RX9_85 dX9_stands_10 rfl s3 rfl (Nat.le_of_ble_eq_true rfl) ⟨Nat.le_refl _, Nat.le_refl _⟩ h (fun r4 I5 L6 P7 h => ?_)
  refine q_if_eq (tgt := 24) C dX9_stands_13 (by decide) (fun c8 => ?_) (fun c8 => ?_)
  · replace h := h.1 c8
    refine q_ldc2 C kl_RX9_146 dX9_stands_24 ?_
    exact q_lret C hk dX9_stands_27 ⟨rfl, h⟩
  · replace h := h.2 c8
    refine q_aload_n C dX9_stands_16 rfl ?_
    refine q_iload_n C dX9_stands_17 rfl ?_
    refine q_cVi (as := [.int x2]) (st := []) (r := P (P a0 0) 0) C mv_X2_hasSlot ml_RX9_143 dX9_stands_18 rfl s3 rfl (Nat.le_of_ble_eq_true rfl) ⟨Nat.le_refl _, Nat.le_refl _⟩ h (fun r9 I10 L11 P12 h => ?_)
    refine q_if_ne (tgt := 28) C dX9_stands_21 (by decide) (fun c13 => ?_) (fun c13 => ?_)
    · replace h := h.1 c13
      refine q_aload_n C dX9_stands_28 rfl ?_
      refine q_getI C fl_RX9_75 rfl s3 dX9_stands_29 ?_
      refine q_iconst (v := 2) C dX9_stands_32 (by decide) ?_
      refine q_icmp_ge (tgt := 40) C dX9_stands_33 (by decide) (fun c14 => ?_) (fun c14 => ?_)
      · replace h := h.1 c14
        refine q_aload_n C dX9_stands_40 rfl ?_
        refine q_cVl (as := []) (st := []) (r := a0) C mv_X9_allDraws ml_RX9_139 dX9_stands_41 rfl s1 rfl (Nat.le_of_ble_eq_true rfl) ⟨Nat.le_refl _, Nat.le_refl _⟩ h (fun r15 I16 L17 P18 h => ?_)
        refine q_lstore (lo1 := [some (.ref a0), some (.int x1), some (.int x2), some (.ref (P (P a0 0) 0)), some (.long r15), none, none]) C dX9_stands_44 (by decide) rfl ?_
        refine q_aload_n C dX9_stands_46 rfl ?_
        refine q_iload_n C dX9_stands_47 rfl ?_
        refine q_cVi (as := [.int x1]) (st := []) (r := P (P a0 0) 0) C mv_X2_seedSlot ml_RX9_107 dX9_stands_48 rfl s3 rfl (Nat.le_of_ble_eq_true rfl) ⟨Nat.le_refl _, Nat.le_refl _⟩ h (fun r19 I20 L21 P22 h => ?_)
        refine q_istore (lo1 := [some (.ref a0), some (.int x1), some (.int x2), some (.ref (P (P a0 0) 0)), some (.long r15), none, some (.int r19)]) C dX9_stands_51 (by decide) rfl ?_
        refine q_lload C dX9_stands_53 rfl ?_
        refine q_lconst (v := 0) C dX9_stands_55 (by decide) ?_
        refine q_lcmp_eq (tgt := 66) C dX9_stands_56 dX9_stands_57 (by decide) (fun c23 => ?_) (fun c23 => ?_)
        · replace h := h.1 c23
          refine q_iload C dX9_stands_66 rfl ?_
          refine q_iload_n C dX9_stands_68 rfl ?_
          refine q_icmp_ne (tgt := 77) C dX9_stands_69 (by decide) (fun c24 => ?_) (fun c24 => ?_)
          · replace h := h.1 c24
            refine q_lconst (v := 0) C dX9_stands_77 (by decide) ?_
            exact q_lret C hk dX9_stands_78 ⟨rfl, h⟩
          · replace h := h.2 c24
            refine q_lload C dX9_stands_72 rfl ?_
            refine q_goto (tgt := 78) C dX9_stands_74 (by decide) ?_
            exact q_lret C hk dX9_stands_78 ⟨rfl, h⟩
        · replace h := h.2 c23
          refine q_iload C dX9_stands_60 rfl ?_
          refine q_iconst (v := (-1)) C dX9_stands_62 (by decide) ?_
          refine q_icmp_eq (tgt := 79) C dX9_stands_63 (by decide) (fun c25 => ?_) (fun c25 => ?_)
          · replace h := h.1 c25
            refine q_aload_n C dX9_stands_79 rfl ?_
            refine q_getP C fl_RX9_40 rfl s1 dX9_stands_80 ?_
            refine q_aload_n C dX9_stands_83 rfl ?_
            have s26 := h.1
            replace h := h.2
            refine q_cVv (as := [.ref (P (P a0 0) 0)]) (st := []) (r := P22 a0 5) C mv_X0_begin ml_RX9_148 dX9_stands_84 rfl s26 rfl (Nat.le_of_ble_eq_true rfl) ⟨Nat.le_refl _, Nat.le_refl _⟩ h (fun I27 L28 P29 h => ?_)
            refine q_aload_n C dX9_stands_87 rfl ?_
            refine q_getP C fl_RX9_40 rfl s1 dX9_stands_88 ?_
            refine q_iload_n C dX9_stands_91 rfl ?_
            refine q_iload_n C dX9_stands_92 rfl ?_
            have s30 := h.1
            replace h := h.2
            refine q_cVi (as := [.int x1, .int x2]) (st := []) (r := P29 a0 5) C mv_X0_pin ml_RX9_151 dX9_stands_93 rfl s30 rfl (Nat.le_of_ble_eq_true rfl) ⟨Nat.le_refl _, Nat.le_refl _⟩ h (fun r31 I32 L33 P34 h => ?_)
            refine q_if_eq (tgt := 109) C dX9_stands_96 (by decide) (fun c35 => ?_) (fun c35 => ?_)
            · replace h := h.1 c35
              refine q_lconst (v := 0) C dX9_stands_109 (by decide) ?_
              exact q_lret C hk dX9_stands_110 ⟨rfl, h⟩
            · replace h := h.2 c35
              refine q_aload_n C dX9_stands_99 rfl ?_
              refine q_getP C fl_RX9_40 rfl s1 dX9_stands_100 ?_
              have s36 := h.1
              replace h := h.2
              refine q_cVl (as := []) (st := []) (r := P34 a0 5) C mv_X0_total ml_RX9_155 dX9_stands_103 rfl s36 rfl (Nat.le_of_ble_eq_true rfl) ⟨Nat.le_refl _, Nat.le_refl _⟩ h (fun r37 I38 L39 P40 h => ?_)
              refine q_goto (tgt := 110) C dX9_stands_106 (by decide) ?_
              exact q_lret C hk dX9_stands_110 ⟨rfl, h⟩
          · replace h := h.2 c25
            refine q_iload C dX9_stands_66 rfl ?_
            refine q_iload_n C dX9_stands_68 rfl ?_
            refine q_icmp_ne (tgt := 77) C dX9_stands_69 (by decide) (fun c41 => ?_) (fun c41 => ?_)
            · replace h := h.1 c41
              refine q_lconst (v := 0) C dX9_stands_77 (by decide) ?_
              exact q_lret C hk dX9_stands_78 ⟨rfl, h⟩
            · replace h := h.2 c41
              refine q_lload C dX9_stands_72 rfl ?_
              refine q_goto (tgt := 78) C dX9_stands_74 (by decide) ?_
              exact q_lret C hk dX9_stands_78 ⟨rfl, h⟩
      · replace h := h.2 c14
        refine q_ldc2 C kl_RX9_137 dX9_stands_36 ?_
        exact q_lret C hk dX9_stands_39 ⟨rfl, h⟩
    · replace h := h.2 c13
      refine q_ldc2 C kl_RX9_146 dX9_stands_24 ?_
      exact q_lret C hk dX9_stands_27 ⟨rfl, h⟩
theorem sp_X9_stands {d : Nat} {sh : List qSh} {K : Option Value → qMI → qML → qMP → Prop} {a0 : Nat} {x1 : Int32} {x2 : Int32} {I : qMI} {L : qML} {P : qMP} (h0 : vc_X9_stands_0 d sh K a0 x1 x2 I L P) : Sq (d + 1) mX9_stands sh [.ref a0, .int x1, .int x2] I L P K := by
  refine Sq_of (by decide +kernel) (Nat.le_of_ble_eq_true rfl) (fun X C hk hn => ?_)
  exact rg_X9_stands_0 C hk h0
/-! BracketDraws.meets(III)J -/
def vc_X9_meets_0 (d : Nat) (sh : List qSh) (K : Option Value → qMI → qML → qMP → Prop) (a0 : Nat) (x1 : Int32) (x2 : Int32) (x3 : Int32) (I : qMI) (L : qML) (P : qMP) : Prop :=
  ((shp sh a0).1 = 9) ∧ (((shp sh (P a0 0)).1 = 6) ∧ (((shp sh (P (P a0 0) 0)).1 = 2) ∧ (Sq d mX2_hasBoth sh [.ref (P (P a0 0) 0), .int x1, .int x2] I L P (KI fun r4 I5 L6 P7 => ((r4 = 0) → (K (some (.long ((-1)))) I5 L6 P7)) ∧ ((¬ r4 = 0) → (Sq d mX2_hasRound sh [.ref (P (P a0 0) 0), .int x3] I5 L6 P7 (KI fun r9 I10 L11 P12 => ((¬ r9 = 0) → (((2 ≤ (I10 (P (P a0 0) 0) 0)) → (Sq d mX9_watched sh [.ref a0, .int (((1 : Int32) <<< (x1 &&& 31)) ||| ((1 : Int32) <<< (x2 &&& 31))), .int (x3 - 1), .int x3] I10 L11 P12 (KL fun r15 I16 L17 P18 => K (some (.long r15)) I16 L17 P18))) ∧ ((¬ 2 ≤ (I10 (P (P a0 0) 0) 0)) → (K (some (.long ((-5)))) I10 L11 P12)))) ∧ ((r9 = 0) → (K (some (.long ((-1)))) I10 L11 P12)))))))))
set_option maxRecDepth 100000 in
set_option maxHeartbeats 4000000 in
theorem rg_X9_meets_0 {X : qCT} {d : Nat} {sh : List qSh} {K : Option Value → qMI → qML → qMP → Prop} {a0 : Nat} {x1 : Int32} {x2 : Int32} {x3 : Int32} {I : qMI} {L : qML} {P : qMP} (C : qCB X RX9 cX9_meets 5 (d + 1) 0 0) (hk : qCK X (some .long) 0 0 (fun v sh' I' L' P' => sh' = sh ∧ K v I' L' P')) (h : vc_X9_meets_0 d sh K a0 x1 x2 x3 I L P) : qG X 0 [some (.ref a0), some (.int x1), some (.int x2), some (.int x3), none] [] sh I L P 0 0 := by
  unfold vc_X9_meets_0 at h
  refine q_aload_n C dX9_meets_0 rfl ?_
  have s1 := h.1
  replace h := h.2
  refine q_getP C fl_RX9_10 rfl s1 dX9_meets_1 ?_
  have s2 := h.1
  replace h := h.2
  refine q_getP C fl_RX9_68 rfl s2 dX9_meets_4 ?_
  refine q_astore (lo1 := [some (.ref a0), some (.int x1), some (.int x2), some (.int x3), some (.ref (P (P a0 0) 0))]) C dX9_meets_7 (by decide) rfl ?_
  refine q_aload C dX9_meets_9 rfl ?_
  refine q_iload_n C dX9_meets_11 rfl ?_
  refine q_iload_n C dX9_meets_12 rfl ?_
  have s3 := h.1
  replace h := h.2
  refine q_cVi (as := [.int x1, .int x2]) (st := []) (r := P (P a0 0) 0) C mv_X2_hasBoth ml_RX9_158 dX9_meets_13 rfl s3 rfl (Nat.le_of_ble_eq_true rfl) ⟨Nat.le_refl _, Nat.le_refl _⟩ h (fun r4 I5 L6 P7 h => ?_)
  refine q_if_eq (tgt := 28) C dX9_meets_16 (by decide) (fun c8 => ?_) (fun c8 => ?_)
  · replace h := h.1 c8
    refine q_ldc2 C kl_RX9_146 dX9_meets_28 ?_
    exact q_lret C hk dX9_meets_31 ⟨rfl, h⟩
  · replace h := h.2 c8
    refine q_aload C dX9_meets_19 rfl ?_
    refine q_iload_n C dX9_meets_21 rfl ?_
    refine q_cVi (as := [.int x3]) (st := []) (r := P (P a0 0) 0) C mv_X2_hasRound ml_RX9_161 dX9_meets_22 rfl s3 rfl (Nat.le_of_ble_eq_true rfl) ⟨Nat.le_refl _, Nat.le_refl _⟩ h (fun r9 I10 L11 P12 h => ?_)
    refine q_if_ne (tgt := 32) C dX9_meets_25 (by decide) (fun c13 => ?_) (fun c13 => ?_)
    · replace h := h.1 c13
      refine q_aload C dX9_meets_32 rfl ?_
      refine q_getI C fl_RX9_75 rfl s3 dX9_meets_34 ?_
      refine q_iconst (v := 2) C dX9_meets_37 (by decide) ?_
      refine q_icmp_ge (tgt := 45) C dX9_meets_38 (by decide) (fun c14 => ?_) (fun c14 => ?_)
      · replace h := h.1 c14
        refine q_aload_n C dX9_meets_45 rfl ?_
        refine q_iconst (v := 1) C dX9_meets_46 (by decide) ?_
        refine q_iload_n C dX9_meets_47 rfl ?_
        refine q_ishl C dX9_meets_48 ?_
        refine q_iconst (v := 1) C dX9_meets_49 (by decide) ?_
        refine q_iload_n C dX9_meets_50 rfl ?_
        refine q_ishl C dX9_meets_51 ?_
        refine q_ior C dX9_meets_52 ?_
        refine q_iload_n C dX9_meets_53 rfl ?_
        refine q_iconst (v := 1) C dX9_meets_54 (by decide) ?_
        refine q_isub C dX9_meets_55 ?_
        refine q_iload_n C dX9_meets_56 rfl ?_
        refine q_cVl (as := [.int (((1 : Int32) <<< (x1 &&& 31)) ||| ((1 : Int32) <<< (x2 &&& 31))), .int (x3 - 1), .int x3]) (st := []) (r := a0) C mv_X9_watched ml_RX9_164 dX9_meets_57 rfl s1 rfl (Nat.le_of_ble_eq_true rfl) ⟨Nat.le_refl _, Nat.le_refl _⟩ h (fun r15 I16 L17 P18 h => ?_)
        exact q_lret C hk dX9_meets_60 ⟨rfl, h⟩
      · replace h := h.2 c14
        refine q_ldc2 C kl_RX9_137 dX9_meets_41 ?_
        exact q_lret C hk dX9_meets_44 ⟨rfl, h⟩
    · replace h := h.2 c13
      refine q_ldc2 C kl_RX9_146 dX9_meets_28 ?_
      exact q_lret C hk dX9_meets_31 ⟨rfl, h⟩
theorem sp_X9_meets {d : Nat} {sh : List qSh} {K : Option Value → qMI → qML → qMP → Prop} {a0 : Nat} {x1 : Int32} {x2 : Int32} {x3 : Int32} {I : qMI} {L : qML} {P : qMP} (h0 : vc_X9_meets_0 d sh K a0 x1 x2 x3 I L P) : Sq (d + 1) mX9_meets sh [.ref a0, .int x1, .int x2, .int x3] I L P K := by
  refine Sq_of (by decide +kernel) (Nat.le_of_ble_eq_true rfl) (fun X C hk hn => ?_)
  exact rg_X9_meets_0 C hk h0
/-! BracketDraws.apart(II)J -/
def vc_X9_apart_0 (d : Nat) (sh : List qSh) (K : Option Value → qMI → qML → qMP → Prop) (a0 : Nat) (x1 : Int32) (x2 : Int32) (I : qMI) (L : qML) (P : qMP) : Prop :=
  ((shp sh a0).1 = 9) ∧ (((shp sh (P a0 0)).1 = 6) ∧ (((x1 < 0) → (K (some (.long ((-1)))) I L P)) ∧ ((¬ x1 < 0) → (((shp sh (P (P a0 0) 0)).1 = 2) ∧ (Sq d mX2_all sh [.ref (P (P a0 0) 0)] I L P (KI fun r5 I6 L7 P8 => ((r5 < x1) → (K (some (.long ((-1)))) I6 L7 P8)) ∧ ((¬ r5 < x1) → (Sq d mX2_hasRound sh [.ref (P (P a0 0) 0), .int x2] I6 L7 P8 (KI fun r10 I11 L12 P13 => ((¬ r10 = 0) → (((2 ≤ (I11 (P (P a0 0) 0) 0)) → (Sq d mX9_watched sh [.ref a0, .int x1, .int x2, .int ((-1))] I11 L12 P13 (KL fun r16 I17 L18 P19 => K (some (.long r16)) I17 L18 P19))) ∧ ((¬ 2 ≤ (I11 (P (P a0 0) 0) 0)) → (K (some (.long ((-5)))) I11 L12 P13)))) ∧ ((r10 = 0) → (K (some (.long ((-1)))) I11 L12 P13)))))))))))
set_option maxRecDepth 100000 in
set_option maxHeartbeats 4000000 in
theorem rg_X9_apart_0 {X : qCT} {d : Nat} {sh : List qSh} {K : Option Value → qMI → qML → qMP → Prop} {a0 : Nat} {x1 : Int32} {x2 : Int32} {I : qMI} {L : qML} {P : qMP} (C : qCB X RX9 cX9_apart 4 (d + 1) 0 0) (hk : qCK X (some .long) 0 0 (fun v sh' I' L' P' => sh' = sh ∧ K v I' L' P')) (h : vc_X9_apart_0 d sh K a0 x1 x2 I L P) : qG X 0 [some (.ref a0), some (.int x1), some (.int x2), none] [] sh I L P 0 0 := by
  unfold vc_X9_apart_0 at h
  refine q_aload_n C dX9_apart_0 rfl ?_
  have s1 := h.1
  replace h := h.2
  refine q_getP C fl_RX9_10 rfl s1 dX9_apart_1 ?_
  have s2 := h.1
  replace h := h.2
  refine q_getP C fl_RX9_68 rfl s2 dX9_apart_4 ?_
  refine q_astore_n (lo1 := [some (.ref a0), some (.int x1), some (.int x2), some (.ref (P (P a0 0) 0))]) C dX9_apart_7 (by decide) rfl ?_
  refine q_iload_n C dX9_apart_8 rfl ?_
  refine q_if_lt (tgt := 28) C dX9_apart_9 (by decide) (fun c3 => ?_) (fun c3 => ?_)
  · replace h := h.1 c3
    refine q_ldc2 C kl_RX9_146 dX9_apart_28 ?_
    exact q_lret C hk dX9_apart_31 ⟨rfl, h⟩
  · replace h := h.2 c3
    refine q_iload_n C dX9_apart_12 rfl ?_
    refine q_aload_n C dX9_apart_13 rfl ?_
    have s4 := h.1
    replace h := h.2
    refine q_cVi (as := []) (st := [.int x1]) (r := P (P a0 0) 0) C mv_X2_all ml_RX9_168 dX9_apart_14 rfl s4 rfl (Nat.le_of_ble_eq_true rfl) ⟨Nat.le_refl _, Nat.le_refl _⟩ h (fun r5 I6 L7 P8 h => ?_)
    refine q_icmp_gt (tgt := 28) C dX9_apart_17 (by decide) (fun c9 => ?_) (fun c9 => ?_)
    · replace h := h.1 c9
      refine q_ldc2 C kl_RX9_146 dX9_apart_28 ?_
      exact q_lret C hk dX9_apart_31 ⟨rfl, h⟩
    · replace h := h.2 c9
      refine q_aload_n C dX9_apart_20 rfl ?_
      refine q_iload_n C dX9_apart_21 rfl ?_
      refine q_cVi (as := [.int x2]) (st := []) (r := P (P a0 0) 0) C mv_X2_hasRound ml_RX9_161 dX9_apart_22 rfl s4 rfl (Nat.le_of_ble_eq_true rfl) ⟨Nat.le_refl _, Nat.le_refl _⟩ h (fun r10 I11 L12 P13 h => ?_)
      refine q_if_ne (tgt := 32) C dX9_apart_25 (by decide) (fun c14 => ?_) (fun c14 => ?_)
      · replace h := h.1 c14
        refine q_aload_n C dX9_apart_32 rfl ?_
        refine q_getI C fl_RX9_75 rfl s4 dX9_apart_33 ?_
        refine q_iconst (v := 2) C dX9_apart_36 (by decide) ?_
        refine q_icmp_ge (tgt := 44) C dX9_apart_37 (by decide) (fun c15 => ?_) (fun c15 => ?_)
        · replace h := h.1 c15
          refine q_aload_n C dX9_apart_44 rfl ?_
          refine q_iload_n C dX9_apart_45 rfl ?_
          refine q_iload_n C dX9_apart_46 rfl ?_
          refine q_iconst (v := (-1)) C dX9_apart_47 (by decide) ?_
          refine q_cVl (as := [.int x1, .int x2, .int ((-1))]) (st := []) (r := a0) C mv_X9_watched ml_RX9_164 dX9_apart_48 rfl s1 rfl (Nat.le_of_ble_eq_true rfl) ⟨Nat.le_refl _, Nat.le_refl _⟩ h (fun r16 I17 L18 P19 h => ?_)
          exact q_lret C hk dX9_apart_51 ⟨rfl, h⟩
        · replace h := h.2 c15
          refine q_ldc2 C kl_RX9_137 dX9_apart_40 ?_
          exact q_lret C hk dX9_apart_43 ⟨rfl, h⟩
      · replace h := h.2 c14
        refine q_ldc2 C kl_RX9_146 dX9_apart_28 ?_
        exact q_lret C hk dX9_apart_31 ⟨rfl, h⟩
theorem sp_X9_apart {d : Nat} {sh : List qSh} {K : Option Value → qMI → qML → qMP → Prop} {a0 : Nat} {x1 : Int32} {x2 : Int32} {I : qMI} {L : qML} {P : qMP} (h0 : vc_X9_apart_0 d sh K a0 x1 x2 I L P) : Sq (d + 1) mX9_apart sh [.ref a0, .int x1, .int x2] I L P K := by
  refine Sq_of (by decide +kernel) (Nat.le_of_ble_eq_true rfl) (fun X C hk hn => ?_)
  exact rg_X9_apart_0 C hk h0
/-! BracketDraws.take(J)I -/
def vc_X9_take_0 (d : Nat) (sh : List qSh) (K : Option Value → qMI → qML → qMP → Prop) (a0 : Nat) (l1 : Int64) (I : qMI) (L : qML) (P : qMP) : Prop :=
  ((shp sh a0).1 = 9) ∧ (((shp sh (P a0 0)).1 = 6) ∧ (((shp sh (P (P a0 0) 0)).1 = 2) ∧ (((2 ≤ (I (P (P a0 0) 0) 0)) → (((l1 < 0) → (K (some (.int ((-2)))) I L P)) ∧ ((¬ l1 < 0) → (Sq d mX9_allDraws sh [.ref a0] I L P (KL fun r6 I7 L8 P9 => ((l1 < r6) → (Sq d mX9_takeNumbered sh [.ref a0, .long l1] I7 L8 P9 (KV fun I11 L12 P13 => ((shp sh (P13 a0 0)).1 = 6) ∧ (((shp sh (P13 (P13 a0 0) 0)).1 = 2) ∧ (Sq d mX2_byes sh [.ref (P13 (P13 a0 0) 0)] I11 L12 P13 (KI fun r16 I17 L18 P19 => K (some (.int r16)) I17 L18 P19)))))) ∧ ((¬ l1 < r6) → (K (some (.int ((-2)))) I7 L8 P9))))))) ∧ ((¬ 2 ≤ (I (P (P a0 0) 0) 0)) → (K (some (.int ((-5)))) I L P)))))
set_option maxRecDepth 100000 in
set_option maxHeartbeats 4000000 in
theorem rg_X9_take_0 {X : qCT} {d : Nat} {sh : List qSh} {K : Option Value → qMI → qML → qMP → Prop} {a0 : Nat} {l1 : Int64} {I : qMI} {L : qML} {P : qMP} (C : qCB X RX9 cX9_take 3 (d + 1) 0 0) (hk : qCK X (some .int) 0 0 (fun v sh' I' L' P' => sh' = sh ∧ K v I' L' P')) (h : vc_X9_take_0 d sh K a0 l1 I L P) : qG X 0 [some (.ref a0), some (.long l1), none] [] sh I L P 0 0 := by
  unfold vc_X9_take_0 at h
  refine q_aload_n C dX9_take_0 rfl ?_
  have s1 := h.1
  replace h := h.2
  refine q_getP C fl_RX9_10 rfl s1 dX9_take_1 ?_
  have s2 := h.1
  replace h := h.2
  refine q_getP C fl_RX9_68 rfl s2 dX9_take_4 ?_
  have s3 := h.1
  replace h := h.2
  refine q_getI C fl_RX9_75 rfl s3 dX9_take_7 ?_
  refine q_iconst (v := 2) C dX9_take_10 (by decide) ?_
  refine q_icmp_ge (tgt := 17) C dX9_take_11 (by decide) (fun c4 => ?_) (fun c4 => ?_)
  · replace h := h.1 c4
    refine q_lload_n C dX9_take_17 rfl ?_
    refine q_lconst (v := 0) C dX9_take_18 (by decide) ?_
    refine q_lcmp_lt (tgt := 32) C dX9_take_19 dX9_take_20 (by decide) (fun c5 => ?_) (fun c5 => ?_)
    · replace h := h.1 c5
      refine q_bipush (v := (-2)) C dX9_take_32 (by decide) ?_
      exact q_iret C hk dX9_take_34 ⟨rfl, h⟩
    · replace h := h.2 c5
      refine q_lload_n C dX9_take_23 rfl ?_
      refine q_aload_n C dX9_take_24 rfl ?_
      refine q_cVl (as := []) (st := [.long l1]) (r := a0) C mv_X9_allDraws ml_RX9_139 dX9_take_25 rfl s1 rfl (Nat.le_of_ble_eq_true rfl) ⟨Nat.le_refl _, Nat.le_refl _⟩ h (fun r6 I7 L8 P9 h => ?_)
      refine q_lcmp_lt (tgt := 35) C dX9_take_28 dX9_take_29 (by decide) (fun c10 => ?_) (fun c10 => ?_)
      · replace h := h.1 c10
        refine q_aload_n C dX9_take_35 rfl ?_
        refine q_lload_n C dX9_take_36 rfl ?_
        refine q_cVv (as := [.long l1]) (st := []) (r := a0) C mv_X9_takeNumbered ml_RX9_172 dX9_take_37 rfl s1 rfl (Nat.le_of_ble_eq_true rfl) ⟨Nat.le_refl _, Nat.le_refl _⟩ h (fun I11 L12 P13 h => ?_)
        refine q_aload_n C dX9_take_40 rfl ?_
        refine q_getP C fl_RX9_10 rfl s1 dX9_take_41 ?_
        have s14 := h.1
        replace h := h.2
        refine q_getP C fl_RX9_68 rfl s14 dX9_take_44 ?_
        have s15 := h.1
        replace h := h.2
        refine q_cVi (as := []) (st := []) (r := P13 (P13 a0 0) 0) C mv_X2_byes ml_RX9_176 dX9_take_47 rfl s15 rfl (Nat.le_of_ble_eq_true rfl) ⟨Nat.le_refl _, Nat.le_refl _⟩ h (fun r16 I17 L18 P19 h => ?_)
        exact q_iret C hk dX9_take_50 ⟨rfl, h⟩
      · replace h := h.2 c10
        refine q_bipush (v := (-2)) C dX9_take_32 (by decide) ?_
        exact q_iret C hk dX9_take_34 ⟨rfl, h⟩
  · replace h := h.2 c4
    refine q_bipush (v := (-5)) C dX9_take_14 (by decide) ?_
    exact q_iret C hk dX9_take_16 ⟨rfl, h⟩
theorem sp_X9_take {d : Nat} {sh : List qSh} {K : Option Value → qMI → qML → qMP → Prop} {a0 : Nat} {l1 : Int64} {I : qMI} {L : qML} {P : qMP} (h0 : vc_X9_take_0 d sh K a0 l1 I L P) : Sq (d + 1) mX9_take sh [.ref a0, .long l1] I L P K := by
  refine Sq_of (by decide +kernel) (Nat.le_of_ble_eq_true rfl) (fun X C hk hn => ?_)
  exact rg_X9_take_0 C hk h0
/-! BracketDraws.drawn(I)J -/
def vc_X9_drawn_0 (d : Nat) (sh : List qSh) (K : Option Value → qMI → qML → qMP → Prop) (a0 : Nat) (x1 : Int32) (I : qMI) (L : qML) (P : qMP) : Prop :=
  ((shp sh a0).1 = 9) ∧ (((shp sh (P a0 0)).1 = 6) ∧ (((shp sh (P (P a0 0) 0)).1 = 2) ∧ (((2 ≤ (I (P (P a0 0) 0) 0)) → (Sq d mX9_allDraws sh [.ref a0] I L P (KL fun r5 I6 L7 P8 => ((1 ≤ r5) → ((¬ r5 = 0) ∧ (Sq d mX9_takeNumbered sh [.ref a0, .long ((Int32.toInt64 ((((x1 * 1103515245) + 12345) &&& 2147483647) / 256)) - (Int32.toInt64 ((((x1 * 1103515245) + 12345) &&& 2147483647) / 256)) / r5 * r5)] I6 L7 P8 (KV fun I11 L12 P13 => K (some (.long ((Int32.toInt64 ((((x1 * 1103515245) + 12345) &&& 2147483647) / 256)) - (Int32.toInt64 ((((x1 * 1103515245) + 12345) &&& 2147483647) / 256)) / r5 * r5))) I11 L12 P13)))) ∧ ((¬ 1 ≤ r5) → (K (some (.long ((-2)))) I6 L7 P8))))) ∧ ((¬ 2 ≤ (I (P (P a0 0) 0) 0)) → (K (some (.long ((-5)))) I L P)))))
set_option maxRecDepth 100000 in
set_option maxHeartbeats 4000000 in
theorem rg_X9_drawn_0 {X : qCT} {d : Nat} {sh : List qSh} {K : Option Value → qMI → qML → qMP → Prop} {a0 : Nat} {x1 : Int32} {I : qMI} {L : qML} {P : qMP} (C : qCB X RX9 cX9_drawn 8 (d + 1) 0 0) (hk : qCK X (some .long) 0 0 (fun v sh' I' L' P' => sh' = sh ∧ K v I' L' P')) (h : vc_X9_drawn_0 d sh K a0 x1 I L P) : qG X 0 [some (.ref a0), some (.int x1), none, none, none, none, none, none] [] sh I L P 0 0 := by
  unfold vc_X9_drawn_0 at h
  refine q_aload_n C dX9_drawn_0 rfl ?_
  have s1 := h.1
  replace h := h.2
  refine q_getP C fl_RX9_10 rfl s1 dX9_drawn_1 ?_
  have s2 := h.1
  replace h := h.2
  refine q_getP C fl_RX9_68 rfl s2 dX9_drawn_4 ?_
  have s3 := h.1
  replace h := h.2
  refine q_getI C fl_RX9_75 rfl s3 dX9_drawn_7 ?_
  refine q_iconst (v := 2) C dX9_drawn_10 (by decide) ?_
  refine q_icmp_ge (tgt := 18) C dX9_drawn_11 (by decide) (fun c4 => ?_) (fun c4 => ?_)
  · replace h := h.1 c4
    refine q_aload_n C dX9_drawn_18 rfl ?_
    refine q_cVl (as := []) (st := []) (r := a0) C mv_X9_allDraws ml_RX9_139 dX9_drawn_19 rfl s1 rfl (Nat.le_of_ble_eq_true rfl) ⟨Nat.le_refl _, Nat.le_refl _⟩ h (fun r5 I6 L7 P8 h => ?_)
    refine q_lstore_n (lo1 := [some (.ref a0), some (.int x1), some (.long r5), none, none, none, none, none]) C dX9_drawn_22 (by decide) rfl ?_
    refine q_lload_n C dX9_drawn_23 rfl ?_
    refine q_lconst (v := 1) C dX9_drawn_24 (by decide) ?_
    refine q_lcmp_ge (tgt := 33) C dX9_drawn_25 dX9_drawn_26 (by decide) (fun c9 => ?_) (fun c9 => ?_)
    · replace h := h.1 c9
      refine q_iload_n C dX9_drawn_33 rfl ?_
      refine q_ldc C kc_RX9_181 dX9_drawn_34 ?_
      refine q_imul C dX9_drawn_36 ?_
      refine q_sipush (v := 12345) C dX9_drawn_37 (by decide) ?_
      refine q_iadd C dX9_drawn_40 ?_
      refine q_istore (lo1 := [some (.ref a0), some (.int x1), some (.long r5), none, some (.int ((x1 * 1103515245) + 12345)), none, none, none]) C dX9_drawn_41 (by decide) rfl ?_
      refine q_iload C dX9_drawn_43 rfl ?_
      refine q_ldc C kc_RX9_182 dX9_drawn_45 ?_
      refine q_iand C dX9_drawn_47 ?_
      refine q_istore (lo1 := [some (.ref a0), some (.int x1), some (.long r5), none, some (.int ((x1 * 1103515245) + 12345)), some (.int (((x1 * 1103515245) + 12345) &&& 2147483647)), none, none]) C dX9_drawn_48 (by decide) rfl ?_
      refine q_iload C dX9_drawn_50 rfl ?_
      refine q_sipush (v := 256) C dX9_drawn_52 (by decide) ?_
      refine q_idiv C dX9_drawn_55 (by decide) ?_
      refine q_i2l C dX9_drawn_56 ?_
      refine q_lload_n C dX9_drawn_57 rfl ?_
      have s10 := h.1
      replace h := h.2
      refine q_lrem C dX9_drawn_58 s10 ?_
      refine q_lstore (lo1 := [some (.ref a0), some (.int x1), some (.long r5), none, some (.int ((x1 * 1103515245) + 12345)), some (.int (((x1 * 1103515245) + 12345) &&& 2147483647)), some (.long ((Int32.toInt64 ((((x1 * 1103515245) + 12345) &&& 2147483647) / 256)) - (Int32.toInt64 ((((x1 * 1103515245) + 12345) &&& 2147483647) / 256)) / r5 * r5)), none]) C dX9_drawn_59 (by decide) rfl ?_
      refine q_aload_n C dX9_drawn_61 rfl ?_
      refine q_lload C dX9_drawn_62 rfl ?_
      refine q_cVv (as := [.long ((Int32.toInt64 ((((x1 * 1103515245) + 12345) &&& 2147483647) / 256)) - (Int32.toInt64 ((((x1 * 1103515245) + 12345) &&& 2147483647) / 256)) / r5 * r5)]) (st := []) (r := a0) C mv_X9_takeNumbered ml_RX9_172 dX9_drawn_64 rfl s1 rfl (Nat.le_of_ble_eq_true rfl) ⟨Nat.le_refl _, Nat.le_refl _⟩ h (fun I11 L12 P13 h => ?_)
      refine q_lload C dX9_drawn_67 rfl ?_
      exact q_lret C hk dX9_drawn_69 ⟨rfl, h⟩
    · replace h := h.2 c9
      refine q_ldc2 C kl_RX9_179 dX9_drawn_29 ?_
      exact q_lret C hk dX9_drawn_32 ⟨rfl, h⟩
  · replace h := h.2 c4
    refine q_ldc2 C kl_RX9_137 dX9_drawn_14 ?_
    exact q_lret C hk dX9_drawn_17 ⟨rfl, h⟩
theorem sp_X9_drawn {d : Nat} {sh : List qSh} {K : Option Value → qMI → qML → qMP → Prop} {a0 : Nat} {x1 : Int32} {I : qMI} {L : qML} {P : qMP} (h0 : vc_X9_drawn_0 d sh K a0 x1 I L P) : Sq (d + 1) mX9_drawn sh [.ref a0, .int x1] I L P K := by
  refine Sq_of (by decide +kernel) (Nat.le_of_ble_eq_true rfl) (fun X C hk hn => ?_)
  exact rg_X9_drawn_0 C hk h0
/-! BracketDraws.slot(I)I -/
def vc_X9_slot_0 (d : Nat) (sh : List qSh) (K : Option Value → qMI → qML → qMP → Prop) (a0 : Nat) (x1 : Int32) (I : qMI) (L : qML) (P : qMP) : Prop :=
  ((shp sh a0).1 = 9) ∧ (((shp sh (P a0 0)).1 = 6) ∧ (((shp sh (P (P a0 0) 0)).1 = 2) ∧ (Sq d mX2_hasSlot sh [.ref (P (P a0 0) 0), .int x1] I L P (KI fun r4 I5 L6 P7 => ((¬ r4 = 0) → (((shp sh (P7 a0 0)).1 = 6) ∧ (((shp sh (P7 (P7 a0 0) 1)).1 = 1) ∧ ((((I5 (P7 (P7 a0 0) 1) 0) = 0) → (K (some (.int ((-5)))) I5 L6 P7)) ∧ ((¬ (I5 (P7 (P7 a0 0) 1) 0) = 0) → (Sq d mX1_standing sh [.ref (P7 (P7 a0 0) 1), .int x1] I5 L6 P7 (KI fun r12 I13 L14 P15 => K (some (.int r12)) I13 L14 P15))))))) ∧ ((r4 = 0) → (K (some (.int ((-1)))) I5 L6 P7))))))
set_option maxRecDepth 100000 in
set_option maxHeartbeats 4000000 in
theorem rg_X9_slot_0 {X : qCT} {d : Nat} {sh : List qSh} {K : Option Value → qMI → qML → qMP → Prop} {a0 : Nat} {x1 : Int32} {I : qMI} {L : qML} {P : qMP} (C : qCB X RX9 cX9_slot 2 (d + 1) 0 0) (hk : qCK X (some .int) 0 0 (fun v sh' I' L' P' => sh' = sh ∧ K v I' L' P')) (h : vc_X9_slot_0 d sh K a0 x1 I L P) : qG X 0 [some (.ref a0), some (.int x1)] [] sh I L P 0 0 := by
  unfold vc_X9_slot_0 at h
  refine q_aload_n C dX9_slot_0 rfl ?_
  have s1 := h.1
  replace h := h.2
  refine q_getP C fl_RX9_10 rfl s1 dX9_slot_1 ?_
  have s2 := h.1
  replace h := h.2
  refine q_getP C fl_RX9_68 rfl s2 dX9_slot_4 ?_
  refine q_iload_n C dX9_slot_7 rfl ?_
  have s3 := h.1
  replace h := h.2
  refine q_cVi (as := [.int x1]) (st := []) (r := P (P a0 0) 0) C mv_X2_hasSlot ml_RX9_143 dX9_slot_8 rfl s3 rfl (Nat.le_of_ble_eq_true rfl) ⟨Nat.le_refl _, Nat.le_refl _⟩ h (fun r4 I5 L6 P7 h => ?_)
  refine q_if_ne (tgt := 16) C dX9_slot_11 (by decide) (fun c8 => ?_) (fun c8 => ?_)
  · replace h := h.1 c8
    refine q_aload_n C dX9_slot_16 rfl ?_
    refine q_getP C fl_RX9_10 rfl s1 dX9_slot_17 ?_
    have s9 := h.1
    replace h := h.2
    refine q_getP C fl_RX9_97 rfl s9 dX9_slot_20 ?_
    have s10 := h.1
    replace h := h.2
    refine q_getI C fl_RX9_183 rfl s10 dX9_slot_23 ?_
    refine q_if_eq (tgt := 43) C dX9_slot_26 (by decide) (fun c11 => ?_) (fun c11 => ?_)
    · replace h := h.1 c11
      refine q_bipush (v := (-5)) C dX9_slot_43 (by decide) ?_
      exact q_iret C hk dX9_slot_45 ⟨rfl, h⟩
    · replace h := h.2 c11
      refine q_aload_n C dX9_slot_29 rfl ?_
      refine q_getP C fl_RX9_10 rfl s1 dX9_slot_30 ?_
      refine q_getP C fl_RX9_97 rfl s9 dX9_slot_33 ?_
      refine q_iload_n C dX9_slot_36 rfl ?_
      refine q_cVi (as := [.int x1]) (st := []) (r := P7 (P7 a0 0) 1) C mv_X1_standing ml_RX9_187 dX9_slot_37 rfl s10 rfl (Nat.le_of_ble_eq_true rfl) ⟨Nat.le_refl _, Nat.le_refl _⟩ h (fun r12 I13 L14 P15 h => ?_)
      refine q_goto (tgt := 45) C dX9_slot_40 (by decide) ?_
      exact q_iret C hk dX9_slot_45 ⟨rfl, h⟩
  · replace h := h.2 c8
    refine q_iconst (v := (-1)) C dX9_slot_14 (by decide) ?_
    exact q_iret C hk dX9_slot_15 ⟨rfl, h⟩
theorem sp_X9_slot {d : Nat} {sh : List qSh} {K : Option Value → qMI → qML → qMP → Prop} {a0 : Nat} {x1 : Int32} {I : qMI} {L : qML} {P : qMP} (h0 : vc_X9_slot_0 d sh K a0 x1 I L P) : Sq (d + 1) mX9_slot sh [.ref a0, .int x1] I L P K := by
  refine Sq_of (by decide +kernel) (Nat.le_of_ble_eq_true rfl) (fun X C hk hn => ?_)
  exact rg_X9_slot_0 C hk h0
/-! BracketDraws.where(I)I -/
def vc_X9_where_0 (d : Nat) (sh : List qSh) (K : Option Value → qMI → qML → qMP → Prop) (a0 : Nat) (x1 : Int32) (I : qMI) (L : qML) (P : qMP) : Prop :=
  ((shp sh a0).1 = 9) ∧ (((shp sh (P a0 0)).1 = 6) ∧ (((shp sh (P (P a0 0) 0)).1 = 2) ∧ (Sq d mX2_has sh [.ref (P (P a0 0) 0), .int x1] I L P (KI fun r4 I5 L6 P7 => ((¬ r4 = 0) → (((shp sh (P7 a0 0)).1 = 6) ∧ (((shp sh (P7 (P7 a0 0) 1)).1 = 1) ∧ ((((I5 (P7 (P7 a0 0) 1) 0) = 0) → (K (some (.int ((-5)))) I5 L6 P7)) ∧ ((¬ (I5 (P7 (P7 a0 0) 1) 0) = 0) → (Sq d mX1_slotOf sh [.ref (P7 (P7 a0 0) 1), .int x1] I5 L6 P7 (KI fun r12 I13 L14 P15 => K (some (.int r12)) I13 L14 P15))))))) ∧ ((r4 = 0) → (K (some (.int ((-1)))) I5 L6 P7))))))
set_option maxRecDepth 100000 in
set_option maxHeartbeats 4000000 in
theorem rg_X9_where_0 {X : qCT} {d : Nat} {sh : List qSh} {K : Option Value → qMI → qML → qMP → Prop} {a0 : Nat} {x1 : Int32} {I : qMI} {L : qML} {P : qMP} (C : qCB X RX9 cX9_where 2 (d + 1) 0 0) (hk : qCK X (some .int) 0 0 (fun v sh' I' L' P' => sh' = sh ∧ K v I' L' P')) (h : vc_X9_where_0 d sh K a0 x1 I L P) : qG X 0 [some (.ref a0), some (.int x1)] [] sh I L P 0 0 := by
  unfold vc_X9_where_0 at h
  refine q_aload_n C dX9_where_0 rfl ?_
  have s1 := h.1
  replace h := h.2
  refine q_getP C fl_RX9_10 rfl s1 dX9_where_1 ?_
  have s2 := h.1
  replace h := h.2
  refine q_getP C fl_RX9_68 rfl s2 dX9_where_4 ?_
  refine q_iload_n C dX9_where_7 rfl ?_
  have s3 := h.1
  replace h := h.2
  refine q_cVi (as := [.int x1]) (st := []) (r := P (P a0 0) 0) C mv_X2_has ml_RX9_85 dX9_where_8 rfl s3 rfl (Nat.le_of_ble_eq_true rfl) ⟨Nat.le_refl _, Nat.le_refl _⟩ h (fun r4 I5 L6 P7 h => ?_)
  refine q_if_ne (tgt := 16) C dX9_where_11 (by decide) (fun c8 => ?_) (fun c8 => ?_)
  · replace h := h.1 c8
    refine q_aload_n C dX9_where_16 rfl ?_
    refine q_getP C fl_RX9_10 rfl s1 dX9_where_17 ?_
    have s9 := h.1
    replace h := h.2
    refine q_getP C fl_RX9_97 rfl s9 dX9_where_20 ?_
    have s10 := h.1
    replace h := h.2
    refine q_getI C fl_RX9_183 rfl s10 dX9_where_23 ?_
    refine q_if_eq (tgt := 43) C dX9_where_26 (by decide) (fun c11 => ?_) (fun c11 => ?_)
    · replace h := h.1 c11
      refine q_bipush (v := (-5)) C dX9_where_43 (by decide) ?_
      exact q_iret C hk dX9_where_45 ⟨rfl, h⟩
    · replace h := h.2 c11
      refine q_aload_n C dX9_where_29 rfl ?_
      refine q_getP C fl_RX9_10 rfl s1 dX9_where_30 ?_
      refine q_getP C fl_RX9_97 rfl s9 dX9_where_33 ?_
      refine q_iload_n C dX9_where_36 rfl ?_
      refine q_cVi (as := [.int x1]) (st := []) (r := P7 (P7 a0 0) 1) C mv_X1_slotOf ml_RX9_190 dX9_where_37 rfl s10 rfl (Nat.le_of_ble_eq_true rfl) ⟨Nat.le_refl _, Nat.le_refl _⟩ h (fun r12 I13 L14 P15 h => ?_)
      refine q_goto (tgt := 45) C dX9_where_40 (by decide) ?_
      exact q_iret C hk dX9_where_45 ⟨rfl, h⟩
  · replace h := h.2 c8
    refine q_iconst (v := (-1)) C dX9_where_14 (by decide) ?_
    exact q_iret C hk dX9_where_15 ⟨rfl, h⟩
theorem sp_X9_where {d : Nat} {sh : List qSh} {K : Option Value → qMI → qML → qMP → Prop} {a0 : Nat} {x1 : Int32} {I : qMI} {L : qML} {P : qMP} (h0 : vc_X9_where_0 d sh K a0 x1 I L P) : Sq (d + 1) mX9_where sh [.ref a0, .int x1] I L P K := by
  refine Sq_of (by decide +kernel) (Nat.le_of_ble_eq_true rfl) (fun X C hk hn => ?_)
  exact rg_X9_where_0 C hk h0
/-! BracketDraws.number()J -/
def vc_X9_number_0 (d : Nat) (sh : List qSh) (K : Option Value → qMI → qML → qMP → Prop) (a0 : Nat) (I : qMI) (L : qML) (P : qMP) : Prop :=
  ((shp sh a0).1 = 9) ∧ (((shp sh (P a0 0)).1 = 6) ∧ (((shp sh (P (P a0 0) 1)).1 = 1) ∧ ((((I (P (P a0 0) 1) 0) = 0) → (K (some (.long ((-5)))) I L P)) ∧ ((¬ (I (P (P a0 0) 1) 0) = 0) → (K (some (.long (L (P (P a0 0) 1) 1))) I L P)))))
set_option maxRecDepth 100000 in
set_option maxHeartbeats 4000000 in
theorem rg_X9_number_0 {X : qCT} {d : Nat} {sh : List qSh} {K : Option Value → qMI → qML → qMP → Prop} {a0 : Nat} {I : qMI} {L : qML} {P : qMP} (C : qCB X RX9 cX9_number 1 (d + 1) 0 0) (hk : qCK X (some .long) 0 0 (fun v sh' I' L' P' => sh' = sh ∧ K v I' L' P')) (h : vc_X9_number_0 d sh K a0 I L P) : qG X 0 [some (.ref a0)] [] sh I L P 0 0 := by
  unfold vc_X9_number_0 at h
  refine q_aload_n C dX9_number_0 rfl ?_
  have s1 := h.1
  replace h := h.2
  refine q_getP C fl_RX9_10 rfl s1 dX9_number_1 ?_
  have s2 := h.1
  replace h := h.2
  refine q_getP C fl_RX9_97 rfl s2 dX9_number_4 ?_
  have s3 := h.1
  replace h := h.2
  refine q_getI C fl_RX9_183 rfl s3 dX9_number_7 ?_
  refine q_if_eq (tgt := 26) C dX9_number_10 (by decide) (fun c4 => ?_) (fun c4 => ?_)
  · replace h := h.1 c4
    refine q_ldc2 C kl_RX9_137 dX9_number_26 ?_
    exact q_lret C hk dX9_number_29 ⟨rfl, h⟩
  · replace h := h.2 c4
    refine q_aload_n C dX9_number_13 rfl ?_
    refine q_getP C fl_RX9_10 rfl s1 dX9_number_14 ?_
    refine q_getP C fl_RX9_97 rfl s2 dX9_number_17 ?_
    refine q_getL C fl_RX9_193 rfl s3 dX9_number_20 ?_
    refine q_goto (tgt := 29) C dX9_number_23 (by decide) ?_
    exact q_lret C hk dX9_number_29 ⟨rfl, h⟩
theorem sp_X9_number {d : Nat} {sh : List qSh} {K : Option Value → qMI → qML → qMP → Prop} {a0 : Nat} {I : qMI} {L : qML} {P : qMP} (h0 : vc_X9_number_0 d sh K a0 I L P) : Sq (d + 1) mX9_number sh [.ref a0] I L P K := by
  refine Sq_of (by decide +kernel) (Nat.le_of_ble_eq_true rfl) (fun X C hk hn => ?_)
  exact rg_X9_number_0 C hk h0
/-! BracketDraws.swapped(II)J -/
def vc_X9_swapped_0 (d : Nat) (sh : List qSh) (K : Option Value → qMI → qML → qMP → Prop) (a0 : Nat) (x1 : Int32) (x2 : Int32) (I : qMI) (L : qML) (P : qMP) : Prop :=
  ((shp sh a0).1 = 9) ∧ (((shp sh (P a0 0)).1 = 6) ∧ (((shp sh (P (P a0 0) 0)).1 = 2) ∧ (Sq d mX2_hasBoth sh [.ref (P (P a0 0) 0), .int x1, .int x2] I L P (KI fun r4 I5 L6 P7 => ((¬ r4 = 0) → (((shp sh (P7 a0 0)).1 = 6) ∧ (((shp sh (P7 (P7 a0 0) 1)).1 = 1) ∧ (((¬ (I5 (P7 (P7 a0 0) 1) 0) = 0) → (Sq d mX9_allDraws sh [.ref a0] I5 L6 P7 (KL fun r12 I13 L14 P15 => ((shp sh (P15 a0 0)).1 = 6) ∧ (((shp sh (P15 a0 6)).1 = 4) ∧ (Sq d mX4_numberOfSwapped sh [.ref (P15 a0 6), .ref (P15 a0 4), .ref (P15 (P15 a0 0) 1), .int x1, .int x2] I13 L14 P15 (KL fun r18 I19 L20 P21 => ((¬ r18 = ((-1))) → (K (some (.long r18)) I19 L20 P21)) ∧ ((r18 = ((-1))) → (K (some (.long ((-2)))) I19 L20 P21)))))))) ∧ (((I5 (P7 (P7 a0 0) 1) 0) = 0) → (K (some (.long ((-5)))) I5 L6 P7)))))) ∧ ((r4 = 0) → (K (some (.long ((-1)))) I5 L6 P7))))))
set_option maxRecDepth 100000 in
set_option maxHeartbeats 4000000 in
theorem rg_X9_swapped_0 {X : qCT} {d : Nat} {sh : List qSh} {K : Option Value → qMI → qML → qMP → Prop} {a0 : Nat} {x1 : Int32} {x2 : Int32} {I : qMI} {L : qML} {P : qMP} (C : qCB X RX9 cX9_swapped 5 (d + 1) 0 0) (hk : qCK X (some .long) 0 0 (fun v sh' I' L' P' => sh' = sh ∧ K v I' L' P')) (h : vc_X9_swapped_0 d sh K a0 x1 x2 I L P) : qG X 0 [some (.ref a0), some (.int x1), some (.int x2), none, none] [] sh I L P 0 0 := by
  unfold vc_X9_swapped_0 at h
  refine q_aload_n C dX9_swapped_0 rfl ?_
  have s1 := h.1
  replace h := h.2
  refine q_getP C fl_RX9_10 rfl s1 dX9_swapped_1 ?_
  have s2 := h.1
  replace h := h.2
  refine q_getP C fl_RX9_68 rfl s2 dX9_swapped_4 ?_
  refine q_iload_n C dX9_swapped_7 rfl ?_
  refine q_iload_n C dX9_swapped_8 rfl ?_
  have s3 := h.1
  replace h := h.2
  refine q_cVi (as := [.int x1, .int x2]) (st := []) (r := P (P a0 0) 0) C mv_X2_hasBoth ml_RX9_158 dX9_swapped_9 rfl s3 rfl (Nat.le_of_ble_eq_true rfl) ⟨Nat.le_refl _, Nat.le_refl _⟩ h (fun r4 I5 L6 P7 h => ?_)
  refine q_if_ne (tgt := 19) C dX9_swapped_12 (by decide) (fun c8 => ?_) (fun c8 => ?_)
  · replace h := h.1 c8
    refine q_aload_n C dX9_swapped_19 rfl ?_
    refine q_getP C fl_RX9_10 rfl s1 dX9_swapped_20 ?_
    have s9 := h.1
    replace h := h.2
    refine q_getP C fl_RX9_97 rfl s9 dX9_swapped_23 ?_
    have s10 := h.1
    replace h := h.2
    refine q_getI C fl_RX9_183 rfl s10 dX9_swapped_26 ?_
    refine q_if_ne (tgt := 36) C dX9_swapped_29 (by decide) (fun c11 => ?_) (fun c11 => ?_)
    · replace h := h.1 c11
      refine q_aload_n C dX9_swapped_36 rfl ?_
      refine q_cVl (as := []) (st := []) (r := a0) C mv_X9_allDraws ml_RX9_139 dX9_swapped_37 rfl s1 rfl (Nat.le_of_ble_eq_true rfl) ⟨Nat.le_refl _, Nat.le_refl _⟩ h (fun r12 I13 L14 P15 h => ?_)
      refine q_pop2 C dX9_swapped_40 ?_
      refine q_aload_n C dX9_swapped_41 rfl ?_
      refine q_getP C fl_RX9_46 rfl s1 dX9_swapped_42 ?_
      refine q_aload_n C dX9_swapped_45 rfl ?_
      refine q_getP C fl_RX9_36 rfl s1 dX9_swapped_46 ?_
      refine q_aload_n C dX9_swapped_49 rfl ?_
      refine q_getP C fl_RX9_10 rfl s1 dX9_swapped_50 ?_
      have s16 := h.1
      replace h := h.2
      refine q_getP C fl_RX9_97 rfl s16 dX9_swapped_53 ?_
      refine q_iload_n C dX9_swapped_56 rfl ?_
      refine q_iload_n C dX9_swapped_57 rfl ?_
      have s17 := h.1
      replace h := h.2
      refine q_cVl (as := [.ref (P15 a0 4), .ref (P15 (P15 a0 0) 1), .int x1, .int x2]) (st := []) (r := P15 a0 6) C mv_X4_numberOfSwapped ml_RX9_197 dX9_swapped_58 rfl s17 rfl (Nat.le_of_ble_eq_true rfl) ⟨Nat.le_refl _, Nat.le_refl _⟩ h (fun r18 I19 L20 P21 h => ?_)
      refine q_lstore_n (lo1 := [some (.ref a0), some (.int x1), some (.int x2), some (.long r18), none]) C dX9_swapped_61 (by decide) rfl ?_
      refine q_lload_n C dX9_swapped_62 rfl ?_
      refine q_ldc2 C kl_RX9_146 dX9_swapped_63 ?_
      refine q_lcmp_ne (tgt := 76) C dX9_swapped_66 dX9_swapped_67 (by decide) (fun c22 => ?_) (fun c22 => ?_)
      · replace h := h.1 c22
        refine q_lload_n C dX9_swapped_76 rfl ?_
        exact q_lret C hk dX9_swapped_77 ⟨rfl, h⟩
      · replace h := h.2 c22
        refine q_ldc2 C kl_RX9_179 dX9_swapped_70 ?_
        refine q_goto (tgt := 77) C dX9_swapped_73 (by decide) ?_
        exact q_lret C hk dX9_swapped_77 ⟨rfl, h⟩
    · replace h := h.2 c11
      refine q_ldc2 C kl_RX9_137 dX9_swapped_32 ?_
      exact q_lret C hk dX9_swapped_35 ⟨rfl, h⟩
  · replace h := h.2 c8
    refine q_ldc2 C kl_RX9_146 dX9_swapped_15 ?_
    exact q_lret C hk dX9_swapped_18 ⟨rfl, h⟩
theorem sp_X9_swapped {d : Nat} {sh : List qSh} {K : Option Value → qMI → qML → qMP → Prop} {a0 : Nat} {x1 : Int32} {x2 : Int32} {I : qMI} {L : qML} {P : qMP} (h0 : vc_X9_swapped_0 d sh K a0 x1 x2 I L P) : Sq (d + 1) mX9_swapped sh [.ref a0, .int x1, .int x2] I L P K := by
  refine Sq_of (by decide +kernel) (Nat.le_of_ble_eq_true rfl) (fun X C hk hn => ?_)
  exact rg_X9_swapped_0 C hk h0
/-! BracketDraws.soonest(II)I -/
def vc_X9_soonest_0 (d : Nat) (sh : List qSh) (K : Option Value → qMI → qML → qMP → Prop) (a0 : Nat) (x1 : Int32) (x2 : Int32) (I : qMI) (L : qML) (P : qMP) : Prop :=
  ((shp sh a0).1 = 9) ∧ (((shp sh (P a0 0)).1 = 6) ∧ (((shp sh (P (P a0 0) 0)).1 = 2) ∧ (Sq d mX2_hasBoth sh [.ref (P (P a0 0) 0), .int x1, .int x2] I L P (KI fun r4 I5 L6 P7 => ((¬ r4 = 0) → (((shp sh (P7 a0 0)).1 = 6) ∧ (((shp sh (P7 (P7 a0 0) 1)).1 = 1) ∧ ((((I5 (P7 (P7 a0 0) 1) 0) = 0) → (K (some (.int ((-5)))) I5 L6 P7)) ∧ ((¬ (I5 (P7 (P7 a0 0) 1) 0) = 0) → (Sq d mX1_firstCommonRound sh [.ref (P7 (P7 a0 0) 1), .int x1, .int x2] I5 L6 P7 (KI fun r12 I13 L14 P15 => K (some (.int r12)) I13 L14 P15))))))) ∧ ((r4 = 0) → (K (some (.int ((-1)))) I5 L6 P7))))))
set_option maxRecDepth 100000 in
set_option maxHeartbeats 4000000 in
theorem rg_X9_soonest_0 {X : qCT} {d : Nat} {sh : List qSh} {K : Option Value → qMI → qML → qMP → Prop} {a0 : Nat} {x1 : Int32} {x2 : Int32} {I : qMI} {L : qML} {P : qMP} (C : qCB X RX9 cX9_soonest 3 (d + 1) 0 0) (hk : qCK X (some .int) 0 0 (fun v sh' I' L' P' => sh' = sh ∧ K v I' L' P')) (h : vc_X9_soonest_0 d sh K a0 x1 x2 I L P) : qG X 0 [some (.ref a0), some (.int x1), some (.int x2)] [] sh I L P 0 0 := by
  unfold vc_X9_soonest_0 at h
  refine q_aload_n C dX9_soonest_0 rfl ?_
  have s1 := h.1
  replace h := h.2
  refine q_getP C fl_RX9_10 rfl s1 dX9_soonest_1 ?_
  have s2 := h.1
  replace h := h.2
  refine q_getP C fl_RX9_68 rfl s2 dX9_soonest_4 ?_
  refine q_iload_n C dX9_soonest_7 rfl ?_
  refine q_iload_n C dX9_soonest_8 rfl ?_
  have s3 := h.1
  replace h := h.2
  refine q_cVi (as := [.int x1, .int x2]) (st := []) (r := P (P a0 0) 0) C mv_X2_hasBoth ml_RX9_158 dX9_soonest_9 rfl s3 rfl (Nat.le_of_ble_eq_true rfl) ⟨Nat.le_refl _, Nat.le_refl _⟩ h (fun r4 I5 L6 P7 h => ?_)
  refine q_if_ne (tgt := 17) C dX9_soonest_12 (by decide) (fun c8 => ?_) (fun c8 => ?_)
  · replace h := h.1 c8
    refine q_aload_n C dX9_soonest_17 rfl ?_
    refine q_getP C fl_RX9_10 rfl s1 dX9_soonest_18 ?_
    have s9 := h.1
    replace h := h.2
    refine q_getP C fl_RX9_97 rfl s9 dX9_soonest_21 ?_
    have s10 := h.1
    replace h := h.2
    refine q_getI C fl_RX9_183 rfl s10 dX9_soonest_24 ?_
    refine q_if_eq (tgt := 45) C dX9_soonest_27 (by decide) (fun c11 => ?_) (fun c11 => ?_)
    · replace h := h.1 c11
      refine q_bipush (v := (-5)) C dX9_soonest_45 (by decide) ?_
      exact q_iret C hk dX9_soonest_47 ⟨rfl, h⟩
    · replace h := h.2 c11
      refine q_aload_n C dX9_soonest_30 rfl ?_
      refine q_getP C fl_RX9_10 rfl s1 dX9_soonest_31 ?_
      refine q_getP C fl_RX9_97 rfl s9 dX9_soonest_34 ?_
      refine q_iload_n C dX9_soonest_37 rfl ?_
      refine q_iload_n C dX9_soonest_38 rfl ?_
      refine q_cVi (as := [.int x1, .int x2]) (st := []) (r := P7 (P7 a0 0) 1) C mv_X1_firstCommonRound ml_RX9_201 dX9_soonest_39 rfl s10 rfl (Nat.le_of_ble_eq_true rfl) ⟨Nat.le_refl _, Nat.le_refl _⟩ h (fun r12 I13 L14 P15 h => ?_)
      refine q_goto (tgt := 47) C dX9_soonest_42 (by decide) ?_
      exact q_iret C hk dX9_soonest_47 ⟨rfl, h⟩
  · replace h := h.2 c8
    refine q_iconst (v := (-1)) C dX9_soonest_15 (by decide) ?_
    exact q_iret C hk dX9_soonest_16 ⟨rfl, h⟩
theorem sp_X9_soonest {d : Nat} {sh : List qSh} {K : Option Value → qMI → qML → qMP → Prop} {a0 : Nat} {x1 : Int32} {x2 : Int32} {I : qMI} {L : qML} {P : qMP} (h0 : vc_X9_soonest_0 d sh K a0 x1 x2 I L P) : Sq (d + 1) mX9_soonest sh [.ref a0, .int x1, .int x2] I L P K := by
  refine Sq_of (by decide +kernel) (Nat.le_of_ble_eq_true rfl) (fun X C hk hn => ?_)
  exact rg_X9_soonest_0 C hk h0
/-! BracketDraws.relaxed(I)I -/
def vc_X9_relaxed_0 (d : Nat) (sh : List qSh) (K : Option Value → qMI → qML → qMP → Prop) (a0 : Nat) (x1 : Int32) (I : qMI) (L : qML) (P : qMP) : Prop :=
  ((x1 < 0) → (K (some (.int ((-1)))) I L P)) ∧ ((¬ x1 < 0) → (((x1 ≤ 1) → (((shp sh a0).1 = 9) ∧ (((shp sh (P a0 0)).1 = 6) ∧ (((shp sh (P (P a0 0) 0)).1 = 2) ∧ (((2 ≤ (I (P (P a0 0) 0) 0)) → (Sq d mX9_allDraws sh [.ref a0] I L P (KL fun r7 I8 L9 P10 => ((¬ r7 = 0) → (((¬ (I8 a0 10) = ((-4))) → ((((I8 a0 10) = ((-2))) → (K (some (.int (I8 a0 10))) I8 L9 P10)) ∧ ((¬ (I8 a0 10) = ((-2))) → (((¬ x1 = 1) → (K (some (.int (I8 a0 10))) I8 L9 P10)) ∧ ((x1 = 1) → (((shp sh (P10 a0 0)).1 = 6) ∧ (((shp sh (P10 (P10 a0 0) 0)).1 = 2) ∧ (∀ I17 : qMI, I17 = uI I8 (P10 (P10 a0 0) 0) 1 ((I8 a0 10) / 10) → (∀ I18 : qMI, I18 = uI I17 (P10 (P10 a0 0) 0) 2 ((I17 a0 10) - (I17 a0 10) / 10 * 10) → (((shp sh (P10 (P10 a0 0) 1)).1 = 1) ∧ (Sq d mX1_drop sh [.ref (P10 (P10 a0 0) 1)] I18 L9 P10 (KV fun I20 L21 P22 => ((shp sh (P22 a0 2)).1 = 3) ∧ (Sq d mX3_remember sh [.ref (P22 a0 2), .ref (P22 a0 0)] I20 L21 P22 (KV fun I24 L25 P26 => K (some (.int (I24 a0 10))) I24 L25 P26)))))))))))))) ∧ (((I8 a0 10) = ((-4))) → (((shp sh (P10 a0 0)).1 = 6) ∧ (((shp sh (P10 (P10 a0 0) 0)).1 = 2) ∧ (Sq d mX2_bothLevels sh [.ref (P10 (P10 a0 0) 0)] I8 L9 P10 (KI fun r29 I30 L31 P32 => ∀ I33 : qMI, I33 = uI I30 a0 10 r29 → ((((I33 a0 10) = ((-2))) → (K (some (.int (I33 a0 10))) I33 L31 P32)) ∧ ((¬ (I33 a0 10) = ((-2))) → (((¬ x1 = 1) → (K (some (.int (I33 a0 10))) I33 L31 P32)) ∧ ((x1 = 1) → (((shp sh (P32 a0 0)).1 = 6) ∧ (((shp sh (P32 (P32 a0 0) 0)).1 = 2) ∧ (∀ I38 : qMI, I38 = uI I33 (P32 (P32 a0 0) 0) 1 ((I33 a0 10) / 10) → (∀ I39 : qMI, I39 = uI I38 (P32 (P32 a0 0) 0) 2 ((I38 a0 10) - (I38 a0 10) / 10 * 10) → (((shp sh (P32 (P32 a0 0) 1)).1 = 1) ∧ (Sq d mX1_drop sh [.ref (P32 (P32 a0 0) 1)] I39 L31 P32 (KV fun I41 L42 P43 => ((shp sh (P43 a0 2)).1 = 3) ∧ (Sq d mX3_remember sh [.ref (P43 a0 2), .ref (P43 a0 0)] I41 L42 P43 (KV fun I45 L46 P47 => K (some (.int (I45 a0 10))) I45 L46 P47)))))))))))))))))))) ∧ ((r7 = 0) → (((¬ (I8 a0 10) = ((-4))) → ((((I8 a0 10) = ((-2))) → (K (some (.int (I8 a0 10))) I8 L9 P10)) ∧ ((¬ (I8 a0 10) = ((-2))) → (((¬ x1 = 1) → (K (some (.int (I8 a0 10))) I8 L9 P10)) ∧ ((x1 = 1) → (((shp sh (P10 a0 0)).1 = 6) ∧ (((shp sh (P10 (P10 a0 0) 0)).1 = 2) ∧ (∀ I53 : qMI, I53 = uI I8 (P10 (P10 a0 0) 0) 1 ((I8 a0 10) / 10) → (∀ I54 : qMI, I54 = uI I53 (P10 (P10 a0 0) 0) 2 ((I53 a0 10) - (I53 a0 10) / 10 * 10) → (((shp sh (P10 (P10 a0 0) 1)).1 = 1) ∧ (Sq d mX1_drop sh [.ref (P10 (P10 a0 0) 1)] I54 L9 P10 (KV fun I56 L57 P58 => ((shp sh (P58 a0 2)).1 = 3) ∧ (Sq d mX3_remember sh [.ref (P58 a0 2), .ref (P58 a0 0)] I56 L57 P58 (KV fun I60 L61 P62 => K (some (.int (I60 a0 10))) I60 L61 P62)))))))))))))) ∧ (((I8 a0 10) = ((-4))) → (Sq d mX9_searchLevels sh [.ref a0] I8 L9 P10 (KI fun r63 I64 L65 P66 => ∀ I67 : qMI, I67 = uI I64 a0 10 r63 → ((((I67 a0 10) = ((-2))) → (K (some (.int (I67 a0 10))) I67 L65 P66)) ∧ ((¬ (I67 a0 10) = ((-2))) → (((¬ x1 = 1) → (K (some (.int (I67 a0 10))) I67 L65 P66)) ∧ ((x1 = 1) → (((shp sh (P66 a0 0)).1 = 6) ∧ (((shp sh (P66 (P66 a0 0) 0)).1 = 2) ∧ (∀ I72 : qMI, I72 = uI I67 (P66 (P66 a0 0) 0) 1 ((I67 a0 10) / 10) → (∀ I73 : qMI, I73 = uI I72 (P66 (P66 a0 0) 0) 2 ((I72 a0 10) - (I72 a0 10) / 10 * 10) → (((shp sh (P66 (P66 a0 0) 1)).1 = 1) ∧ (Sq d mX1_drop sh [.ref (P66 (P66 a0 0) 1)] I73 L65 P66 (KV fun I75 L76 P77 => ((shp sh (P77 a0 2)).1 = 3) ∧ (Sq d mX3_remember sh [.ref (P77 a0 2), .ref (P77 a0 0)] I75 L76 P77 (KV fun I79 L80 P81 => K (some (.int (I79 a0 10))) I79 L80 P81))))))))))))))))))))) ∧ ((¬ 2 ≤ (I (P (P a0 0) 0) 0)) → (K (some (.int ((-5)))) I L P))))))) ∧ ((¬ x1 ≤ 1) → (K (some (.int ((-1)))) I L P))))
set_option maxRecDepth 100000 in
set_option maxHeartbeats 4000000 in
theorem rg_X9_relaxed_0 {X : qCT} {d : Nat} {sh : List qSh} {K : Option Value → qMI → qML → qMP → Prop} {a0 : Nat} {x1 : Int32} {I : qMI} {L : qML} {P : qMP} (C : qCB X RX9 cX9_relaxed 3 (d + 1) 0 0) (hk : qCK X (some .int) 0 0 (fun v sh' I' L' P' => sh' = sh ∧ K v I' L' P')) (h : vc_X9_relaxed_0 d sh K a0 x1 I L P) : qG X 0 [some (.ref a0), some (.int x1), none] [] sh I L P 0 0 := by
  unfold vc_X9_relaxed_0 at h
  refine q_iload_n C dX9_relaxed_0 rfl ?_
  refine q_if_lt (tgt := 9) C dX9_relaxed_1 (by decide) (fun c1 => ?_) (fun c1 => ?_)
  · replace h := h.1 c1
    refine q_iconst (v := (-1)) C dX9_relaxed_9 (by decide) ?_
    exact q_iret C hk dX9_relaxed_10 ⟨rfl, h⟩
  · replace h := h.2 c1
    refine q_iload_n C dX9_relaxed_4 rfl ?_
    refine q_iconst (v := 1) C dX9_relaxed_5 (by decide) ?_
    refine q_icmp_le (tgt := 11) C dX9_relaxed_6 (by decide) (fun c2 => ?_) (fun c2 => ?_)
    · replace h := h.1 c2
      refine q_aload_n C dX9_relaxed_11 rfl ?_
      have s3 := h.1
      replace h := h.2
      refine q_getP C fl_RX9_10 rfl s3 dX9_relaxed_12 ?_
      have s4 := h.1
      replace h := h.2
      refine q_getP C fl_RX9_68 rfl s4 dX9_relaxed_15 ?_
      have s5 := h.1
      replace h := h.2
      refine q_getI C fl_RX9_75 rfl s5 dX9_relaxed_18 ?_
      refine q_iconst (v := 2) C dX9_relaxed_21 (by decide) ?_
      refine q_icmp_ge (tgt := 28) C dX9_relaxed_22 (by decide) (fun c6 => ?_) (fun c6 => ?_)
      · replace h := h.1 c6
        refine q_aload_n C dX9_relaxed_28 rfl ?_
        refine q_cVl (as := []) (st := []) (r := a0) C mv_X9_allDraws ml_RX9_139 dX9_relaxed_29 rfl s3 rfl (Nat.le_of_ble_eq_true rfl) ⟨Nat.le_refl _, Nat.le_refl _⟩ h (fun r7 I8 L9 P10 h => ?_)
        refine q_lconst (v := 0) C dX9_relaxed_32 (by decide) ?_
        refine q_lcmp_ne (tgt := 41) C dX9_relaxed_33 dX9_relaxed_34 (by decide) (fun c11 => ?_) (fun c11 => ?_)
        · replace h := h.1 c11
          refine q_iconst (v := 0) C dX9_relaxed_41 (by decide) ?_
          refine q_istore_n (lo1 := [some (.ref a0), some (.int x1), some (.int 0)]) C dX9_relaxed_42 (by decide) rfl ?_
          refine q_aload_n C dX9_relaxed_43 rfl ?_
          refine q_getI C fl_RX9_64 rfl s3 dX9_relaxed_44 ?_
          refine q_bipush (v := (-4)) C dX9_relaxed_47 (by decide) ?_
          refine q_icmp_ne (tgt := 77) C dX9_relaxed_49 (by decide) (fun c12 => ?_) (fun c12 => ?_)
          · replace h := h.1 c12
            refine q_aload_n C dX9_relaxed_77 rfl ?_
            refine q_getI C fl_RX9_64 rfl s3 dX9_relaxed_78 ?_
            refine q_bipush (v := (-2)) C dX9_relaxed_81 (by decide) ?_
            refine q_icmp_eq (tgt := 146) C dX9_relaxed_83 (by decide) (fun c13 => ?_) (fun c13 => ?_)
            · replace h := h.1 c13
              refine q_aload_n C dX9_relaxed_146 rfl ?_
              refine q_getI C fl_RX9_64 rfl s3 dX9_relaxed_147 ?_
              exact q_iret C hk dX9_relaxed_150 ⟨rfl, h⟩
            · replace h := h.2 c13
              refine q_iload_n C dX9_relaxed_86 rfl ?_
              refine q_iconst (v := 1) C dX9_relaxed_87 (by decide) ?_
              refine q_icmp_ne (tgt := 146) C dX9_relaxed_88 (by decide) (fun c14 => ?_) (fun c14 => ?_)
              · replace h := h.1 c14
                refine q_aload_n C dX9_relaxed_146 rfl ?_
                refine q_getI C fl_RX9_64 rfl s3 dX9_relaxed_147 ?_
                exact q_iret C hk dX9_relaxed_150 ⟨rfl, h⟩
              · replace h := h.2 c14
                refine q_aload_n C dX9_relaxed_91 rfl ?_
                refine q_getP C fl_RX9_10 rfl s3 dX9_relaxed_92 ?_
                have s15 := h.1
                replace h := h.2
                refine q_getP C fl_RX9_68 rfl s15 dX9_relaxed_95 ?_
                refine q_aload_n C dX9_relaxed_98 rfl ?_
                refine q_getI C fl_RX9_64 rfl s3 dX9_relaxed_99 ?_
                refine q_bipush (v := 10) C dX9_relaxed_102 (by decide) ?_
                refine q_idiv C dX9_relaxed_104 (by decide) ?_
                have s16 := h.1
                replace h := h.2
                refine q_putI C fl_RX9_111 (fun T hT => by cases hT; rfl) rfl s16 dX9_relaxed_105 (fun I17 eI17 => ?_)
                replace h := h I17 eI17
                refine q_aload_n C dX9_relaxed_108 rfl ?_
                refine q_getP C fl_RX9_10 rfl s3 dX9_relaxed_109 ?_
                refine q_getP C fl_RX9_68 rfl s15 dX9_relaxed_112 ?_
                refine q_aload_n C dX9_relaxed_115 rfl ?_
                refine q_getI C fl_RX9_64 rfl s3 dX9_relaxed_116 ?_
                refine q_bipush (v := 10) C dX9_relaxed_119 (by decide) ?_
                refine q_irem C dX9_relaxed_121 (by decide) ?_
                refine q_putI C fl_RX9_114 (fun T hT => by cases hT; rfl) rfl s16 dX9_relaxed_122 (fun I18 eI18 => ?_)
                replace h := h I18 eI18
                refine q_aload_n C dX9_relaxed_125 rfl ?_
                refine q_getP C fl_RX9_10 rfl s3 dX9_relaxed_126 ?_
                refine q_getP C fl_RX9_97 rfl s15 dX9_relaxed_129 ?_
                have s19 := h.1
                replace h := h.2
                refine q_cVv (as := []) (st := []) (r := P10 (P10 a0 0) 1) C mv_X1_drop ml_RX9_100 dX9_relaxed_132 rfl s19 rfl (Nat.le_of_ble_eq_true rfl) ⟨Nat.le_refl _, Nat.le_refl _⟩ h (fun I20 L21 P22 h => ?_)
                refine q_aload_n C dX9_relaxed_135 rfl ?_
                refine q_getP C fl_RX9_22 rfl s3 dX9_relaxed_136 ?_
                refine q_aload_n C dX9_relaxed_139 rfl ?_
                refine q_getP C fl_RX9_10 rfl s3 dX9_relaxed_140 ?_
                have s23 := h.1
                replace h := h.2
                refine q_cVv (as := [.ref (P22 a0 0)]) (st := []) (r := P22 a0 2) C mv_X3_remember ml_RX9_103 dX9_relaxed_143 rfl s23 rfl (Nat.le_of_ble_eq_true rfl) ⟨Nat.le_refl _, Nat.le_refl _⟩ h (fun I24 L25 P26 h => ?_)
                refine q_aload_n C dX9_relaxed_146 rfl ?_
                refine q_getI C fl_RX9_64 rfl s3 dX9_relaxed_147 ?_
                exact q_iret C hk dX9_relaxed_150 ⟨rfl, h⟩
          · replace h := h.2 c12
            refine q_aload_n C dX9_relaxed_52 rfl ?_
            refine q_iload_n C dX9_relaxed_53 rfl ?_
            refine q_if_eq (tgt := 64) C dX9_relaxed_54 (by decide) (fun _ => ?_) (fun c => absurd c (by decide))
            refine q_aload_n C dX9_relaxed_64 rfl ?_
            refine q_getP C fl_RX9_10 rfl s3 dX9_relaxed_65 ?_
            have s27 := h.1
            replace h := h.2
            refine q_getP C fl_RX9_68 rfl s27 dX9_relaxed_68 ?_
            have s28 := h.1
            replace h := h.2
            refine q_cVi (as := []) (st := [.ref a0]) (r := P10 (P10 a0 0) 0) C mv_X2_bothLevels ml_RX9_207 dX9_relaxed_71 rfl s28 rfl (Nat.le_of_ble_eq_true rfl) ⟨Nat.le_refl _, Nat.le_refl _⟩ h (fun r29 I30 L31 P32 h => ?_)
            refine q_putI C fl_RX9_64 (fun T hT => by cases hT; rfl) rfl s3 dX9_relaxed_74 (fun I33 eI33 => ?_)
            replace h := h I33 eI33
            refine q_aload_n C dX9_relaxed_77 rfl ?_
            refine q_getI C fl_RX9_64 rfl s3 dX9_relaxed_78 ?_
            refine q_bipush (v := (-2)) C dX9_relaxed_81 (by decide) ?_
            refine q_icmp_eq (tgt := 146) C dX9_relaxed_83 (by decide) (fun c34 => ?_) (fun c34 => ?_)
            · replace h := h.1 c34
              refine q_aload_n C dX9_relaxed_146 rfl ?_
              refine q_getI C fl_RX9_64 rfl s3 dX9_relaxed_147 ?_
              exact q_iret C hk dX9_relaxed_150 ⟨rfl, h⟩
            · replace h := h.2 c34
              refine q_iload_n C dX9_relaxed_86 rfl ?_
              refine q_iconst (v := 1) C dX9_relaxed_87 (by decide) ?_
              refine q_icmp_ne (tgt := 146) C dX9_relaxed_88 (by decide) (fun c35 => ?_) (fun c35 => ?_)
              · replace h := h.1 c35
                refine q_aload_n C dX9_relaxed_146 rfl ?_
                refine q_getI C fl_RX9_64 rfl s3 dX9_relaxed_147 ?_
                exact q_iret C hk dX9_relaxed_150 ⟨rfl, h⟩
              · replace h := h.2 c35
                refine q_aload_n C dX9_relaxed_91 rfl ?_
                refine q_getP C fl_RX9_10 rfl s3 dX9_relaxed_92 ?_
                have s36 := h.1
                replace h := h.2
                refine q_getP C fl_RX9_68 rfl s36 dX9_relaxed_95 ?_
                refine q_aload_n C dX9_relaxed_98 rfl ?_
                refine q_getI C fl_RX9_64 rfl s3 dX9_relaxed_99 ?_
                refine q_bipush (v := 10) C dX9_relaxed_102 (by decide) ?_
                refine q_idiv C dX9_relaxed_104 (by decide) ?_
                have s37 := h.1
                replace h := h.2
                refine q_putI C fl_RX9_111 (fun T hT => by cases hT; rfl) rfl s37 dX9_relaxed_105 (fun I38 eI38 => ?_)
                replace h := h I38 eI38
                refine q_aload_n C dX9_relaxed_108 rfl ?_
                refine q_getP C fl_RX9_10 rfl s3 dX9_relaxed_109 ?_
                refine q_getP C fl_RX9_68 rfl s36 dX9_relaxed_112 ?_
                refine q_aload_n C dX9_relaxed_115 rfl ?_
                refine q_getI C fl_RX9_64 rfl s3 dX9_relaxed_116 ?_
                refine q_bipush (v := 10) C dX9_relaxed_119 (by decide) ?_
                refine q_irem C dX9_relaxed_121 (by decide) ?_
                refine q_putI C fl_RX9_114 (fun T hT => by cases hT; rfl) rfl s37 dX9_relaxed_122 (fun I39 eI39 => ?_)
                replace h := h I39 eI39
                refine q_aload_n C dX9_relaxed_125 rfl ?_
                refine q_getP C fl_RX9_10 rfl s3 dX9_relaxed_126 ?_
                refine q_getP C fl_RX9_97 rfl s36 dX9_relaxed_129 ?_
                have s40 := h.1
                replace h := h.2
                refine q_cVv (as := []) (st := []) (r := P32 (P32 a0 0) 1) C mv_X1_drop ml_RX9_100 dX9_relaxed_132 rfl s40 rfl (Nat.le_of_ble_eq_true rfl) ⟨Nat.le_refl _, Nat.le_refl _⟩ h (fun I41 L42 P43 h => ?_)
                refine q_aload_n C dX9_relaxed_135 rfl ?_
                refine q_getP C fl_RX9_22 rfl s3 dX9_relaxed_136 ?_
                refine q_aload_n C dX9_relaxed_139 rfl ?_
                refine q_getP C fl_RX9_10 rfl s3 dX9_relaxed_140 ?_
                have s44 := h.1
                replace h := h.2
                refine q_cVv (as := [.ref (P43 a0 0)]) (st := []) (r := P43 a0 2) C mv_X3_remember ml_RX9_103 dX9_relaxed_143 rfl s44 rfl (Nat.le_of_ble_eq_true rfl) ⟨Nat.le_refl _, Nat.le_refl _⟩ h (fun I45 L46 P47 h => ?_)
                refine q_aload_n C dX9_relaxed_146 rfl ?_
                refine q_getI C fl_RX9_64 rfl s3 dX9_relaxed_147 ?_
                exact q_iret C hk dX9_relaxed_150 ⟨rfl, h⟩
        · replace h := h.2 c11
          refine q_iconst (v := 1) C dX9_relaxed_37 (by decide) ?_
          refine q_goto (tgt := 42) C dX9_relaxed_38 (by decide) ?_
          refine q_istore_n (lo1 := [some (.ref a0), some (.int x1), some (.int 1)]) C dX9_relaxed_42 (by decide) rfl ?_
          refine q_aload_n C dX9_relaxed_43 rfl ?_
          refine q_getI C fl_RX9_64 rfl s3 dX9_relaxed_44 ?_
          refine q_bipush (v := (-4)) C dX9_relaxed_47 (by decide) ?_
          refine q_icmp_ne (tgt := 77) C dX9_relaxed_49 (by decide) (fun c48 => ?_) (fun c48 => ?_)
          · replace h := h.1 c48
            refine q_aload_n C dX9_relaxed_77 rfl ?_
            refine q_getI C fl_RX9_64 rfl s3 dX9_relaxed_78 ?_
            refine q_bipush (v := (-2)) C dX9_relaxed_81 (by decide) ?_
            refine q_icmp_eq (tgt := 146) C dX9_relaxed_83 (by decide) (fun c49 => ?_) (fun c49 => ?_)
            · replace h := h.1 c49
              refine q_aload_n C dX9_relaxed_146 rfl ?_
              refine q_getI C fl_RX9_64 rfl s3 dX9_relaxed_147 ?_
              exact q_iret C hk dX9_relaxed_150 ⟨rfl, h⟩
            · replace h := h.2 c49
              refine q_iload_n C dX9_relaxed_86 rfl ?_
              refine q_iconst (v := 1) C dX9_relaxed_87 (by decide) ?_
              refine q_icmp_ne (tgt := 146) C dX9_relaxed_88 (by decide) (fun c50 => ?_) (fun c50 => ?_)
              · replace h := h.1 c50
                refine q_aload_n C dX9_relaxed_146 rfl ?_
                refine q_getI C fl_RX9_64 rfl s3 dX9_relaxed_147 ?_
                exact q_iret C hk dX9_relaxed_150 ⟨rfl, h⟩
              · replace h := h.2 c50
                refine q_aload_n C dX9_relaxed_91 rfl ?_
                refine q_getP C fl_RX9_10 rfl s3 dX9_relaxed_92 ?_
                have s51 := h.1
                replace h := h.2
                refine q_getP C fl_RX9_68 rfl s51 dX9_relaxed_95 ?_
                refine q_aload_n C dX9_relaxed_98 rfl ?_
                refine q_getI C fl_RX9_64 rfl s3 dX9_relaxed_99 ?_
                refine q_bipush (v := 10) C dX9_relaxed_102 (by decide) ?_
                refine q_idiv C dX9_relaxed_104 (by decide) ?_
                have s52 := h.1
                replace h := h.2
                refine q_putI C fl_RX9_111 (fun T hT => by cases hT; rfl) rfl s52 dX9_relaxed_105 (fun I53 eI53 => ?_)
                replace h := h I53 eI53
                refine q_aload_n C dX9_relaxed_108 rfl ?_
                refine q_getP C fl_RX9_10 rfl s3 dX9_relaxed_109 ?_
                refine q_getP C fl_RX9_68 rfl s51 dX9_relaxed_112 ?_
                refine q_aload_n C dX9_relaxed_115 rfl ?_
                refine q_getI C fl_RX9_64 rfl s3 dX9_relaxed_116 ?_
                refine q_bipush (v := 10) C dX9_relaxed_119 (by decide) ?_
                refine q_irem C dX9_relaxed_121 (by decide) ?_
                refine q_putI C fl_RX9_114 (fun T hT => by cases hT; rfl) rfl s52 dX9_relaxed_122 (fun I54 eI54 => ?_)
                replace h := h I54 eI54
                refine q_aload_n C dX9_relaxed_125 rfl ?_
                refine q_getP C fl_RX9_10 rfl s3 dX9_relaxed_126 ?_
                refine q_getP C fl_RX9_97 rfl s51 dX9_relaxed_129 ?_
                have s55 := h.1
                replace h := h.2
                refine q_cVv (as := []) (st := []) (r := P10 (P10 a0 0) 1) C mv_X1_drop ml_RX9_100 dX9_relaxed_132 rfl s55 rfl (Nat.le_of_ble_eq_true rfl) ⟨Nat.le_refl _, Nat.le_refl _⟩ h (fun I56 L57 P58 h => ?_)
                refine q_aload_n C dX9_relaxed_135 rfl ?_
                refine q_getP C fl_RX9_22 rfl s3 dX9_relaxed_136 ?_
                refine q_aload_n C dX9_relaxed_139 rfl ?_
                refine q_getP C fl_RX9_10 rfl s3 dX9_relaxed_140 ?_
                have s59 := h.1
                replace h := h.2
                refine q_cVv (as := [.ref (P58 a0 0)]) (st := []) (r := P58 a0 2) C mv_X3_remember ml_RX9_103 dX9_relaxed_143 rfl s59 rfl (Nat.le_of_ble_eq_true rfl) ⟨Nat.le_refl _, Nat.le_refl _⟩ h (fun I60 L61 P62 h => ?_)
                refine q_aload_n C dX9_relaxed_146 rfl ?_
                refine q_getI C fl_RX9_64 rfl s3 dX9_relaxed_147 ?_
                exact q_iret C hk dX9_relaxed_150 ⟨rfl, h⟩
          · replace h := h.2 c48
            refine q_aload_n C dX9_relaxed_52 rfl ?_
            refine q_iload_n C dX9_relaxed_53 rfl ?_
            refine q_if_eq (tgt := 64) C dX9_relaxed_54 (by decide) (fun c => absurd c (by decide)) (fun _ => ?_)
            refine q_aload_n C dX9_relaxed_57 rfl ?_
            refine q_cVi (as := []) (st := [.ref a0]) (r := a0) C mv_X9_searchLevels ml_RX9_204 dX9_relaxed_58 rfl s3 rfl (Nat.le_of_ble_eq_true rfl) ⟨Nat.le_refl _, Nat.le_refl _⟩ h (fun r63 I64 L65 P66 h => ?_)
            refine q_goto (tgt := 74) C dX9_relaxed_61 (by decide) ?_
            refine q_putI C fl_RX9_64 (fun T hT => by cases hT; rfl) rfl s3 dX9_relaxed_74 (fun I67 eI67 => ?_)
            replace h := h I67 eI67
            refine q_aload_n C dX9_relaxed_77 rfl ?_
            refine q_getI C fl_RX9_64 rfl s3 dX9_relaxed_78 ?_
            refine q_bipush (v := (-2)) C dX9_relaxed_81 (by decide) ?_
            refine q_icmp_eq (tgt := 146) C dX9_relaxed_83 (by decide) (fun c68 => ?_) (fun c68 => ?_)
            · replace h := h.1 c68
              refine q_aload_n C dX9_relaxed_146 rfl ?_
              refine q_getI C fl_RX9_64 rfl s3 dX9_relaxed_147 ?_
              exact q_iret C hk dX9_relaxed_150 ⟨rfl, h⟩
            · replace h := h.2 c68
              refine q_iload_n C dX9_relaxed_86 rfl ?_
              refine q_iconst (v := 1) C dX9_relaxed_87 (by decide) ?_
              refine q_icmp_ne (tgt := 146) C dX9_relaxed_88 (by decide) (fun c69 => ?_) (fun c69 => ?_)
              · replace h := h.1 c69
                refine q_aload_n C dX9_relaxed_146 rfl ?_
                refine q_getI C fl_RX9_64 rfl s3 dX9_relaxed_147 ?_
                exact q_iret C hk dX9_relaxed_150 ⟨rfl, h⟩
              · replace h := h.2 c69
                refine q_aload_n C dX9_relaxed_91 rfl ?_
                refine q_getP C fl_RX9_10 rfl s3 dX9_relaxed_92 ?_
                have s70 := h.1
                replace h := h.2
                refine q_getP C fl_RX9_68 rfl s70 dX9_relaxed_95 ?_
                refine q_aload_n C dX9_relaxed_98 rfl ?_
                refine q_getI C fl_RX9_64 rfl s3 dX9_relaxed_99 ?_
                refine q_bipush (v := 10) C dX9_relaxed_102 (by decide) ?_
                refine q_idiv C dX9_relaxed_104 (by decide) ?_
                have s71 := h.1
                replace h := h.2
                refine q_putI C fl_RX9_111 (fun T hT => by cases hT; rfl) rfl s71 dX9_relaxed_105 (fun I72 eI72 => ?_)
                replace h := h I72 eI72
                refine q_aload_n C dX9_relaxed_108 rfl ?_
                refine q_getP C fl_RX9_10 rfl s3 dX9_relaxed_109 ?_
                refine q_getP C fl_RX9_68 rfl s70 dX9_relaxed_112 ?_
                refine q_aload_n C dX9_relaxed_115 rfl ?_
                refine q_getI C fl_RX9_64 rfl s3 dX9_relaxed_116 ?_
                refine q_bipush (v := 10) C dX9_relaxed_119 (by decide) ?_
                refine q_irem C dX9_relaxed_121 (by decide) ?_
                refine q_putI C fl_RX9_114 (fun T hT => by cases hT; rfl) rfl s71 dX9_relaxed_122 (fun I73 eI73 => ?_)
                replace h := h I73 eI73
                refine q_aload_n C dX9_relaxed_125 rfl ?_
                refine q_getP C fl_RX9_10 rfl s3 dX9_relaxed_126 ?_
                refine q_getP C fl_RX9_97 rfl s70 dX9_relaxed_129 ?_
                have s74 := h.1
                replace h := h.2
                refine q_cVv (as := []) (st := []) (r := P66 (P66 a0 0) 1) C mv_X1_drop ml_RX9_100 dX9_relaxed_132 rfl s74 rfl (Nat.le_of_ble_eq_true rfl) ⟨Nat.le_refl _, Nat.le_refl _⟩ h (fun I75 L76 P77 h => ?_)
                refine q_aload_n C dX9_relaxed_135 rfl ?_
                refine q_getP C fl_RX9_22 rfl s3 dX9_relaxed_136 ?_
                refine q_aload_n C dX9_relaxed_139 rfl ?_
                refine q_getP C fl_RX9_10 rfl s3 dX9_relaxed_140 ?_
                have s78 := h.1
                replace h := h.2
                refine q_cVv (as := [.ref (P77 a0 0)]) (st := []) (r := P77 a0 2) C mv_X3_remember ml_RX9_103 dX9_relaxed_143 rfl s78 rfl (Nat.le_of_ble_eq_true rfl) ⟨Nat.le_refl _, Nat.le_refl _⟩ h (fun I79 L80 P81 h => ?_)
                refine q_aload_n C dX9_relaxed_146 rfl ?_
                refine q_getI C fl_RX9_64 rfl s3 dX9_relaxed_147 ?_
                exact q_iret C hk dX9_relaxed_150 ⟨rfl, h⟩
      · replace h := h.2 c6
        refine q_bipush (v := (-5)) C dX9_relaxed_25 (by decide) ?_
        exact q_iret C hk dX9_relaxed_27 ⟨rfl, h⟩
    · replace h := h.2 c2
      refine q_iconst (v := (-1)) C dX9_relaxed_9 (by decide) ?_
      exact q_iret C hk dX9_relaxed_10 ⟨rfl, h⟩
theorem sp_X9_relaxed {d : Nat} {sh : List qSh} {K : Option Value → qMI → qML → qMP → Prop} {a0 : Nat} {x1 : Int32} {I : qMI} {L : qML} {P : qMP} (h0 : vc_X9_relaxed_0 d sh K a0 x1 I L P) : Sq (d + 1) mX9_relaxed sh [.ref a0, .int x1] I L P K := by
  refine Sq_of (by decide +kernel) (Nat.le_of_ble_eq_true rfl) (fun X C hk hn => ?_)
  exact rg_X9_relaxed_0 C hk h0
/-! BracketDraws.play()I -/
def vc_X9_play_0 (d : Nat) (sh : List qSh) (K : Option Value → qMI → qML → qMP → Prop) (a0 : Nat) (I : qMI) (L : qML) (P : qMP) : Prop :=
  ((shp sh a0).1 = 9) ∧ (((shp sh (P a0 0)).1 = 6) ∧ (((shp sh (P (P a0 0) 1)).1 = 1) ∧ (Sq d mX1_canGoOn sh [.ref (P (P a0 0) 1)] I L P (KI fun r4 I5 L6 P7 => ((¬ r4 = 0) → (((shp sh (P7 a0 0)).1 = 6) ∧ (((shp sh (P7 (P7 a0 0) 1)).1 = 1) ∧ (Sq d mX1_goOn sh [.ref (P7 (P7 a0 0) 1), .ref (P7 (P7 a0 0) 0)] I5 L6 P7 (KV fun I11 L12 P13 => ((shp sh (P13 a0 2)).1 = 3) ∧ (Sq d mX3_remember sh [.ref (P13 a0 2), .ref (P13 a0 0)] I11 L12 P13 (KV fun I15 L16 P17 => ((shp sh (P17 a0 0)).1 = 6) ∧ (((shp sh (P17 (P17 a0 0) 1)).1 = 1) ∧ (K (some (.int (I15 (P17 (P17 a0 0) 1) 4))) I15 L16 P17))))))))) ∧ ((r4 = 0) → (K (some (.int ((-5)))) I5 L6 P7))))))
set_option maxRecDepth 100000 in
set_option maxHeartbeats 4000000 in
theorem rg_X9_play_0 {X : qCT} {d : Nat} {sh : List qSh} {K : Option Value → qMI → qML → qMP → Prop} {a0 : Nat} {I : qMI} {L : qML} {P : qMP} (C : qCB X RX9 cX9_play 1 (d + 1) 0 0) (hk : qCK X (some .int) 0 0 (fun v sh' I' L' P' => sh' = sh ∧ K v I' L' P')) (h : vc_X9_play_0 d sh K a0 I L P) : qG X 0 [some (.ref a0)] [] sh I L P 0 0 := by
  unfold vc_X9_play_0 at h
  refine q_aload_n C dX9_play_0 rfl ?_
  have s1 := h.1
  replace h := h.2
  refine q_getP C fl_RX9_10 rfl s1 dX9_play_1 ?_
  have s2 := h.1
  replace h := h.2
  refine q_getP C fl_RX9_97 rfl s2 dX9_play_4 ?_
  have s3 := h.1
  replace h := h.2
  refine q_cVi (as := []) (st := []) (r := P (P a0 0) 1) C mv_X1_canGoOn ml_RX9_210 dX9_play_7 rfl s3 rfl (Nat.le_of_ble_eq_true rfl) ⟨Nat.le_refl _, Nat.le_refl _⟩ h (fun r4 I5 L6 P7 h => ?_)
  refine q_if_ne (tgt := 16) C dX9_play_10 (by decide) (fun c8 => ?_) (fun c8 => ?_)
  · replace h := h.1 c8
    refine q_aload_n C dX9_play_16 rfl ?_
    refine q_getP C fl_RX9_10 rfl s1 dX9_play_17 ?_
    have s9 := h.1
    replace h := h.2
    refine q_getP C fl_RX9_97 rfl s9 dX9_play_20 ?_
    refine q_aload_n C dX9_play_23 rfl ?_
    refine q_getP C fl_RX9_10 rfl s1 dX9_play_24 ?_
    refine q_getP C fl_RX9_68 rfl s9 dX9_play_27 ?_
    have s10 := h.1
    replace h := h.2
    refine q_cVv (as := [.ref (P7 (P7 a0 0) 0)]) (st := []) (r := P7 (P7 a0 0) 1) C mv_X1_goOn ml_RX9_214 dX9_play_30 rfl s10 rfl (Nat.le_of_ble_eq_true rfl) ⟨Nat.le_refl _, Nat.le_refl _⟩ h (fun I11 L12 P13 h => ?_)
    refine q_aload_n C dX9_play_33 rfl ?_
    refine q_getP C fl_RX9_22 rfl s1 dX9_play_34 ?_
    refine q_aload_n C dX9_play_37 rfl ?_
    refine q_getP C fl_RX9_10 rfl s1 dX9_play_38 ?_
    have s14 := h.1
    replace h := h.2
    refine q_cVv (as := [.ref (P13 a0 0)]) (st := []) (r := P13 a0 2) C mv_X3_remember ml_RX9_103 dX9_play_41 rfl s14 rfl (Nat.le_of_ble_eq_true rfl) ⟨Nat.le_refl _, Nat.le_refl _⟩ h (fun I15 L16 P17 h => ?_)
    refine q_aload_n C dX9_play_44 rfl ?_
    refine q_getP C fl_RX9_10 rfl s1 dX9_play_45 ?_
    have s18 := h.1
    replace h := h.2
    refine q_getP C fl_RX9_97 rfl s18 dX9_play_48 ?_
    have s19 := h.1
    replace h := h.2
    refine q_getI C fl_RX9_217 rfl s19 dX9_play_51 ?_
    exact q_iret C hk dX9_play_54 ⟨rfl, h⟩
  · replace h := h.2 c8
    refine q_bipush (v := (-5)) C dX9_play_13 (by decide) ?_
    exact q_iret C hk dX9_play_15 ⟨rfl, h⟩
theorem sp_X9_play {d : Nat} {sh : List qSh} {K : Option Value → qMI → qML → qMP → Prop} {a0 : Nat} {I : qMI} {L : qML} {P : qMP} (h0 : vc_X9_play_0 d sh K a0 I L P) : Sq (d + 1) mX9_play sh [.ref a0] I L P K := by
  refine Sq_of (by decide +kernel) (Nat.le_of_ble_eq_true rfl) (fun X C hk hn => ?_)
  exact rg_X9_play_0 C hk h0
/-! BracketDraws.byHand(I)I -/
def vc_X9_byHand_0 (d : Nat) (sh : List qSh) (K : Option Value → qMI → qML → qMP → Prop) (a0 : Nat) (x1 : Int32) (I : qMI) (L : qML) (P : qMP) : Prop :=
  ((shp sh a0).1 = 9) ∧ (((shp sh (P a0 0)).1 = 6) ∧ (((shp sh (P (P a0 0) 0)).1 = 2) ∧ (Sq d mX2_has sh [.ref (P (P a0 0) 0), .int x1] I L P (KI fun r4 I5 L6 P7 => ((¬ r4 = 0) → (((shp sh (P7 a0 0)).1 = 6) ∧ (((shp sh (P7 (P7 a0 0) 1)).1 = 1) ∧ (Sq d mX1_canGoOn sh [.ref (P7 (P7 a0 0) 1)] I5 L6 P7 (KI fun r11 I12 L13 P14 => ((r11 = 0) → (K (some (.int ((-5)))) I12 L13 P14)) ∧ ((¬ r11 = 0) → (((shp sh (P14 a0 0)).1 = 6) ∧ (((shp sh (P14 (P14 a0 0) 1)).1 = 1) ∧ (Sq d mX1_isIn sh [.ref (P14 (P14 a0 0) 1), .int x1, .int (I12 (P14 (P14 a0 0) 1) 4)] I12 L13 P14 (KI fun r18 I19 L20 P21 => ((¬ r18 = 0) → (((shp sh (P21 a0 0)).1 = 6) ∧ (((shp sh (P21 (P21 a0 0) 1)).1 = 1) ∧ (Sq d mX1_favour sh [.ref (P21 (P21 a0 0) 1), .int x1] I19 L20 P21 (KV fun I25 L26 P27 => ((shp sh (P27 a0 2)).1 = 3) ∧ (Sq d mX3_remember sh [.ref (P27 a0 2), .ref (P27 a0 0)] I25 L26 P27 (KV fun I29 L30 P31 => ((shp sh (P31 a0 0)).1 = 6) ∧ (((shp sh (P31 (P31 a0 0) 1)).1 = 1) ∧ (Sq d mX1_opponent sh [.ref (P31 (P31 a0 0) 1), .int x1, .int ((I29 (P31 (P31 a0 0) 1) 4) + 1)] I29 L30 P31 (KI fun r34 I35 L36 P37 => K (some (.int r34)) I35 L36 P37)))))))))) ∧ ((r18 = 0) → (K (some (.int ((-5)))) I19 L20 P21)))))))))))) ∧ ((r4 = 0) → (K (some (.int ((-1)))) I5 L6 P7))))))
set_option maxRecDepth 100000 in
set_option maxHeartbeats 4000000 in
theorem rg_X9_byHand_0 {X : qCT} {d : Nat} {sh : List qSh} {K : Option Value → qMI → qML → qMP → Prop} {a0 : Nat} {x1 : Int32} {I : qMI} {L : qML} {P : qMP} (C : qCB X RX9 cX9_byHand 2 (d + 1) 0 0) (hk : qCK X (some .int) 0 0 (fun v sh' I' L' P' => sh' = sh ∧ K v I' L' P')) (h : vc_X9_byHand_0 d sh K a0 x1 I L P) : qG X 0 [some (.ref a0), some (.int x1)] [] sh I L P 0 0 := by
  unfold vc_X9_byHand_0 at h
  refine q_aload_n C dX9_byHand_0 rfl ?_
  have s1 := h.1
  replace h := h.2
  refine q_getP C fl_RX9_10 rfl s1 dX9_byHand_1 ?_
  have s2 := h.1
  replace h := h.2
  refine q_getP C fl_RX9_68 rfl s2 dX9_byHand_4 ?_
  refine q_iload_n C dX9_byHand_7 rfl ?_
  have s3 := h.1
  replace h := h.2
  refine q_cVi (as := [.int x1]) (st := []) (r := P (P a0 0) 0) C mv_X2_has ml_RX9_85 dX9_byHand_8 rfl s3 rfl (Nat.le_of_ble_eq_true rfl) ⟨Nat.le_refl _, Nat.le_refl _⟩ h (fun r4 I5 L6 P7 h => ?_)
  refine q_if_ne (tgt := 16) C dX9_byHand_11 (by decide) (fun c8 => ?_) (fun c8 => ?_)
  · replace h := h.1 c8
    refine q_aload_n C dX9_byHand_16 rfl ?_
    refine q_getP C fl_RX9_10 rfl s1 dX9_byHand_17 ?_
    have s9 := h.1
    replace h := h.2
    refine q_getP C fl_RX9_97 rfl s9 dX9_byHand_20 ?_
    have s10 := h.1
    replace h := h.2
    refine q_cVi (as := []) (st := []) (r := P7 (P7 a0 0) 1) C mv_X1_canGoOn ml_RX9_210 dX9_byHand_23 rfl s10 rfl (Nat.le_of_ble_eq_true rfl) ⟨Nat.le_refl _, Nat.le_refl _⟩ h (fun r11 I12 L13 P14 h => ?_)
    refine q_if_eq (tgt := 53) C dX9_byHand_26 (by decide) (fun c15 => ?_) (fun c15 => ?_)
    · replace h := h.1 c15
      refine q_bipush (v := (-5)) C dX9_byHand_53 (by decide) ?_
      exact q_iret C hk dX9_byHand_55 ⟨rfl, h⟩
    · replace h := h.2 c15
      refine q_aload_n C dX9_byHand_29 rfl ?_
      refine q_getP C fl_RX9_10 rfl s1 dX9_byHand_30 ?_
      have s16 := h.1
      replace h := h.2
      refine q_getP C fl_RX9_97 rfl s16 dX9_byHand_33 ?_
      refine q_iload_n C dX9_byHand_36 rfl ?_
      refine q_aload_n C dX9_byHand_37 rfl ?_
      refine q_getP C fl_RX9_10 rfl s1 dX9_byHand_38 ?_
      refine q_getP C fl_RX9_97 rfl s16 dX9_byHand_41 ?_
      have s17 := h.1
      replace h := h.2
      refine q_getI C fl_RX9_217 rfl s17 dX9_byHand_44 ?_
      refine q_cVi (as := [.int x1, .int (I12 (P14 (P14 a0 0) 1) 4)]) (st := []) (r := P14 (P14 a0 0) 1) C mv_X1_isIn ml_RX9_220 dX9_byHand_47 rfl s17 rfl (Nat.le_of_ble_eq_true rfl) ⟨Nat.le_refl _, Nat.le_refl _⟩ h (fun r18 I19 L20 P21 h => ?_)
      refine q_if_ne (tgt := 56) C dX9_byHand_50 (by decide) (fun c22 => ?_) (fun c22 => ?_)
      · replace h := h.1 c22
        refine q_aload_n C dX9_byHand_56 rfl ?_
        refine q_getP C fl_RX9_10 rfl s1 dX9_byHand_57 ?_
        have s23 := h.1
        replace h := h.2
        refine q_getP C fl_RX9_97 rfl s23 dX9_byHand_60 ?_
        refine q_iload_n C dX9_byHand_63 rfl ?_
        have s24 := h.1
        replace h := h.2
        refine q_cVv (as := [.int x1]) (st := []) (r := P21 (P21 a0 0) 1) C mv_X1_favour ml_RX9_223 dX9_byHand_64 rfl s24 rfl (Nat.le_of_ble_eq_true rfl) ⟨Nat.le_refl _, Nat.le_refl _⟩ h (fun I25 L26 P27 h => ?_)
        refine q_aload_n C dX9_byHand_67 rfl ?_
        refine q_getP C fl_RX9_22 rfl s1 dX9_byHand_68 ?_
        refine q_aload_n C dX9_byHand_71 rfl ?_
        refine q_getP C fl_RX9_10 rfl s1 dX9_byHand_72 ?_
        have s28 := h.1
        replace h := h.2
        refine q_cVv (as := [.ref (P27 a0 0)]) (st := []) (r := P27 a0 2) C mv_X3_remember ml_RX9_103 dX9_byHand_75 rfl s28 rfl (Nat.le_of_ble_eq_true rfl) ⟨Nat.le_refl _, Nat.le_refl _⟩ h (fun I29 L30 P31 h => ?_)
        refine q_aload_n C dX9_byHand_78 rfl ?_
        refine q_getP C fl_RX9_10 rfl s1 dX9_byHand_79 ?_
        have s32 := h.1
        replace h := h.2
        refine q_getP C fl_RX9_97 rfl s32 dX9_byHand_82 ?_
        refine q_iload_n C dX9_byHand_85 rfl ?_
        refine q_aload_n C dX9_byHand_86 rfl ?_
        refine q_getP C fl_RX9_10 rfl s1 dX9_byHand_87 ?_
        refine q_getP C fl_RX9_97 rfl s32 dX9_byHand_90 ?_
        have s33 := h.1
        replace h := h.2
        refine q_getI C fl_RX9_217 rfl s33 dX9_byHand_93 ?_
        refine q_iconst (v := 1) C dX9_byHand_96 (by decide) ?_
        refine q_iadd C dX9_byHand_97 ?_
        refine q_cVi (as := [.int x1, .int ((I29 (P31 (P31 a0 0) 1) 4) + 1)]) (st := []) (r := P31 (P31 a0 0) 1) C mv_X1_opponent ml_RX9_227 dX9_byHand_98 rfl s33 rfl (Nat.le_of_ble_eq_true rfl) ⟨Nat.le_refl _, Nat.le_refl _⟩ h (fun r34 I35 L36 P37 h => ?_)
        exact q_iret C hk dX9_byHand_101 ⟨rfl, h⟩
      · replace h := h.2 c22
        refine q_bipush (v := (-5)) C dX9_byHand_53 (by decide) ?_
        exact q_iret C hk dX9_byHand_55 ⟨rfl, h⟩
  · replace h := h.2 c8
    refine q_iconst (v := (-1)) C dX9_byHand_14 (by decide) ?_
    exact q_iret C hk dX9_byHand_15 ⟨rfl, h⟩
theorem sp_X9_byHand {d : Nat} {sh : List qSh} {K : Option Value → qMI → qML → qMP → Prop} {a0 : Nat} {x1 : Int32} {I : qMI} {L : qML} {P : qMP} (h0 : vc_X9_byHand_0 d sh K a0 x1 I L P) : Sq (d + 1) mX9_byHand sh [.ref a0, .int x1] I L P K := by
  refine Sq_of (by decide +kernel) (Nat.le_of_ble_eq_true rfl) (fun X C hk hn => ?_)
  exact rg_X9_byHand_0 C hk h0
/-! BracketDraws.through(II)I -/
def vc_X9_through_0 (d : Nat) (sh : List qSh) (K : Option Value → qMI → qML → qMP → Prop) (a0 : Nat) (x1 : Int32) (x2 : Int32) (I : qMI) (L : qML) (P : qMP) : Prop :=
  ((shp sh a0).1 = 9) ∧ (((shp sh (P a0 0)).1 = 6) ∧ (((shp sh (P (P a0 0) 0)).1 = 2) ∧ (Sq d mX2_hasRound sh [.ref (P (P a0 0) 0), .int x1] I L P (KI fun r4 I5 L6 P7 => ((r4 = 0) → (K (some (.int ((-1)))) I5 L6 P7)) ∧ ((¬ r4 = 0) → (((x2 < 0) → (K (some (.int ((-1)))) I5 L6 P7)) ∧ ((¬ x2 < 0) → (((shp sh (P7 a0 0)).1 = 6) ∧ (((shp sh (P7 (P7 a0 0) 0)).1 = 2) ∧ (Sq d mX2_slots sh [.ref (P7 (P7 a0 0) 0)] I5 L6 P7 (KI fun r12 I13 L14 P15 => ((x2 < (r12 >>> (x1 &&& 31))) → (((shp sh (P15 a0 0)).1 = 6) ∧ (((shp sh (P15 (P15 a0 0) 1)).1 = 1) ∧ (((¬ (I13 (P15 (P15 a0 0) 1) 0) = 0) → (((x1 ≤ (I13 (P15 (P15 a0 0) 1) 4)) → (Sq d mX1_cameThrough sh [.ref (P15 (P15 a0 0) 1), .int x1, .int x2] I13 L14 P15 (KI fun r21 I22 L23 P24 => K (some (.int r21)) I22 L23 P24))) ∧ ((¬ x1 ≤ (I13 (P15 (P15 a0 0) 1) 4)) → (K (some (.int ((-2)))) I13 L14 P15)))) ∧ (((I13 (P15 (P15 a0 0) 1) 0) = 0) → (K (some (.int ((-5)))) I13 L14 P15)))))) ∧ ((¬ x2 < (r12 >>> (x1 &&& 31))) → (K (some (.int ((-1)))) I13 L14 P15)))))))))))))
set_option maxRecDepth 100000 in
set_option maxHeartbeats 4000000 in
theorem rg_X9_through_0 {X : qCT} {d : Nat} {sh : List qSh} {K : Option Value → qMI → qML → qMP → Prop} {a0 : Nat} {x1 : Int32} {x2 : Int32} {I : qMI} {L : qML} {P : qMP} (C : qCB X RX9 cX9_through 3 (d + 1) 0 0) (hk : qCK X (some .int) 0 0 (fun v sh' I' L' P' => sh' = sh ∧ K v I' L' P')) (h : vc_X9_through_0 d sh K a0 x1 x2 I L P) : qG X 0 [some (.ref a0), some (.int x1), some (.int x2)] [] sh I L P 0 0 := by
  unfold vc_X9_through_0 at h
  refine q_aload_n C dX9_through_0 rfl ?_
  have s1 := h.1
  replace h := h.2
  refine q_getP C fl_RX9_10 rfl s1 dX9_through_1 ?_
  have s2 := h.1
  replace h := h.2
  refine q_getP C fl_RX9_68 rfl s2 dX9_through_4 ?_
  refine q_iload_n C dX9_through_7 rfl ?_
  have s3 := h.1
  replace h := h.2
  refine q_cVi (as := [.int x1]) (st := []) (r := P (P a0 0) 0) C mv_X2_hasRound ml_RX9_161 dX9_through_8 rfl s3 rfl (Nat.le_of_ble_eq_true rfl) ⟨Nat.le_refl _, Nat.le_refl _⟩ h (fun r4 I5 L6 P7 h => ?_)
  refine q_if_eq (tgt := 34) C dX9_through_11 (by decide) (fun c8 => ?_) (fun c8 => ?_)
  · replace h := h.1 c8
    refine q_iconst (v := (-1)) C dX9_through_34 (by decide) ?_
    exact q_iret C hk dX9_through_35 ⟨rfl, h⟩
  · replace h := h.2 c8
    refine q_iload_n C dX9_through_14 rfl ?_
    refine q_if_lt (tgt := 34) C dX9_through_15 (by decide) (fun c9 => ?_) (fun c9 => ?_)
    · replace h := h.1 c9
      refine q_iconst (v := (-1)) C dX9_through_34 (by decide) ?_
      exact q_iret C hk dX9_through_35 ⟨rfl, h⟩
    · replace h := h.2 c9
      refine q_iload_n C dX9_through_18 rfl ?_
      refine q_aload_n C dX9_through_19 rfl ?_
      refine q_getP C fl_RX9_10 rfl s1 dX9_through_20 ?_
      have s10 := h.1
      replace h := h.2
      refine q_getP C fl_RX9_68 rfl s10 dX9_through_23 ?_
      have s11 := h.1
      replace h := h.2
      refine q_cVi (as := []) (st := [.int x2]) (r := P7 (P7 a0 0) 0) C mv_X2_slots ml_RX9_230 dX9_through_26 rfl s11 rfl (Nat.le_of_ble_eq_true rfl) ⟨Nat.le_refl _, Nat.le_refl _⟩ h (fun r12 I13 L14 P15 h => ?_)
      refine q_iload_n C dX9_through_29 rfl ?_
      refine q_ishr C dX9_through_30 ?_
      refine q_icmp_lt (tgt := 36) C dX9_through_31 (by decide) (fun c16 => ?_) (fun c16 => ?_)
      · replace h := h.1 c16
        refine q_aload_n C dX9_through_36 rfl ?_
        refine q_getP C fl_RX9_10 rfl s1 dX9_through_37 ?_
        have s17 := h.1
        replace h := h.2
        refine q_getP C fl_RX9_97 rfl s17 dX9_through_40 ?_
        have s18 := h.1
        replace h := h.2
        refine q_getI C fl_RX9_183 rfl s18 dX9_through_43 ?_
        refine q_if_ne (tgt := 52) C dX9_through_46 (by decide) (fun c19 => ?_) (fun c19 => ?_)
        · replace h := h.1 c19
          refine q_iload_n C dX9_through_52 rfl ?_
          refine q_aload_n C dX9_through_53 rfl ?_
          refine q_getP C fl_RX9_10 rfl s1 dX9_through_54 ?_
          refine q_getP C fl_RX9_97 rfl s17 dX9_through_57 ?_
          refine q_getI C fl_RX9_217 rfl s18 dX9_through_60 ?_
          refine q_icmp_le (tgt := 71) C dX9_through_63 (by decide) (fun c20 => ?_) (fun c20 => ?_)
          · replace h := h.1 c20
            refine q_aload_n C dX9_through_71 rfl ?_
            refine q_getP C fl_RX9_10 rfl s1 dX9_through_72 ?_
            refine q_getP C fl_RX9_97 rfl s17 dX9_through_75 ?_
            refine q_iload_n C dX9_through_78 rfl ?_
            refine q_iload_n C dX9_through_79 rfl ?_
            refine q_cVi (as := [.int x1, .int x2]) (st := []) (r := P15 (P15 a0 0) 1) C mv_X1_cameThrough ml_RX9_233 dX9_through_80 rfl s18 rfl (Nat.le_of_ble_eq_true rfl) ⟨Nat.le_refl _, Nat.le_refl _⟩ h (fun r21 I22 L23 P24 h => ?_)
            exact q_iret C hk dX9_through_83 ⟨rfl, h⟩
          · replace h := h.2 c20
            refine q_bipush (v := (-2)) C dX9_through_66 (by decide) ?_
            refine q_goto (tgt := 83) C dX9_through_68 (by decide) ?_
            exact q_iret C hk dX9_through_83 ⟨rfl, h⟩
        · replace h := h.2 c19
          refine q_bipush (v := (-5)) C dX9_through_49 (by decide) ?_
          exact q_iret C hk dX9_through_51 ⟨rfl, h⟩
      · replace h := h.2 c16
        refine q_iconst (v := (-1)) C dX9_through_34 (by decide) ?_
        exact q_iret C hk dX9_through_35 ⟨rfl, h⟩
theorem sp_X9_through {d : Nat} {sh : List qSh} {K : Option Value → qMI → qML → qMP → Prop} {a0 : Nat} {x1 : Int32} {x2 : Int32} {I : qMI} {L : qML} {P : qMP} (h0 : vc_X9_through_0 d sh K a0 x1 x2 I L P) : Sq (d + 1) mX9_through sh [.ref a0, .int x1, .int x2] I L P K := by
  refine Sq_of (by decide +kernel) (Nat.le_of_ble_eq_true rfl) (fun X C hk hn => ?_)
  exact rg_X9_through_0 C hk h0
/-! BracketDraws.met(II)I -/
def vc_X9_met_0 (d : Nat) (sh : List qSh) (K : Option Value → qMI → qML → qMP → Prop) (a0 : Nat) (x1 : Int32) (x2 : Int32) (I : qMI) (L : qML) (P : qMP) : Prop :=
  ((shp sh a0).1 = 9) ∧ (((shp sh (P a0 0)).1 = 6) ∧ (((shp sh (P (P a0 0) 0)).1 = 2) ∧ (Sq d mX2_has sh [.ref (P (P a0 0) 0), .int x1] I L P (KI fun r4 I5 L6 P7 => ((r4 = 0) → (K (some (.int ((-1)))) I5 L6 P7)) ∧ ((¬ r4 = 0) → (((shp sh (P7 a0 0)).1 = 6) ∧ (((shp sh (P7 (P7 a0 0) 0)).1 = 2) ∧ (Sq d mX2_hasRound sh [.ref (P7 (P7 a0 0) 0), .int x2] I5 L6 P7 (KI fun r11 I12 L13 P14 => ((¬ r11 = 0) → (((shp sh (P14 a0 0)).1 = 6) ∧ (((shp sh (P14 (P14 a0 0) 1)).1 = 1) ∧ (((¬ (I12 (P14 (P14 a0 0) 1) 0) = 0) → ((((I12 (P14 (P14 a0 0) 1) 4) < x2) → (K (some (.int ((-2)))) I12 L13 P14)) ∧ ((¬ (I12 (P14 (P14 a0 0) 1) 4) < x2) → (Sq d mX1_isIn sh [.ref (P14 (P14 a0 0) 1), .int x1, .int (x2 - 1)] I12 L13 P14 (KI fun r20 I21 L22 P23 => ((r20 = 0) → (K (some (.int ((-2)))) I21 L22 P23)) ∧ ((¬ r20 = 0) → (Sq d mX1_opponent sh [.ref (P14 (P14 a0 0) 1), .int x1, .int x2] I21 L22 P23 (KI fun r25 I26 L27 P28 => K (some (.int r25)) I26 L27 P28)))))))) ∧ (((I12 (P14 (P14 a0 0) 1) 0) = 0) → (K (some (.int ((-5)))) I12 L13 P14)))))) ∧ ((r11 = 0) → (K (some (.int ((-1)))) I12 L13 P14)))))))))))
set_option maxRecDepth 100000 in
set_option maxHeartbeats 4000000 in
theorem rg_X9_met_0 {X : qCT} {d : Nat} {sh : List qSh} {K : Option Value → qMI → qML → qMP → Prop} {a0 : Nat} {x1 : Int32} {x2 : Int32} {I : qMI} {L : qML} {P : qMP} (C : qCB X RX9 cX9_met 5 (d + 1) 0 0) (hk : qCK X (some .int) 0 0 (fun v sh' I' L' P' => sh' = sh ∧ K v I' L' P')) (h : vc_X9_met_0 d sh K a0 x1 x2 I L P) : qG X 0 [some (.ref a0), some (.int x1), some (.int x2), none, none] [] sh I L P 0 0 := by
  unfold vc_X9_met_0 at h
  refine q_aload_n C dX9_met_0 rfl ?_
  have s1 := h.1
  replace h := h.2
  refine q_getP C fl_RX9_10 rfl s1 dX9_met_1 ?_
  have s2 := h.1
  replace h := h.2
  refine q_getP C fl_RX9_68 rfl s2 dX9_met_4 ?_
  refine q_iload_n C dX9_met_7 rfl ?_
  have s3 := h.1
  replace h := h.2
  refine q_cVi (as := [.int x1]) (st := []) (r := P (P a0 0) 0) C mv_X2_has ml_RX9_85 dX9_met_8 rfl s3 rfl (Nat.le_of_ble_eq_true rfl) ⟨Nat.le_refl _, Nat.le_refl _⟩ h (fun r4 I5 L6 P7 h => ?_)
  refine q_if_eq (tgt := 28) C dX9_met_11 (by decide) (fun c8 => ?_) (fun c8 => ?_)
  · replace h := h.1 c8
    refine q_iconst (v := (-1)) C dX9_met_28 (by decide) ?_
    exact q_iret C hk dX9_met_29 ⟨rfl, h⟩
  · replace h := h.2 c8
    refine q_aload_n C dX9_met_14 rfl ?_
    refine q_getP C fl_RX9_10 rfl s1 dX9_met_15 ?_
    have s9 := h.1
    replace h := h.2
    refine q_getP C fl_RX9_68 rfl s9 dX9_met_18 ?_
    refine q_iload_n C dX9_met_21 rfl ?_
    have s10 := h.1
    replace h := h.2
    refine q_cVi (as := [.int x2]) (st := []) (r := P7 (P7 a0 0) 0) C mv_X2_hasRound ml_RX9_161 dX9_met_22 rfl s10 rfl (Nat.le_of_ble_eq_true rfl) ⟨Nat.le_refl _, Nat.le_refl _⟩ h (fun r11 I12 L13 P14 h => ?_)
    refine q_if_ne (tgt := 30) C dX9_met_25 (by decide) (fun c15 => ?_) (fun c15 => ?_)
    · replace h := h.1 c15
      refine q_aload_n C dX9_met_30 rfl ?_
      refine q_getP C fl_RX9_10 rfl s1 dX9_met_31 ?_
      have s16 := h.1
      replace h := h.2
      refine q_getP C fl_RX9_97 rfl s16 dX9_met_34 ?_
      refine q_astore_n (lo1 := [some (.ref a0), some (.int x1), some (.int x2), some (.ref (P14 (P14 a0 0) 1)), none]) C dX9_met_37 (by decide) rfl ?_
      refine q_aload_n C dX9_met_38 rfl ?_
      have s17 := h.1
      replace h := h.2
      refine q_getI C fl_RX9_183 rfl s17 dX9_met_39 ?_
      refine q_if_ne (tgt := 48) C dX9_met_42 (by decide) (fun c18 => ?_) (fun c18 => ?_)
      · replace h := h.1 c18
        refine q_iload_n C dX9_met_48 rfl ?_
        refine q_aload_n C dX9_met_49 rfl ?_
        refine q_getI C fl_RX9_217 rfl s17 dX9_met_50 ?_
        refine q_icmp_gt (tgt := 71) C dX9_met_53 (by decide) (fun c19 => ?_) (fun c19 => ?_)
        · replace h := h.1 c19
          refine q_iconst (v := 0) C dX9_met_71 (by decide) ?_
          refine q_istore (lo1 := [some (.ref a0), some (.int x1), some (.int x2), some (.ref (P14 (P14 a0 0) 1)), some (.int 0)]) C dX9_met_72 (by decide) rfl ?_
          refine q_iload C dX9_met_74 rfl ?_
          refine q_if_eq (tgt := 88) C dX9_met_76 (by decide) (fun _ => ?_) (fun c => absurd c (by decide))
          refine q_bipush (v := (-2)) C dX9_met_88 (by decide) ?_
          exact q_iret C hk dX9_met_90 ⟨rfl, h⟩
        · replace h := h.2 c19
          refine q_aload_n C dX9_met_56 rfl ?_
          refine q_iload_n C dX9_met_57 rfl ?_
          refine q_iload_n C dX9_met_58 rfl ?_
          refine q_iconst (v := 1) C dX9_met_59 (by decide) ?_
          refine q_isub C dX9_met_60 ?_
          refine q_cVi (as := [.int x1, .int (x2 - 1)]) (st := []) (r := P14 (P14 a0 0) 1) C mv_X1_isIn ml_RX9_220 dX9_met_61 rfl s17 rfl (Nat.le_of_ble_eq_true rfl) ⟨Nat.le_refl _, Nat.le_refl _⟩ h (fun r20 I21 L22 P23 h => ?_)
          refine q_if_eq (tgt := 71) C dX9_met_64 (by decide) (fun c24 => ?_) (fun c24 => ?_)
          · replace h := h.1 c24
            refine q_iconst (v := 0) C dX9_met_71 (by decide) ?_
            refine q_istore (lo1 := [some (.ref a0), some (.int x1), some (.int x2), some (.ref (P14 (P14 a0 0) 1)), some (.int 0)]) C dX9_met_72 (by decide) rfl ?_
            refine q_iload C dX9_met_74 rfl ?_
            refine q_if_eq (tgt := 88) C dX9_met_76 (by decide) (fun _ => ?_) (fun c => absurd c (by decide))
            refine q_bipush (v := (-2)) C dX9_met_88 (by decide) ?_
            exact q_iret C hk dX9_met_90 ⟨rfl, h⟩
          · replace h := h.2 c24
            refine q_iconst (v := 1) C dX9_met_67 (by decide) ?_
            refine q_goto (tgt := 72) C dX9_met_68 (by decide) ?_
            refine q_istore (lo1 := [some (.ref a0), some (.int x1), some (.int x2), some (.ref (P14 (P14 a0 0) 1)), some (.int 1)]) C dX9_met_72 (by decide) rfl ?_
            refine q_iload C dX9_met_74 rfl ?_
            refine q_if_eq (tgt := 88) C dX9_met_76 (by decide) (fun c => absurd c (by decide)) (fun _ => ?_)
            refine q_aload_n C dX9_met_79 rfl ?_
            refine q_iload_n C dX9_met_80 rfl ?_
            refine q_iload_n C dX9_met_81 rfl ?_
            refine q_cVi (as := [.int x1, .int x2]) (st := []) (r := P14 (P14 a0 0) 1) C mv_X1_opponent ml_RX9_227 dX9_met_82 rfl s17 rfl (Nat.le_of_ble_eq_true rfl) ⟨Nat.le_refl _, Nat.le_refl _⟩ h (fun r25 I26 L27 P28 h => ?_)
            refine q_goto (tgt := 90) C dX9_met_85 (by decide) ?_
            exact q_iret C hk dX9_met_90 ⟨rfl, h⟩
      · replace h := h.2 c18
        refine q_bipush (v := (-5)) C dX9_met_45 (by decide) ?_
        exact q_iret C hk dX9_met_47 ⟨rfl, h⟩
    · replace h := h.2 c15
      refine q_iconst (v := (-1)) C dX9_met_28 (by decide) ?_
      exact q_iret C hk dX9_met_29 ⟨rfl, h⟩
theorem sp_X9_met {d : Nat} {sh : List qSh} {K : Option Value → qMI → qML → qMP → Prop} {a0 : Nat} {x1 : Int32} {x2 : Int32} {I : qMI} {L : qML} {P : qMP} (h0 : vc_X9_met_0 d sh K a0 x1 x2 I L P) : Sq (d + 1) mX9_met sh [.ref a0, .int x1, .int x2] I L P K := by
  refine Sq_of (by decide +kernel) (Nat.le_of_ble_eq_true rfl) (fun X C hk hn => ?_)
  exact rg_X9_met_0 C hk h0
/-! BracketDraws.winner()I -/
def vc_X9_winner_0 (d : Nat) (sh : List qSh) (K : Option Value → qMI → qML → qMP → Prop) (T1 : Int32 → qMI → qML → qMP → Prop) (a0 : Nat) (I : qMI) (L : qML) (P : qMP) : Prop :=
  ((shp sh a0).1 = 9) ∧ (((shp sh (P a0 0)).1 = 6) ∧ (((shp sh (P (P a0 0) 1)).1 = 1) ∧ (((¬ (I (P (P a0 0) 1) 0) = 0) → (((shp sh (P a0 8)).1 = 1) ∧ (Sq d mX1_copyFrom sh [.ref (P a0 8), .ref (P (P a0 0) 1)] I L P (KV fun I6 L7 P8 => ((shp sh (P8 a0 8)).1 = 1) ∧ (T1 (I6 (P8 a0 8) 4) I6 L7 P8))))) ∧ (((I (P (P a0 0) 1) 0) = 0) → (K (some (.int ((-5)))) I L P)))))
set_option maxRecDepth 100000 in
set_option maxHeartbeats 4000000 in
theorem rg_X9_winner_0 {X : qCT} {d : Nat} {sh : List qSh} {K : Option Value → qMI → qML → qMP → Prop} {T1 : Int32 → qMI → qML → qMP → Prop} {a0 : Nat} {I : qMI} {L : qML} {P : qMP} (C : qCB X RX9 cX9_winner 2 (d + 1) 0 0) (hk : qCK X (some .int) 0 0 (fun v sh' I' L' P' => sh' = sh ∧ K v I' L' P')) (hT1 : ∀ (x1 : Int32) (I : qMI) (L : qML) (P : qMP), T1 x1 I L P → qG X 38 [some (.ref a0), some (.int x1)] [] sh I L P 0 0) (h : vc_X9_winner_0 d sh K T1 a0 I L P) : qG X 0 [some (.ref a0), none] [] sh I L P 0 0 := by
  unfold vc_X9_winner_0 at h
  refine q_aload_n C dX9_winner_0 rfl ?_
  have s1 := h.1
  replace h := h.2
  refine q_getP C fl_RX9_10 rfl s1 dX9_winner_1 ?_
  have s2 := h.1
  replace h := h.2
  refine q_getP C fl_RX9_97 rfl s2 dX9_winner_4 ?_
  have s3 := h.1
  replace h := h.2
  refine q_getI C fl_RX9_183 rfl s3 dX9_winner_7 ?_
  refine q_if_ne (tgt := 16) C dX9_winner_10 (by decide) (fun c4 => ?_) (fun c4 => ?_)
  · replace h := h.1 c4
    refine q_aload_n C dX9_winner_16 rfl ?_
    refine q_getP C fl_RX9_60 rfl s1 dX9_winner_17 ?_
    refine q_aload_n C dX9_winner_20 rfl ?_
    refine q_getP C fl_RX9_10 rfl s1 dX9_winner_21 ?_
    refine q_getP C fl_RX9_97 rfl s2 dX9_winner_24 ?_
    have s5 := h.1
    replace h := h.2
    refine q_cVv (as := [.ref (P (P a0 0) 1)]) (st := []) (r := P a0 8) C mv_X1_copyFrom ml_RX9_236 dX9_winner_27 rfl s5 rfl (Nat.le_of_ble_eq_true rfl) ⟨Nat.le_refl _, Nat.le_refl _⟩ h (fun I6 L7 P8 h => ?_)
    refine q_aload_n C dX9_winner_30 rfl ?_
    refine q_getP C fl_RX9_60 rfl s1 dX9_winner_31 ?_
    have s9 := h.1
    replace h := h.2
    refine q_getI C fl_RX9_217 rfl s9 dX9_winner_34 ?_
    refine q_istore_n (lo1 := [some (.ref a0), some (.int (I6 (P8 a0 8) 4))]) C dX9_winner_37 (by decide) rfl ?_
    exact hT1 _ _ _ _ h
  · replace h := h.2 c4
    refine q_bipush (v := (-5)) C dX9_winner_13 (by decide) ?_
    exact q_iret C hk dX9_winner_15 ⟨rfl, h⟩
def vc_X9_winner_1 (d : Nat) (sh : List qSh) (K : Option Value → qMI → qML → qMP → Prop) (T1 : Int32 → qMI → qML → qMP → Prop) (a0 : Nat) (x1 : Int32) (I : qMI) (L : qML) (P : qMP) : Prop :=
  ((shp sh a0).1 = 9) ∧ (((shp sh (P a0 8)).1 = 1) ∧ ((((I (P a0 8) 3) ≤ x1) → (Sq d mX1_cameThrough sh [.ref (P a0 8), .int (I (P a0 8) 3), .int 0] I L P (KI fun r4 I5 L6 P7 => K (some (.int r4)) I5 L6 P7))) ∧ ((¬ (I (P a0 8) 3) ≤ x1) → (((shp sh (P a0 0)).1 = 6) ∧ (Sq d mX1_goOn sh [.ref (P a0 8), .ref (P (P a0 0) 0)] I L P (KV fun I9 L10 P11 => T1 (x1 + 1) I9 L10 P11))))))
set_option maxRecDepth 100000 in
set_option maxHeartbeats 4000000 in
theorem rg_X9_winner_1 {X : qCT} {d : Nat} {sh : List qSh} {K : Option Value → qMI → qML → qMP → Prop} {T1 : Int32 → qMI → qML → qMP → Prop} {a0 : Nat} {x1 : Int32} {I : qMI} {L : qML} {P : qMP} (C : qCB X RX9 cX9_winner 2 (d + 1) 0 0) (hk : qCK X (some .int) 0 0 (fun v sh' I' L' P' => sh' = sh ∧ K v I' L' P')) (hT1 : ∀ (x1 : Int32) (I : qMI) (L : qML) (P : qMP), T1 x1 I L P → qG X 38 [some (.ref a0), some (.int x1)] [] sh I L P 0 0) (h : vc_X9_winner_1 d sh K T1 a0 x1 I L P) : qG X 38 [some (.ref a0), some (.int x1)] [] sh I L P 0 0 := by
  unfold vc_X9_winner_1 at h
  refine q_iload_n C dX9_winner_38 rfl ?_
  refine q_aload_n C dX9_winner_39 rfl ?_
  have s1 := h.1
  replace h := h.2
  refine q_getP C fl_RX9_60 rfl s1 dX9_winner_40 ?_
  have s2 := h.1
  replace h := h.2
  refine q_getI C fl_RX9_239 rfl s2 dX9_winner_43 ?_
  refine q_icmp_ge (tgt := 69) C dX9_winner_46 (by decide) (fun c3 => ?_) (fun c3 => ?_)
  · replace h := h.1 c3
    refine q_aload_n C dX9_winner_69 rfl ?_
    refine q_getP C fl_RX9_60 rfl s1 dX9_winner_70 ?_
    refine q_aload_n C dX9_winner_73 rfl ?_
    refine q_getP C fl_RX9_60 rfl s1 dX9_winner_74 ?_
    refine q_getI C fl_RX9_239 rfl s2 dX9_winner_77 ?_
    refine q_iconst (v := 0) C dX9_winner_80 (by decide) ?_
    refine q_cVi (as := [.int (I (P a0 8) 3), .int 0]) (st := []) (r := P a0 8) C mv_X1_cameThrough ml_RX9_233 dX9_winner_81 rfl s2 rfl (Nat.le_of_ble_eq_true rfl) ⟨Nat.le_refl _, Nat.le_refl _⟩ h (fun r4 I5 L6 P7 h => ?_)
    exact q_iret C hk dX9_winner_84 ⟨rfl, h⟩
  · replace h := h.2 c3
    refine q_aload_n C dX9_winner_49 rfl ?_
    refine q_getP C fl_RX9_60 rfl s1 dX9_winner_50 ?_
    refine q_aload_n C dX9_winner_53 rfl ?_
    refine q_getP C fl_RX9_10 rfl s1 dX9_winner_54 ?_
    have s8 := h.1
    replace h := h.2
    refine q_getP C fl_RX9_68 rfl s8 dX9_winner_57 ?_
    refine q_cVv (as := [.ref (P (P a0 0) 0)]) (st := []) (r := P a0 8) C mv_X1_goOn ml_RX9_214 dX9_winner_60 rfl s2 rfl (Nat.le_of_ble_eq_true rfl) ⟨Nat.le_refl _, Nat.le_refl _⟩ h (fun I9 L10 P11 h => ?_)
    refine q_iinc (w := 1) (lo1 := [some (.ref a0), some (.int (x1 + 1))]) C dX9_winner_63 rfl (by decide) (by decide) rfl ?_
    refine q_goto (tgt := 38) C dX9_winner_66 (by decide) ?_
    exact hT1 _ _ _ _ h
theorem sp_X9_winner {d : Nat} {sh : List qSh} {K : Option Value → qMI → qML → qMP → Prop} {a0 : Nat} {I : qMI} {L : qML} {P : qMP} (T1 : Int32 → qMI → qML → qMP → Prop) (m1 : Int32 → qMI → qML → qMP → Nat) (h0 : vc_X9_winner_0 d sh K T1 a0 I L P)
    (h1 : ∀ (x1 : Int32) (I : qMI) (L : qML) (P : qMP), T1 x1 I L P → vc_X9_winner_1 d sh K (fun w0 I' L' P' => T1 w0 I' L' P' ∧ m1 w0 I' L' P' < m1 x1 I L P) a0 x1 I L P) : Sq (d + 1) mX9_winner sh [.ref a0] I L P K := by
  refine Sq_of (by decide +kernel) (Nat.le_of_ble_eq_true rfl) (fun X C hk hn => ?_)
  have go : ∀ N : Nat, (∀ (x1 : Int32) (I : qMI) (L : qML) (P : qMP), T1 x1 I L P → m1 x1 I L P < N → qG X 38 [some (.ref a0), some (.int x1)] [] sh I L P 0 0) := by
    intro N
    induction N with
    | zero => exact fun _ _ _ _ _ q => absurd q (Nat.not_lt_zero _)
    | succ N ih =>
      exact fun b0 I1 L1 P1 t q => rg_X9_winner_1 C hk (fun z0 I2 L2 P2 z => ih z0 I2 L2 P2 z.1 (Nat.lt_of_lt_of_le z.2 (Nat.le_of_lt_succ q))) (h1 b0 I1 L1 P1 t)
  exact rg_X9_winner_0 C hk (fun b0 I1 L1 P1 t => (go (m1 b0 I1 L1 P1 + 1)) b0 I1 L1 P1 t (Nat.lt_succ_self _)) h0
/-! BracketDraws.wins(I)J -/
def vc_X9_wins_0 (d : Nat) (sh : List qSh) (K : Option Value → qMI → qML → qMP → Prop) (a0 : Nat) (x1 : Int32) (I : qMI) (L : qML) (P : qMP) : Prop :=
  ((shp sh a0).1 = 9) ∧ (((shp sh (P a0 0)).1 = 6) ∧ (((shp sh (P (P a0 0) 0)).1 = 2) ∧ (Sq d mX2_has sh [.ref (P (P a0 0) 0), .int x1] I L P (KI fun r4 I5 L6 P7 => ((¬ r4 = 0) → (((shp sh (P7 a0 0)).1 = 6) ∧ (((shp sh (P7 (P7 a0 0) 0)).1 = 2) ∧ ((((I5 (P7 (P7 a0 0) 0) 0) < 2) → (K (some (.long ((-5)))) I5 L6 P7)) ∧ ((¬ (I5 (P7 (P7 a0 0) 0) 0) < 2) → ((((I5 (P7 (P7 a0 0) 0) 0) ≤ 8) → (Sq d mX2_strongest sh [.ref (P7 (P7 a0 0) 0)] I5 L6 P7 (KI fun r13 I14 L15 P16 => ((¬ r13 = x1) → (K (some (.long 0)) I14 L15 P16)) ∧ ((r13 = x1) → (Sq d mX9_allDraws sh [.ref a0] I14 L15 P16 (KL fun r18 I19 L20 P21 => K (some (.long r18)) I19 L20 P21)))))) ∧ ((¬ (I5 (P7 (P7 a0 0) 0) 0) ≤ 8) → (K (some (.long ((-5)))) I5 L6 P7)))))))) ∧ ((r4 = 0) → (K (some (.long ((-1)))) I5 L6 P7))))))
set_option maxRecDepth 100000 in
set_option maxHeartbeats 4000000 in
theorem rg_X9_wins_0 {X : qCT} {d : Nat} {sh : List qSh} {K : Option Value → qMI → qML → qMP → Prop} {a0 : Nat} {x1 : Int32} {I : qMI} {L : qML} {P : qMP} (C : qCB X RX9 cX9_wins 2 (d + 1) 0 0) (hk : qCK X (some .long) 0 0 (fun v sh' I' L' P' => sh' = sh ∧ K v I' L' P')) (h : vc_X9_wins_0 d sh K a0 x1 I L P) : qG X 0 [some (.ref a0), some (.int x1)] [] sh I L P 0 0 := by
  unfold vc_X9_wins_0 at h
  refine q_aload_n C dX9_wins_0 rfl ?_
  have s1 := h.1
  replace h := h.2
  refine q_getP C fl_RX9_10 rfl s1 dX9_wins_1 ?_
  have s2 := h.1
  replace h := h.2
  refine q_getP C fl_RX9_68 rfl s2 dX9_wins_4 ?_
  refine q_iload_n C dX9_wins_7 rfl ?_
  have s3 := h.1
  replace h := h.2
  refine q_cVi (as := [.int x1]) (st := []) (r := P (P a0 0) 0) C mv_X2_has ml_RX9_85 dX9_wins_8 rfl s3 rfl (Nat.le_of_ble_eq_true rfl) ⟨Nat.le_refl _, Nat.le_refl _⟩ h (fun r4 I5 L6 P7 h => ?_)
  refine q_if_ne (tgt := 18) C dX9_wins_11 (by decide) (fun c8 => ?_) (fun c8 => ?_)
  · replace h := h.1 c8
    refine q_aload_n C dX9_wins_18 rfl ?_
    refine q_getP C fl_RX9_10 rfl s1 dX9_wins_19 ?_
    have s9 := h.1
    replace h := h.2
    refine q_getP C fl_RX9_68 rfl s9 dX9_wins_22 ?_
    have s10 := h.1
    replace h := h.2
    refine q_getI C fl_RX9_75 rfl s10 dX9_wins_25 ?_
    refine q_iconst (v := 2) C dX9_wins_28 (by decide) ?_
    refine q_icmp_lt (tgt := 47) C dX9_wins_29 (by decide) (fun c11 => ?_) (fun c11 => ?_)
    · replace h := h.1 c11
      refine q_ldc2 C kl_RX9_137 dX9_wins_47 ?_
      exact q_lret C hk dX9_wins_50 ⟨rfl, h⟩
    · replace h := h.2 c11
      refine q_aload_n C dX9_wins_32 rfl ?_
      refine q_getP C fl_RX9_10 rfl s1 dX9_wins_33 ?_
      refine q_getP C fl_RX9_68 rfl s9 dX9_wins_36 ?_
      refine q_getI C fl_RX9_75 rfl s10 dX9_wins_39 ?_
      refine q_bipush (v := 8) C dX9_wins_42 (by decide) ?_
      refine q_icmp_le (tgt := 51) C dX9_wins_44 (by decide) (fun c12 => ?_) (fun c12 => ?_)
      · replace h := h.1 c12
        refine q_aload_n C dX9_wins_51 rfl ?_
        refine q_getP C fl_RX9_10 rfl s1 dX9_wins_52 ?_
        refine q_getP C fl_RX9_68 rfl s9 dX9_wins_55 ?_
        refine q_cVi (as := []) (st := []) (r := P7 (P7 a0 0) 0) C mv_X2_strongest ml_RX9_242 dX9_wins_58 rfl s10 rfl (Nat.le_of_ble_eq_true rfl) ⟨Nat.le_refl _, Nat.le_refl _⟩ h (fun r13 I14 L15 P16 h => ?_)
        refine q_iload_n C dX9_wins_61 rfl ?_
        refine q_icmp_ne (tgt := 72) C dX9_wins_62 (by decide) (fun c17 => ?_) (fun c17 => ?_)
        · replace h := h.1 c17
          refine q_lconst (v := 0) C dX9_wins_72 (by decide) ?_
          exact q_lret C hk dX9_wins_73 ⟨rfl, h⟩
        · replace h := h.2 c17
          refine q_aload_n C dX9_wins_65 rfl ?_
          refine q_cVl (as := []) (st := []) (r := a0) C mv_X9_allDraws ml_RX9_139 dX9_wins_66 rfl s1 rfl (Nat.le_of_ble_eq_true rfl) ⟨Nat.le_refl _, Nat.le_refl _⟩ h (fun r18 I19 L20 P21 h => ?_)
          refine q_goto (tgt := 73) C dX9_wins_69 (by decide) ?_
          exact q_lret C hk dX9_wins_73 ⟨rfl, h⟩
      · replace h := h.2 c12
        refine q_ldc2 C kl_RX9_137 dX9_wins_47 ?_
        exact q_lret C hk dX9_wins_50 ⟨rfl, h⟩
  · replace h := h.2 c8
    refine q_ldc2 C kl_RX9_146 dX9_wins_14 ?_
    exact q_lret C hk dX9_wins_17 ⟨rfl, h⟩
theorem sp_X9_wins {d : Nat} {sh : List qSh} {K : Option Value → qMI → qML → qMP → Prop} {a0 : Nat} {x1 : Int32} {I : qMI} {L : qML} {P : qMP} (h0 : vc_X9_wins_0 d sh K a0 x1 I L P) : Sq (d + 1) mX9_wins sh [.ref a0, .int x1] I L P K := by
  refine Sq_of (by decide +kernel) (Nat.le_of_ble_eq_true rfl) (fun X C hk hn => ?_)
  exact rg_X9_wins_0 C hk h0
/-! BracketDraws.print(I)I -/
def vc_X9_print_0 (d : Nat) (sh : List qSh) (K : Option Value → qMI → qML → qMP → Prop) (a0 : Nat) (x1 : Int32) (I : qMI) (L : qML) (P : qMP) : Prop :=
  ((((-1)) ≤ x1) → (((shp sh a0).1 = 9) ∧ (((shp sh (P a0 0)).1 = 6) ∧ (((shp sh (P (P a0 0) 1)).1 = 1) ∧ ((((I (P (P a0 0) 1) 0) = 0) → (K (some (.int ((-5)))) I L P)) ∧ ((¬ (I (P (P a0 0) 1) 0) = 0) → (Sq d mX1_printedByte sh [.ref (P (P a0 0) 1), .int x1] I L P (KI fun r6 I7 L8 P9 => K (some (.int r6)) I7 L8 P9)))))))) ∧ ((¬ ((-1)) ≤ x1) → (K (some (.int ((-1)))) I L P))
set_option maxRecDepth 100000 in
set_option maxHeartbeats 4000000 in
theorem rg_X9_print_0 {X : qCT} {d : Nat} {sh : List qSh} {K : Option Value → qMI → qML → qMP → Prop} {a0 : Nat} {x1 : Int32} {I : qMI} {L : qML} {P : qMP} (C : qCB X RX9 cX9_print 2 (d + 1) 0 0) (hk : qCK X (some .int) 0 0 (fun v sh' I' L' P' => sh' = sh ∧ K v I' L' P')) (h : vc_X9_print_0 d sh K a0 x1 I L P) : qG X 0 [some (.ref a0), some (.int x1)] [] sh I L P 0 0 := by
  unfold vc_X9_print_0 at h
  refine q_iload_n C dX9_print_0 rfl ?_
  refine q_iconst (v := (-1)) C dX9_print_1 (by decide) ?_
  refine q_icmp_ge (tgt := 7) C dX9_print_2 (by decide) (fun c1 => ?_) (fun c1 => ?_)
  · replace h := h.1 c1
    refine q_aload_n C dX9_print_7 rfl ?_
    have s2 := h.1
    replace h := h.2
    refine q_getP C fl_RX9_10 rfl s2 dX9_print_8 ?_
    have s3 := h.1
    replace h := h.2
    refine q_getP C fl_RX9_97 rfl s3 dX9_print_11 ?_
    have s4 := h.1
    replace h := h.2
    refine q_getI C fl_RX9_183 rfl s4 dX9_print_14 ?_
    refine q_if_eq (tgt := 34) C dX9_print_17 (by decide) (fun c5 => ?_) (fun c5 => ?_)
    · replace h := h.1 c5
      refine q_bipush (v := (-5)) C dX9_print_34 (by decide) ?_
      exact q_iret C hk dX9_print_36 ⟨rfl, h⟩
    · replace h := h.2 c5
      refine q_aload_n C dX9_print_20 rfl ?_
      refine q_getP C fl_RX9_10 rfl s2 dX9_print_21 ?_
      refine q_getP C fl_RX9_97 rfl s3 dX9_print_24 ?_
      refine q_iload_n C dX9_print_27 rfl ?_
      refine q_cVi (as := [.int x1]) (st := []) (r := P (P a0 0) 1) C mv_X1_printedByte ml_RX9_245 dX9_print_28 rfl s4 rfl (Nat.le_of_ble_eq_true rfl) ⟨Nat.le_refl _, Nat.le_refl _⟩ h (fun r6 I7 L8 P9 h => ?_)
      refine q_goto (tgt := 36) C dX9_print_31 (by decide) ?_
      exact q_iret C hk dX9_print_36 ⟨rfl, h⟩
  · replace h := h.2 c1
    refine q_iconst (v := (-1)) C dX9_print_5 (by decide) ?_
    exact q_iret C hk dX9_print_6 ⟨rfl, h⟩
theorem sp_X9_print {d : Nat} {sh : List qSh} {K : Option Value → qMI → qML → qMP → Prop} {a0 : Nat} {x1 : Int32} {I : qMI} {L : qML} {P : qMP} (h0 : vc_X9_print_0 d sh K a0 x1 I L P) : Sq (d + 1) mX9_print sh [.ref a0, .int x1] I L P K := by
  refine Sq_of (by decide +kernel) (Nat.le_of_ble_eq_true rfl) (fun X C hk hn => ?_)
  exact rg_X9_print_0 C hk h0
/-! BracketDraws.brackets(I)I -/
def vc_X9_brackets_0 (d : Nat) (sh : List qSh) (K : Option Value → qMI → qML → qMP → Prop) (a0 : Nat) (x1 : Int32) (I : qMI) (L : qML) (P : qMP) : Prop :=
  ((((-1)) ≤ x1) → (((shp sh a0).1 = 9) ∧ (((shp sh (P a0 0)).1 = 6) ∧ (((shp sh (P (P a0 0) 1)).1 = 1) ∧ ((((I (P (P a0 0) 1) 0) = 0) → (K (some (.int ((-5)))) I L P)) ∧ ((¬ (I (P (P a0 0) 1) 0) = 0) → (Sq d mX1_bracketsByte sh [.ref (P (P a0 0) 1), .int x1] I L P (KI fun r6 I7 L8 P9 => K (some (.int r6)) I7 L8 P9)))))))) ∧ ((¬ ((-1)) ≤ x1) → (K (some (.int ((-1)))) I L P))
set_option maxRecDepth 100000 in
set_option maxHeartbeats 4000000 in
theorem rg_X9_brackets_0 {X : qCT} {d : Nat} {sh : List qSh} {K : Option Value → qMI → qML → qMP → Prop} {a0 : Nat} {x1 : Int32} {I : qMI} {L : qML} {P : qMP} (C : qCB X RX9 cX9_brackets 2 (d + 1) 0 0) (hk : qCK X (some .int) 0 0 (fun v sh' I' L' P' => sh' = sh ∧ K v I' L' P')) (h : vc_X9_brackets_0 d sh K a0 x1 I L P) : qG X 0 [some (.ref a0), some (.int x1)] [] sh I L P 0 0 := by
  unfold vc_X9_brackets_0 at h
  refine q_iload_n C dX9_brackets_0 rfl ?_
  refine q_iconst (v := (-1)) C dX9_brackets_1 (by decide) ?_
  refine q_icmp_ge (tgt := 7) C dX9_brackets_2 (by decide) (fun c1 => ?_) (fun c1 => ?_)
  · replace h := h.1 c1
    refine q_aload_n C dX9_brackets_7 rfl ?_
    have s2 := h.1
    replace h := h.2
    refine q_getP C fl_RX9_10 rfl s2 dX9_brackets_8 ?_
    have s3 := h.1
    replace h := h.2
    refine q_getP C fl_RX9_97 rfl s3 dX9_brackets_11 ?_
    have s4 := h.1
    replace h := h.2
    refine q_getI C fl_RX9_183 rfl s4 dX9_brackets_14 ?_
    refine q_if_eq (tgt := 34) C dX9_brackets_17 (by decide) (fun c5 => ?_) (fun c5 => ?_)
    · replace h := h.1 c5
      refine q_bipush (v := (-5)) C dX9_brackets_34 (by decide) ?_
      exact q_iret C hk dX9_brackets_36 ⟨rfl, h⟩
    · replace h := h.2 c5
      refine q_aload_n C dX9_brackets_20 rfl ?_
      refine q_getP C fl_RX9_10 rfl s2 dX9_brackets_21 ?_
      refine q_getP C fl_RX9_97 rfl s3 dX9_brackets_24 ?_
      refine q_iload_n C dX9_brackets_27 rfl ?_
      refine q_cVi (as := [.int x1]) (st := []) (r := P (P a0 0) 1) C mv_X1_bracketsByte ml_RX9_248 dX9_brackets_28 rfl s4 rfl (Nat.le_of_ble_eq_true rfl) ⟨Nat.le_refl _, Nat.le_refl _⟩ h (fun r6 I7 L8 P9 h => ?_)
      refine q_goto (tgt := 36) C dX9_brackets_31 (by decide) ?_
      exact q_iret C hk dX9_brackets_36 ⟨rfl, h⟩
  · replace h := h.2 c1
    refine q_iconst (v := (-1)) C dX9_brackets_5 (by decide) ?_
    exact q_iret C hk dX9_brackets_6 ⟨rfl, h⟩
theorem sp_X9_brackets {d : Nat} {sh : List qSh} {K : Option Value → qMI → qML → qMP → Prop} {a0 : Nat} {x1 : Int32} {I : qMI} {L : qML} {P : qMP} (h0 : vc_X9_brackets_0 d sh K a0 x1 I L P) : Sq (d + 1) mX9_brackets sh [.ref a0, .int x1] I L P K := by
  refine Sq_of (by decide +kernel) (Nat.le_of_ble_eq_true rfl) (fun X C hk hn => ?_)
  exact rg_X9_brackets_0 C hk h0
/-! BracketDraws.undo()I -/
def vc_X9_undo_0 (d : Nat) (sh : List qSh) (K : Option Value → qMI → qML → qMP → Prop) (a0 : Nat) (I : qMI) (L : qML) (P : qMP) : Prop :=
  ((shp sh a0).1 = 9) ∧ (((shp sh (P a0 2)).1 = 3) ∧ (((1 ≤ (I (P a0 2) 1)) → (Sq d mX3_step sh [.ref (P a0 2), .ref (P a0 0), .int ((-1))] I L P (KV fun I4 L5 P6 => ((shp sh (P6 a0 2)).1 = 3) ∧ (K (some (.int (I4 (P6 a0 2) 1))) I4 L5 P6)))) ∧ ((¬ 1 ≤ (I (P a0 2) 1)) → (K (some (.int ((-5)))) I L P))))
set_option maxRecDepth 100000 in
set_option maxHeartbeats 4000000 in
theorem rg_X9_undo_0 {X : qCT} {d : Nat} {sh : List qSh} {K : Option Value → qMI → qML → qMP → Prop} {a0 : Nat} {I : qMI} {L : qML} {P : qMP} (C : qCB X RX9 cX9_undo 1 (d + 1) 0 0) (hk : qCK X (some .int) 0 0 (fun v sh' I' L' P' => sh' = sh ∧ K v I' L' P')) (h : vc_X9_undo_0 d sh K a0 I L P) : qG X 0 [some (.ref a0)] [] sh I L P 0 0 := by
  unfold vc_X9_undo_0 at h
  refine q_aload_n C dX9_undo_0 rfl ?_
  have s1 := h.1
  replace h := h.2
  refine q_getP C fl_RX9_22 rfl s1 dX9_undo_1 ?_
  have s2 := h.1
  replace h := h.2
  refine q_getI C fl_RX9_251 rfl s2 dX9_undo_4 ?_
  refine q_iconst (v := 1) C dX9_undo_7 (by decide) ?_
  refine q_icmp_ge (tgt := 14) C dX9_undo_8 (by decide) (fun c3 => ?_) (fun c3 => ?_)
  · replace h := h.1 c3
    refine q_aload_n C dX9_undo_14 rfl ?_
    refine q_getP C fl_RX9_22 rfl s1 dX9_undo_15 ?_
    refine q_aload_n C dX9_undo_18 rfl ?_
    refine q_getP C fl_RX9_10 rfl s1 dX9_undo_19 ?_
    refine q_iconst (v := (-1)) C dX9_undo_22 (by decide) ?_
    refine q_cVv (as := [.ref (P a0 0), .int ((-1))]) (st := []) (r := P a0 2) C mv_X3_step ml_RX9_254 dX9_undo_23 rfl s2 rfl (Nat.le_of_ble_eq_true rfl) ⟨Nat.le_refl _, Nat.le_refl _⟩ h (fun I4 L5 P6 h => ?_)
    refine q_aload_n C dX9_undo_26 rfl ?_
    refine q_getP C fl_RX9_22 rfl s1 dX9_undo_27 ?_
    have s7 := h.1
    replace h := h.2
    refine q_getI C fl_RX9_251 rfl s7 dX9_undo_30 ?_
    exact q_iret C hk dX9_undo_33 ⟨rfl, h⟩
  · replace h := h.2 c3
    refine q_bipush (v := (-5)) C dX9_undo_11 (by decide) ?_
    exact q_iret C hk dX9_undo_13 ⟨rfl, h⟩
theorem sp_X9_undo {d : Nat} {sh : List qSh} {K : Option Value → qMI → qML → qMP → Prop} {a0 : Nat} {I : qMI} {L : qML} {P : qMP} (h0 : vc_X9_undo_0 d sh K a0 I L P) : Sq (d + 1) mX9_undo sh [.ref a0] I L P K := by
  refine Sq_of (by decide +kernel) (Nat.le_of_ble_eq_true rfl) (fun X C hk hn => ?_)
  exact rg_X9_undo_0 C hk h0
/-! BracketDraws.redo()I -/
def vc_X9_redo_0 (d : Nat) (sh : List qSh) (K : Option Value → qMI → qML → qMP → Prop) (a0 : Nat) (I : qMI) (L : qML) (P : qMP) : Prop :=
  ((shp sh a0).1 = 9) ∧ (((shp sh (P a0 2)).1 = 3) ∧ ((((I (P a0 2) 1) < (I (P a0 2) 2)) → (Sq d mX3_step sh [.ref (P a0 2), .ref (P a0 0), .int 1] I L P (KV fun I4 L5 P6 => ((shp sh (P6 a0 2)).1 = 3) ∧ (K (some (.int ((I4 (P6 a0 2) 2) - (I4 (P6 a0 2) 1)))) I4 L5 P6)))) ∧ ((¬ (I (P a0 2) 1) < (I (P a0 2) 2)) → (K (some (.int ((-5)))) I L P))))
set_option maxRecDepth 100000 in
set_option maxHeartbeats 4000000 in
theorem rg_X9_redo_0 {X : qCT} {d : Nat} {sh : List qSh} {K : Option Value → qMI → qML → qMP → Prop} {a0 : Nat} {I : qMI} {L : qML} {P : qMP} (C : qCB X RX9 cX9_redo 1 (d + 1) 0 0) (hk : qCK X (some .int) 0 0 (fun v sh' I' L' P' => sh' = sh ∧ K v I' L' P')) (h : vc_X9_redo_0 d sh K a0 I L P) : qG X 0 [some (.ref a0)] [] sh I L P 0 0 := by
  unfold vc_X9_redo_0 at h
  refine q_aload_n C dX9_redo_0 rfl ?_
  have s1 := h.1
  replace h := h.2
  refine q_getP C fl_RX9_22 rfl s1 dX9_redo_1 ?_
  have s2 := h.1
  replace h := h.2
  refine q_getI C fl_RX9_251 rfl s2 dX9_redo_4 ?_
  refine q_aload_n C dX9_redo_7 rfl ?_
  refine q_getP C fl_RX9_22 rfl s1 dX9_redo_8 ?_
  refine q_getI C fl_RX9_258 rfl s2 dX9_redo_11 ?_
  refine q_icmp_lt (tgt := 20) C dX9_redo_14 (by decide) (fun c3 => ?_) (fun c3 => ?_)
  · replace h := h.1 c3
    refine q_aload_n C dX9_redo_20 rfl ?_
    refine q_getP C fl_RX9_22 rfl s1 dX9_redo_21 ?_
    refine q_aload_n C dX9_redo_24 rfl ?_
    refine q_getP C fl_RX9_10 rfl s1 dX9_redo_25 ?_
    refine q_iconst (v := 1) C dX9_redo_28 (by decide) ?_
    refine q_cVv (as := [.ref (P a0 0), .int 1]) (st := []) (r := P a0 2) C mv_X3_step ml_RX9_254 dX9_redo_29 rfl s2 rfl (Nat.le_of_ble_eq_true rfl) ⟨Nat.le_refl _, Nat.le_refl _⟩ h (fun I4 L5 P6 h => ?_)
    refine q_aload_n C dX9_redo_32 rfl ?_
    refine q_getP C fl_RX9_22 rfl s1 dX9_redo_33 ?_
    have s7 := h.1
    replace h := h.2
    refine q_getI C fl_RX9_258 rfl s7 dX9_redo_36 ?_
    refine q_aload_n C dX9_redo_39 rfl ?_
    refine q_getP C fl_RX9_22 rfl s1 dX9_redo_40 ?_
    refine q_getI C fl_RX9_251 rfl s7 dX9_redo_43 ?_
    refine q_isub C dX9_redo_46 ?_
    exact q_iret C hk dX9_redo_47 ⟨rfl, h⟩
  · replace h := h.2 c3
    refine q_bipush (v := (-5)) C dX9_redo_17 (by decide) ?_
    exact q_iret C hk dX9_redo_19 ⟨rfl, h⟩
theorem sp_X9_redo {d : Nat} {sh : List qSh} {K : Option Value → qMI → qML → qMP → Prop} {a0 : Nat} {I : qMI} {L : qML} {P : qMP} (h0 : vc_X9_redo_0 d sh K a0 I L P) : Sq (d + 1) mX9_redo sh [.ref a0] I L P K := by
  refine Sq_of (by decide +kernel) (Nat.le_of_ble_eq_true rfl) (fun X C hk hn => ?_)
  exact rg_X9_redo_0 C hk h0
/-! BracketDraws.image()I -/
def vc_X9_image_0 (d : Nat) (sh : List qSh) (K : Option Value → qMI → qML → qMP → Prop) (a0 : Nat) (I : qMI) (L : qML) (P : qMP) : Prop :=
  ((shp sh a0).1 = 9) ∧ (((shp sh (P a0 1)).1 = 6) ∧ (Sq d mX6_copyFrom sh [.ref (P a0 1), .ref (P a0 0)] I L P (KV fun I3 L4 P5 => ∀ I6 : qMI, I6 = uI I3 a0 9 1 → (((shp sh (P5 a0 0)).1 = 6) ∧ (((shp sh (P5 (P5 a0 0) 0)).1 = 2) ∧ (K (some (.int (I6 (P5 (P5 a0 0) 0) 0))) I6 L4 P5))))))
set_option maxRecDepth 100000 in
set_option maxHeartbeats 4000000 in
theorem rg_X9_image_0 {X : qCT} {d : Nat} {sh : List qSh} {K : Option Value → qMI → qML → qMP → Prop} {a0 : Nat} {I : qMI} {L : qML} {P : qMP} (C : qCB X RX9 cX9_image 1 (d + 1) 0 0) (hk : qCK X (some .int) 0 0 (fun v sh' I' L' P' => sh' = sh ∧ K v I' L' P')) (h : vc_X9_image_0 d sh K a0 I L P) : qG X 0 [some (.ref a0)] [] sh I L P 0 0 := by
  unfold vc_X9_image_0 at h
  refine q_aload_n C dX9_image_0 rfl ?_
  have s1 := h.1
  replace h := h.2
  refine q_getP C fl_RX9_16 rfl s1 dX9_image_1 ?_
  refine q_aload_n C dX9_image_4 rfl ?_
  refine q_getP C fl_RX9_10 rfl s1 dX9_image_5 ?_
  have s2 := h.1
  replace h := h.2
  refine q_cVv (as := [.ref (P a0 0)]) (st := []) (r := P a0 1) C mv_X6_copyFrom ml_RX9_261 dX9_image_8 rfl s2 rfl (Nat.le_of_ble_eq_true rfl) ⟨Nat.le_refl _, Nat.le_refl _⟩ h (fun I3 L4 P5 h => ?_)
  refine q_aload_n C dX9_image_11 rfl ?_
  refine q_iconst (v := 1) C dX9_image_12 (by decide) ?_
  refine q_putZ C fl_RX9_263 (fun T hT => by cases hT; rfl) rfl s1 (Or.inr rfl) dX9_image_13 (fun I6 eI6 => ?_)
  replace h := h I6 eI6
  refine q_aload_n C dX9_image_16 rfl ?_
  refine q_getP C fl_RX9_10 rfl s1 dX9_image_17 ?_
  have s7 := h.1
  replace h := h.2
  refine q_getP C fl_RX9_68 rfl s7 dX9_image_20 ?_
  have s8 := h.1
  replace h := h.2
  refine q_getI C fl_RX9_75 rfl s8 dX9_image_23 ?_
  exact q_iret C hk dX9_image_26 ⟨rfl, h⟩
theorem sp_X9_image {d : Nat} {sh : List qSh} {K : Option Value → qMI → qML → qMP → Prop} {a0 : Nat} {I : qMI} {L : qML} {P : qMP} (h0 : vc_X9_image_0 d sh K a0 I L P) : Sq (d + 1) mX9_image sh [.ref a0] I L P K := by
  refine Sq_of (by decide +kernel) (Nat.le_of_ble_eq_true rfl) (fun X C hk hn => ?_)
  exact rg_X9_image_0 C hk h0
/-! BracketDraws.back()I -/
def vc_X9_back_0 (d : Nat) (sh : List qSh) (K : Option Value → qMI → qML → qMP → Prop) (a0 : Nat) (I : qMI) (L : qML) (P : qMP) : Prop :=
  ((shp sh a0).1 = 9) ∧ (((¬ (I a0 9) = 0) → (((shp sh (P a0 0)).1 = 6) ∧ (Sq d mX6_copyFrom sh [.ref (P a0 0), .ref (P a0 1)] I L P (KV fun I4 L5 P6 => ((shp sh (P6 a0 2)).1 = 3) ∧ (Sq d mX3_forget sh [.ref (P6 a0 2), .ref (P6 a0 0)] I4 L5 P6 (KV fun I8 L9 P10 => ((shp sh (P10 a0 0)).1 = 6) ∧ (((shp sh (P10 (P10 a0 0) 0)).1 = 2) ∧ (K (some (.int (I8 (P10 (P10 a0 0) 0) 0))) I8 L9 P10)))))))) ∧ (((I a0 9) = 0) → (K (some (.int ((-5)))) I L P)))
set_option maxRecDepth 100000 in
set_option maxHeartbeats 4000000 in
theorem rg_X9_back_0 {X : qCT} {d : Nat} {sh : List qSh} {K : Option Value → qMI → qML → qMP → Prop} {a0 : Nat} {I : qMI} {L : qML} {P : qMP} (C : qCB X RX9 cX9_back 1 (d + 1) 0 0) (hk : qCK X (some .int) 0 0 (fun v sh' I' L' P' => sh' = sh ∧ K v I' L' P')) (h : vc_X9_back_0 d sh K a0 I L P) : qG X 0 [some (.ref a0)] [] sh I L P 0 0 := by
  unfold vc_X9_back_0 at h
  refine q_aload_n C dX9_back_0 rfl ?_
  have s1 := h.1
  replace h := h.2
  refine q_getI C fl_RX9_263 rfl s1 dX9_back_1 ?_
  refine q_if_ne (tgt := 10) C dX9_back_4 (by decide) (fun c2 => ?_) (fun c2 => ?_)
  · replace h := h.1 c2
    refine q_aload_n C dX9_back_10 rfl ?_
    refine q_getP C fl_RX9_10 rfl s1 dX9_back_11 ?_
    refine q_aload_n C dX9_back_14 rfl ?_
    refine q_getP C fl_RX9_16 rfl s1 dX9_back_15 ?_
    have s3 := h.1
    replace h := h.2
    refine q_cVv (as := [.ref (P a0 1)]) (st := []) (r := P a0 0) C mv_X6_copyFrom ml_RX9_261 dX9_back_18 rfl s3 rfl (Nat.le_of_ble_eq_true rfl) ⟨Nat.le_refl _, Nat.le_refl _⟩ h (fun I4 L5 P6 h => ?_)
    refine q_aload_n C dX9_back_21 rfl ?_
    refine q_getP C fl_RX9_22 rfl s1 dX9_back_22 ?_
    refine q_aload_n C dX9_back_25 rfl ?_
    refine q_getP C fl_RX9_10 rfl s1 dX9_back_26 ?_
    have s7 := h.1
    replace h := h.2
    refine q_cVv (as := [.ref (P6 a0 0)]) (st := []) (r := P6 a0 2) C mv_X3_forget ml_RX9_266 dX9_back_29 rfl s7 rfl (Nat.le_of_ble_eq_true rfl) ⟨Nat.le_refl _, Nat.le_refl _⟩ h (fun I8 L9 P10 h => ?_)
    refine q_aload_n C dX9_back_32 rfl ?_
    refine q_getP C fl_RX9_10 rfl s1 dX9_back_33 ?_
    have s11 := h.1
    replace h := h.2
    refine q_getP C fl_RX9_68 rfl s11 dX9_back_36 ?_
    have s12 := h.1
    replace h := h.2
    refine q_getI C fl_RX9_75 rfl s12 dX9_back_39 ?_
    exact q_iret C hk dX9_back_42 ⟨rfl, h⟩
  · replace h := h.2 c2
    refine q_bipush (v := (-5)) C dX9_back_7 (by decide) ?_
    exact q_iret C hk dX9_back_9 ⟨rfl, h⟩
theorem sp_X9_back {d : Nat} {sh : List qSh} {K : Option Value → qMI → qML → qMP → Prop} {a0 : Nat} {I : qMI} {L : qML} {P : qMP} (h0 : vc_X9_back_0 d sh K a0 I L P) : Sq (d + 1) mX9_back sh [.ref a0] I L P K := by
  refine Sq_of (by decide +kernel) (Nat.le_of_ble_eq_true rfl) (fun X C hk hn => ?_)
  exact rg_X9_back_0 C hk h0
/-! BracketDraws.count(I)I -/
def vc_X9_count_0 (d : Nat) (sh : List qSh) (K : Option Value → qMI → qML → qMP → Prop) (a0 : Nat) (x1 : Int32) (I : qMI) (L : qML) (P : qMP) : Prop :=
  ((shp sh a0).1 = 9) ∧ (((shp sh (P a0 0)).1 = 6) ∧ (((shp sh (P (P a0 0) 0)).1 = 2) ∧ ((((I (P (P a0 0) 0) 0) < 2) → (((x1 = 0) → (K (some (.int (I (P (P a0 0) 0) 0))) I L P)) ∧ ((x1 = 1) → (K (some (.int 0)) I L P)) ∧ ((x1 = 2) → (K (some (.int 0)) I L P)) ∧ ((x1 = 3) → (K (some (.int 0)) I L P)) ∧ ((x1 = 4) → (((shp sh (P (P a0 0) 1)).1 = 1) ∧ (K (some (.int (I (P (P a0 0) 1) 4))) I L P))) ∧ ((x1 = 5) → (K (some (.int (I (P (P a0 0) 0) 1))) I L P)) ∧ ((x1 = 6) → (K (some (.int (I (P (P a0 0) 0) 2))) I L P)) ∧ ((x1 = 7) → (((shp sh (P a0 3)).1 = 8) ∧ (((shp sh (P (P a0 3) 2)).1 = 7) ∧ (K (some (.int (I (P (P a0 3) 2) 1))) I L P)))) ∧ ((x1 = 8) → (((shp sh (P a0 2)).1 = 3) ∧ (K (some (.int (I (P a0 2) 1))) I L P))) ∧ ((x1 = 9) → (((shp sh (P a0 2)).1 = 3) ∧ (K (some (.int ((I (P a0 2) 2) - (I (P a0 2) 1)))) I L P))) ∧ (¬ x1 = 0 → ¬ x1 = 1 → ¬ x1 = 2 → ¬ x1 = 3 → ¬ x1 = 4 → ¬ x1 = 5 → ¬ x1 = 6 → ¬ x1 = 7 → ¬ x1 = 8 → ¬ x1 = 9 → (K (some (.int ((-1)))) I L P)))) ∧ ((¬ (I (P (P a0 0) 0) 0) < 2) → (((x1 = 0) → (K (some (.int (I (P (P a0 0) 0) 0))) I L P)) ∧ ((x1 = 1) → (Sq d mX2_slots sh [.ref (P (P a0 0) 0)] I L P (KI fun r10 I11 L12 P13 => K (some (.int r10)) I11 L12 P13))) ∧ ((x1 = 2) → (Sq d mX2_byes sh [.ref (P (P a0 0) 0)] I L P (KI fun r14 I15 L16 P17 => K (some (.int r14)) I15 L16 P17))) ∧ ((x1 = 3) → (Sq d mX2_rounds sh [.ref (P (P a0 0) 0)] I L P (KI fun r18 I19 L20 P21 => K (some (.int r18)) I19 L20 P21))) ∧ ((x1 = 4) → (((shp sh (P (P a0 0) 1)).1 = 1) ∧ (K (some (.int (I (P (P a0 0) 1) 4))) I L P))) ∧ ((x1 = 5) → (K (some (.int (I (P (P a0 0) 0) 1))) I L P)) ∧ ((x1 = 6) → (K (some (.int (I (P (P a0 0) 0) 2))) I L P)) ∧ ((x1 = 7) → (((shp sh (P a0 3)).1 = 8) ∧ (((shp sh (P (P a0 3) 2)).1 = 7) ∧ (K (some (.int (I (P (P a0 3) 2) 1))) I L P)))) ∧ ((x1 = 8) → (((shp sh (P a0 2)).1 = 3) ∧ (K (some (.int (I (P a0 2) 1))) I L P))) ∧ ((x1 = 9) → (((shp sh (P a0 2)).1 = 3) ∧ (K (some (.int ((I (P a0 2) 2) - (I (P a0 2) 1)))) I L P))) ∧ (¬ x1 = 0 → ¬ x1 = 1 → ¬ x1 = 2 → ¬ x1 = 3 → ¬ x1 = 4 → ¬ x1 = 5 → ¬ x1 = 6 → ¬ x1 = 7 → ¬ x1 = 8 → ¬ x1 = 9 → (K (some (.int ((-1)))) I L P)))))))
set_option maxRecDepth 100000 in
set_option maxHeartbeats 4000000 in
theorem rg_X9_count_0 {X : qCT} {d : Nat} {sh : List qSh} {K : Option Value → qMI → qML → qMP → Prop} {a0 : Nat} {x1 : Int32} {I : qMI} {L : qML} {P : qMP} (C : qCB X RX9 cX9_count 4 (d + 1) 0 0) (hk : qCK X (some .int) 0 0 (fun v sh' I' L' P' => sh' = sh ∧ K v I' L' P')) (h : vc_X9_count_0 d sh K a0 x1 I L P) : qG X 0 [some (.ref a0), some (.int x1), none, none] [] sh I L P 0 0 := by
  unfold vc_X9_count_0 at h
  refine q_aload_n C dX9_count_0 rfl ?_
  have s1 := h.1
  replace h := h.2
  refine q_getP C fl_RX9_10 rfl s1 dX9_count_1 ?_
  have s2 := h.1
  replace h := h.2
  refine q_getP C fl_RX9_68 rfl s2 dX9_count_4 ?_
  refine q_astore_n (lo1 := [some (.ref a0), some (.int x1), some (.ref (P (P a0 0) 0)), none]) C dX9_count_7 (by decide) rfl ?_
  refine q_aload_n C dX9_count_8 rfl ?_
  have s3 := h.1
  replace h := h.2
  refine q_getI C fl_RX9_75 rfl s3 dX9_count_9 ?_
  refine q_iconst (v := 2) C dX9_count_12 (by decide) ?_
  refine q_icmp_lt (tgt := 20) C dX9_count_13 (by decide) (fun c4 => ?_) (fun c4 => ?_)
  · replace h := h.1 c4
    refine q_iconst (v := 0) C dX9_count_20 (by decide) ?_
    refine q_istore_n (lo1 := [some (.ref a0), some (.int x1), some (.ref (P (P a0 0) 0)), some (.int 0)]) C dX9_count_21 (by decide) rfl ?_
    refine q_iload_n C dX9_count_22 rfl ?_
    by_cases c0 : x1 = 0
    · replace h := h.1 c0
      refine q_tabI (off := 53) (tgt := 76) C dX9_count_23 (by rw [c0]; decide) (by rw [c0]; decide) (by rw [c0]; rfl) (by decide) ?_
      refine q_aload_n C dX9_count_76 rfl ?_
      refine q_getI C fl_RX9_75 rfl s3 dX9_count_77 ?_
      exact q_iret C hk dX9_count_80 ⟨rfl, h⟩
    replace h := h.2
    by_cases c1 : x1 = 1
    · replace h := h.1 c1
      refine q_tabI (off := 58) (tgt := 81) C dX9_count_23 (by rw [c1]; decide) (by rw [c1]; decide) (by rw [c1]; rfl) (by decide) ?_
      refine q_iload_n C dX9_count_81 rfl ?_
      refine q_if_eq (tgt := 92) C dX9_count_82 (by decide) (fun _ => ?_) (fun c => absurd c (by decide))
      refine q_iconst (v := 0) C dX9_count_92 (by decide) ?_
      exact q_iret C hk dX9_count_93 ⟨rfl, h⟩
    replace h := h.2
    by_cases c2 : x1 = 2
    · replace h := h.1 c2
      refine q_tabI (off := 71) (tgt := 94) C dX9_count_23 (by rw [c2]; decide) (by rw [c2]; decide) (by rw [c2]; rfl) (by decide) ?_
      refine q_iload_n C dX9_count_94 rfl ?_
      refine q_if_eq (tgt := 105) C dX9_count_95 (by decide) (fun _ => ?_) (fun c => absurd c (by decide))
      refine q_iconst (v := 0) C dX9_count_105 (by decide) ?_
      exact q_iret C hk dX9_count_106 ⟨rfl, h⟩
    replace h := h.2
    by_cases c3 : x1 = 3
    · replace h := h.1 c3
      refine q_tabI (off := 84) (tgt := 107) C dX9_count_23 (by rw [c3]; decide) (by rw [c3]; decide) (by rw [c3]; rfl) (by decide) ?_
      refine q_iload_n C dX9_count_107 rfl ?_
      refine q_if_eq (tgt := 118) C dX9_count_108 (by decide) (fun _ => ?_) (fun c => absurd c (by decide))
      refine q_iconst (v := 0) C dX9_count_118 (by decide) ?_
      exact q_iret C hk dX9_count_119 ⟨rfl, h⟩
    replace h := h.2
    by_cases c4 : x1 = 4
    · replace h := h.1 c4
      refine q_tabI (off := 97) (tgt := 120) C dX9_count_23 (by rw [c4]; decide) (by rw [c4]; decide) (by rw [c4]; rfl) (by decide) ?_
      refine q_aload_n C dX9_count_120 rfl ?_
      refine q_getP C fl_RX9_10 rfl s1 dX9_count_121 ?_
      refine q_getP C fl_RX9_97 rfl s2 dX9_count_124 ?_
      have s5 := h.1
      replace h := h.2
      refine q_getI C fl_RX9_217 rfl s5 dX9_count_127 ?_
      exact q_iret C hk dX9_count_130 ⟨rfl, h⟩
    replace h := h.2
    by_cases c5 : x1 = 5
    · replace h := h.1 c5
      refine q_tabI (off := 108) (tgt := 131) C dX9_count_23 (by rw [c5]; decide) (by rw [c5]; decide) (by rw [c5]; rfl) (by decide) ?_
      refine q_aload_n C dX9_count_131 rfl ?_
      refine q_getI C fl_RX9_111 rfl s3 dX9_count_132 ?_
      exact q_iret C hk dX9_count_135 ⟨rfl, h⟩
    replace h := h.2
    by_cases c6 : x1 = 6
    · replace h := h.1 c6
      refine q_tabI (off := 113) (tgt := 136) C dX9_count_23 (by rw [c6]; decide) (by rw [c6]; decide) (by rw [c6]; rfl) (by decide) ?_
      refine q_aload_n C dX9_count_136 rfl ?_
      refine q_getI C fl_RX9_114 rfl s3 dX9_count_137 ?_
      exact q_iret C hk dX9_count_140 ⟨rfl, h⟩
    replace h := h.2
    by_cases c7 : x1 = 7
    · replace h := h.1 c7
      refine q_tabI (off := 118) (tgt := 141) C dX9_count_23 (by rw [c7]; decide) (by rw [c7]; decide) (by rw [c7]; rfl) (by decide) ?_
      refine q_aload_n C dX9_count_141 rfl ?_
      refine q_getP C fl_RX9_29 rfl s1 dX9_count_142 ?_
      have s6 := h.1
      replace h := h.2
      refine q_getP C fl_RX9_117 rfl s6 dX9_count_145 ?_
      have s7 := h.1
      replace h := h.2
      refine q_getI C fl_RX9_125 rfl s7 dX9_count_148 ?_
      exact q_iret C hk dX9_count_151 ⟨rfl, h⟩
    replace h := h.2
    by_cases c8 : x1 = 8
    · replace h := h.1 c8
      refine q_tabI (off := 129) (tgt := 152) C dX9_count_23 (by rw [c8]; decide) (by rw [c8]; decide) (by rw [c8]; rfl) (by decide) ?_
      refine q_aload_n C dX9_count_152 rfl ?_
      refine q_getP C fl_RX9_22 rfl s1 dX9_count_153 ?_
      have s8 := h.1
      replace h := h.2
      refine q_getI C fl_RX9_251 rfl s8 dX9_count_156 ?_
      exact q_iret C hk dX9_count_159 ⟨rfl, h⟩
    replace h := h.2
    by_cases c9 : x1 = 9
    · replace h := h.1 c9
      refine q_tabI (off := 137) (tgt := 160) C dX9_count_23 (by rw [c9]; decide) (by rw [c9]; decide) (by rw [c9]; rfl) (by decide) ?_
      refine q_aload_n C dX9_count_160 rfl ?_
      refine q_getP C fl_RX9_22 rfl s1 dX9_count_161 ?_
      have s9 := h.1
      replace h := h.2
      refine q_getI C fl_RX9_258 rfl s9 dX9_count_164 ?_
      refine q_aload_n C dX9_count_167 rfl ?_
      refine q_getP C fl_RX9_22 rfl s1 dX9_count_168 ?_
      refine q_getI C fl_RX9_251 rfl s9 dX9_count_171 ?_
      refine q_isub C dX9_count_174 ?_
      exact q_iret C hk dX9_count_175 ⟨rfl, h⟩
    replace h := h.2
    replace h := h c0 c1 c2 c3 c4 c5 c6 c7 c8 c9
    refine q_tabO (tgt := 176) C dX9_count_23 (by
      have t0 : Int32.toInt x1 ≠ 0 := fun q => c0 (Int32.toInt_inj.mp q)
      have t1 : Int32.toInt x1 ≠ 1 := fun q => c1 (Int32.toInt_inj.mp q)
      have t2 : Int32.toInt x1 ≠ 2 := fun q => c2 (Int32.toInt_inj.mp q)
      have t3 : Int32.toInt x1 ≠ 3 := fun q => c3 (Int32.toInt_inj.mp q)
      have t4 : Int32.toInt x1 ≠ 4 := fun q => c4 (Int32.toInt_inj.mp q)
      have t5 : Int32.toInt x1 ≠ 5 := fun q => c5 (Int32.toInt_inj.mp q)
      have t6 : Int32.toInt x1 ≠ 6 := fun q => c6 (Int32.toInt_inj.mp q)
      have t7 : Int32.toInt x1 ≠ 7 := fun q => c7 (Int32.toInt_inj.mp q)
      have t8 : Int32.toInt x1 ≠ 8 := fun q => c8 (Int32.toInt_inj.mp q)
      have t9 : Int32.toInt x1 ≠ 9 := fun q => c9 (Int32.toInt_inj.mp q)
      omega) (by decide) ?_
    refine q_iconst (v := (-1)) C dX9_count_176 (by decide) ?_
    exact q_iret C hk dX9_count_177 ⟨rfl, h⟩
  · replace h := h.2 c4
    refine q_iconst (v := 1) C dX9_count_16 (by decide) ?_
    refine q_goto (tgt := 21) C dX9_count_17 (by decide) ?_
    refine q_istore_n (lo1 := [some (.ref a0), some (.int x1), some (.ref (P (P a0 0) 0)), some (.int 1)]) C dX9_count_21 (by decide) rfl ?_
    refine q_iload_n C dX9_count_22 rfl ?_
    by_cases c0 : x1 = 0
    · replace h := h.1 c0
      refine q_tabI (off := 53) (tgt := 76) C dX9_count_23 (by rw [c0]; decide) (by rw [c0]; decide) (by rw [c0]; rfl) (by decide) ?_
      refine q_aload_n C dX9_count_76 rfl ?_
      refine q_getI C fl_RX9_75 rfl s3 dX9_count_77 ?_
      exact q_iret C hk dX9_count_80 ⟨rfl, h⟩
    replace h := h.2
    by_cases c1 : x1 = 1
    · replace h := h.1 c1
      refine q_tabI (off := 58) (tgt := 81) C dX9_count_23 (by rw [c1]; decide) (by rw [c1]; decide) (by rw [c1]; rfl) (by decide) ?_
      refine q_iload_n C dX9_count_81 rfl ?_
      refine q_if_eq (tgt := 92) C dX9_count_82 (by decide) (fun c => absurd c (by decide)) (fun _ => ?_)
      refine q_aload_n C dX9_count_85 rfl ?_
      refine q_cVi (as := []) (st := []) (r := P (P a0 0) 0) C mv_X2_slots ml_RX9_230 dX9_count_86 rfl s3 rfl (Nat.le_of_ble_eq_true rfl) ⟨Nat.le_refl _, Nat.le_refl _⟩ h (fun r10 I11 L12 P13 h => ?_)
      refine q_goto (tgt := 93) C dX9_count_89 (by decide) ?_
      exact q_iret C hk dX9_count_93 ⟨rfl, h⟩
    replace h := h.2
    by_cases c2 : x1 = 2
    · replace h := h.1 c2
      refine q_tabI (off := 71) (tgt := 94) C dX9_count_23 (by rw [c2]; decide) (by rw [c2]; decide) (by rw [c2]; rfl) (by decide) ?_
      refine q_iload_n C dX9_count_94 rfl ?_
      refine q_if_eq (tgt := 105) C dX9_count_95 (by decide) (fun c => absurd c (by decide)) (fun _ => ?_)
      refine q_aload_n C dX9_count_98 rfl ?_
      refine q_cVi (as := []) (st := []) (r := P (P a0 0) 0) C mv_X2_byes ml_RX9_176 dX9_count_99 rfl s3 rfl (Nat.le_of_ble_eq_true rfl) ⟨Nat.le_refl _, Nat.le_refl _⟩ h (fun r14 I15 L16 P17 h => ?_)
      refine q_goto (tgt := 106) C dX9_count_102 (by decide) ?_
      exact q_iret C hk dX9_count_106 ⟨rfl, h⟩
    replace h := h.2
    by_cases c3 : x1 = 3
    · replace h := h.1 c3
      refine q_tabI (off := 84) (tgt := 107) C dX9_count_23 (by rw [c3]; decide) (by rw [c3]; decide) (by rw [c3]; rfl) (by decide) ?_
      refine q_iload_n C dX9_count_107 rfl ?_
      refine q_if_eq (tgt := 118) C dX9_count_108 (by decide) (fun c => absurd c (by decide)) (fun _ => ?_)
      refine q_aload_n C dX9_count_111 rfl ?_
      refine q_cVi (as := []) (st := []) (r := P (P a0 0) 0) C mv_X2_rounds ml_RX9_269 dX9_count_112 rfl s3 rfl (Nat.le_of_ble_eq_true rfl) ⟨Nat.le_refl _, Nat.le_refl _⟩ h (fun r18 I19 L20 P21 h => ?_)
      refine q_goto (tgt := 119) C dX9_count_115 (by decide) ?_
      exact q_iret C hk dX9_count_119 ⟨rfl, h⟩
    replace h := h.2
    by_cases c4 : x1 = 4
    · replace h := h.1 c4
      refine q_tabI (off := 97) (tgt := 120) C dX9_count_23 (by rw [c4]; decide) (by rw [c4]; decide) (by rw [c4]; rfl) (by decide) ?_
      refine q_aload_n C dX9_count_120 rfl ?_
      refine q_getP C fl_RX9_10 rfl s1 dX9_count_121 ?_
      refine q_getP C fl_RX9_97 rfl s2 dX9_count_124 ?_
      have s22 := h.1
      replace h := h.2
      refine q_getI C fl_RX9_217 rfl s22 dX9_count_127 ?_
      exact q_iret C hk dX9_count_130 ⟨rfl, h⟩
    replace h := h.2
    by_cases c5 : x1 = 5
    · replace h := h.1 c5
      refine q_tabI (off := 108) (tgt := 131) C dX9_count_23 (by rw [c5]; decide) (by rw [c5]; decide) (by rw [c5]; rfl) (by decide) ?_
      refine q_aload_n C dX9_count_131 rfl ?_
      refine q_getI C fl_RX9_111 rfl s3 dX9_count_132 ?_
      exact q_iret C hk dX9_count_135 ⟨rfl, h⟩
    replace h := h.2
    by_cases c6 : x1 = 6
    · replace h := h.1 c6
      refine q_tabI (off := 113) (tgt := 136) C dX9_count_23 (by rw [c6]; decide) (by rw [c6]; decide) (by rw [c6]; rfl) (by decide) ?_
      refine q_aload_n C dX9_count_136 rfl ?_
      refine q_getI C fl_RX9_114 rfl s3 dX9_count_137 ?_
      exact q_iret C hk dX9_count_140 ⟨rfl, h⟩
    replace h := h.2
    by_cases c7 : x1 = 7
    · replace h := h.1 c7
      refine q_tabI (off := 118) (tgt := 141) C dX9_count_23 (by rw [c7]; decide) (by rw [c7]; decide) (by rw [c7]; rfl) (by decide) ?_
      refine q_aload_n C dX9_count_141 rfl ?_
      refine q_getP C fl_RX9_29 rfl s1 dX9_count_142 ?_
      have s23 := h.1
      replace h := h.2
      refine q_getP C fl_RX9_117 rfl s23 dX9_count_145 ?_
      have s24 := h.1
      replace h := h.2
      refine q_getI C fl_RX9_125 rfl s24 dX9_count_148 ?_
      exact q_iret C hk dX9_count_151 ⟨rfl, h⟩
    replace h := h.2
    by_cases c8 : x1 = 8
    · replace h := h.1 c8
      refine q_tabI (off := 129) (tgt := 152) C dX9_count_23 (by rw [c8]; decide) (by rw [c8]; decide) (by rw [c8]; rfl) (by decide) ?_
      refine q_aload_n C dX9_count_152 rfl ?_
      refine q_getP C fl_RX9_22 rfl s1 dX9_count_153 ?_
      have s25 := h.1
      replace h := h.2
      refine q_getI C fl_RX9_251 rfl s25 dX9_count_156 ?_
      exact q_iret C hk dX9_count_159 ⟨rfl, h⟩
    replace h := h.2
    by_cases c9 : x1 = 9
    · replace h := h.1 c9
      refine q_tabI (off := 137) (tgt := 160) C dX9_count_23 (by rw [c9]; decide) (by rw [c9]; decide) (by rw [c9]; rfl) (by decide) ?_
      refine q_aload_n C dX9_count_160 rfl ?_
      refine q_getP C fl_RX9_22 rfl s1 dX9_count_161 ?_
      have s26 := h.1
      replace h := h.2
      refine q_getI C fl_RX9_258 rfl s26 dX9_count_164 ?_
      refine q_aload_n C dX9_count_167 rfl ?_
      refine q_getP C fl_RX9_22 rfl s1 dX9_count_168 ?_
      refine q_getI C fl_RX9_251 rfl s26 dX9_count_171 ?_
      refine q_isub C dX9_count_174 ?_
      exact q_iret C hk dX9_count_175 ⟨rfl, h⟩
    replace h := h.2
    replace h := h c0 c1 c2 c3 c4 c5 c6 c7 c8 c9
    refine q_tabO (tgt := 176) C dX9_count_23 (by
      have t0 : Int32.toInt x1 ≠ 0 := fun q => c0 (Int32.toInt_inj.mp q)
      have t1 : Int32.toInt x1 ≠ 1 := fun q => c1 (Int32.toInt_inj.mp q)
      have t2 : Int32.toInt x1 ≠ 2 := fun q => c2 (Int32.toInt_inj.mp q)
      have t3 : Int32.toInt x1 ≠ 3 := fun q => c3 (Int32.toInt_inj.mp q)
      have t4 : Int32.toInt x1 ≠ 4 := fun q => c4 (Int32.toInt_inj.mp q)
      have t5 : Int32.toInt x1 ≠ 5 := fun q => c5 (Int32.toInt_inj.mp q)
      have t6 : Int32.toInt x1 ≠ 6 := fun q => c6 (Int32.toInt_inj.mp q)
      have t7 : Int32.toInt x1 ≠ 7 := fun q => c7 (Int32.toInt_inj.mp q)
      have t8 : Int32.toInt x1 ≠ 8 := fun q => c8 (Int32.toInt_inj.mp q)
      have t9 : Int32.toInt x1 ≠ 9 := fun q => c9 (Int32.toInt_inj.mp q)
      omega) (by decide) ?_
    refine q_iconst (v := (-1)) C dX9_count_176 (by decide) ?_
    exact q_iret C hk dX9_count_177 ⟨rfl, h⟩
theorem sp_X9_count {d : Nat} {sh : List qSh} {K : Option Value → qMI → qML → qMP → Prop} {a0 : Nat} {x1 : Int32} {I : qMI} {L : qML} {P : qMP} (h0 : vc_X9_count_0 d sh K a0 x1 I L P) : Sq (d + 1) mX9_count sh [.ref a0, .int x1] I L P K := by
  refine Sq_of (by decide +kernel) (Nat.le_of_ble_eq_true rfl) (fun X C hk hn => ?_)
  exact rg_X9_count_0 C hk h0
/-! BracketDraws.startAnew()V -/
def vc_X9_startAnew_0 (d : Nat) (sh : List qSh) (K : Option Value → qMI → qML → qMP → Prop) (a0 : Nat) (I : qMI) (L : qML) (P : qMP) : Prop :=
  ((shp sh a0).1 = 9) ∧ (((shp sh (P a0 0)).1 = 6) ∧ (((shp sh (P (P a0 0) 1)).1 = 1) ∧ (Sq d mX1_drop sh [.ref (P (P a0 0) 1)] I L P (KV fun I4 L5 P6 => ((shp sh (P6 a0 2)).1 = 3) ∧ (Sq d mX3_forget sh [.ref (P6 a0 2), .ref (P6 a0 0)] I4 L5 P6 (KV fun I8 L9 P10 => K none I8 L9 P10))))))
set_option maxRecDepth 100000 in
set_option maxHeartbeats 4000000 in
theorem rg_X9_startAnew_0 {X : qCT} {d : Nat} {sh : List qSh} {K : Option Value → qMI → qML → qMP → Prop} {a0 : Nat} {I : qMI} {L : qML} {P : qMP} (C : qCB X RX9 cX9_startAnew 1 (d + 1) 0 0) (hk : qCK X (none) 0 0 (fun v sh' I' L' P' => sh' = sh ∧ K v I' L' P')) (h : vc_X9_startAnew_0 d sh K a0 I L P) : qG X 0 [some (.ref a0)] [] sh I L P 0 0 := by
  unfold vc_X9_startAnew_0 at h
  refine q_aload_n C dX9_startAnew_0 rfl ?_
  have s1 := h.1
  replace h := h.2
  refine q_getP C fl_RX9_10 rfl s1 dX9_startAnew_1 ?_
  have s2 := h.1
  replace h := h.2
  refine q_getP C fl_RX9_97 rfl s2 dX9_startAnew_4 ?_
  have s3 := h.1
  replace h := h.2
  refine q_cVv (as := []) (st := []) (r := P (P a0 0) 1) C mv_X1_drop ml_RX9_100 dX9_startAnew_7 rfl s3 rfl (Nat.le_of_ble_eq_true rfl) ⟨Nat.le_refl _, Nat.le_refl _⟩ h (fun I4 L5 P6 h => ?_)
  refine q_aload_n C dX9_startAnew_10 rfl ?_
  refine q_getP C fl_RX9_22 rfl s1 dX9_startAnew_11 ?_
  refine q_aload_n C dX9_startAnew_14 rfl ?_
  refine q_getP C fl_RX9_10 rfl s1 dX9_startAnew_15 ?_
  have s7 := h.1
  replace h := h.2
  refine q_cVv (as := [.ref (P6 a0 0)]) (st := []) (r := P6 a0 2) C mv_X3_forget ml_RX9_266 dX9_startAnew_18 rfl s7 rfl (Nat.le_of_ble_eq_true rfl) ⟨Nat.le_refl _, Nat.le_refl _⟩ h (fun I8 L9 P10 h => ?_)
  exact q_vret C hk dX9_startAnew_21 ⟨rfl, h⟩
theorem sp_X9_startAnew {d : Nat} {sh : List qSh} {K : Option Value → qMI → qML → qMP → Prop} {a0 : Nat} {I : qMI} {L : qML} {P : qMP} (h0 : vc_X9_startAnew_0 d sh K a0 I L P) : Sq (d + 1) mX9_startAnew sh [.ref a0] I L P K := by
  refine Sq_of (by decide +kernel) (Nat.le_of_ble_eq_true rfl) (fun X C hk hn => ?_)
  exact rg_X9_startAnew_0 C hk h0
/-! BracketDraws.allDraws()J -/
def vc_X9_allDraws_0 (d : Nat) (sh : List qSh) (K : Option Value → qMI → qML → qMP → Prop) (a0 : Nat) (I : qMI) (L : qML) (P : qMP) : Prop :=
  ((shp sh a0).1 = 9) ∧ (((shp sh (P a0 0)).1 = 6) ∧ (((shp sh (P a0 4)).1 = 0) ∧ (Sq d mX0_isFor sh [.ref (P a0 4), .ref (P (P a0 0) 0)] I L P (KI fun r4 I5 L6 P7 => ((¬ r4 = 0) → (((shp sh (P7 a0 4)).1 = 0) ∧ (K (some (.long (L6 (P7 a0 4) 3))) I5 L6 P7))) ∧ ((r4 = 0) → (((shp sh (P7 a0 0)).1 = 6) ∧ (((shp sh (P7 a0 4)).1 = 0) ∧ (Sq d mX0_begin sh [.ref (P7 a0 4), .ref (P7 (P7 a0 0) 0)] I5 L6 P7 (KV fun I12 L13 P14 => ((shp sh (P14 a0 4)).1 = 0) ∧ (Sq d mX0_total sh [.ref (P14 a0 4)] I12 L13 P14 (KL fun r16 I17 L18 P19 => ∀ I20 : qMI, I20 = uI I17 a0 10 ((-4)) → (((shp sh (P19 a0 4)).1 = 0) ∧ (K (some (.long (L18 (P19 a0 4) 3))) I20 L18 P19)))))))))))))
set_option maxRecDepth 100000 in
set_option maxHeartbeats 4000000 in
theorem rg_X9_allDraws_0 {X : qCT} {d : Nat} {sh : List qSh} {K : Option Value → qMI → qML → qMP → Prop} {a0 : Nat} {I : qMI} {L : qML} {P : qMP} (C : qCB X RX9 cX9_allDraws 1 (d + 1) 0 0) (hk : qCK X (some .long) 0 0 (fun v sh' I' L' P' => sh' = sh ∧ K v I' L' P')) (h : vc_X9_allDraws_0 d sh K a0 I L P) : qG X 0 [some (.ref a0)] [] sh I L P 0 0 := by
  unfold vc_X9_allDraws_0 at h
  refine q_aload_n C dX9_allDraws_0 rfl ?_
  have s1 := h.1
  replace h := h.2
  refine q_getP C fl_RX9_36 rfl s1 dX9_allDraws_1 ?_
  refine q_aload_n C dX9_allDraws_4 rfl ?_
  refine q_getP C fl_RX9_10 rfl s1 dX9_allDraws_5 ?_
  have s2 := h.1
  replace h := h.2
  refine q_getP C fl_RX9_68 rfl s2 dX9_allDraws_8 ?_
  have s3 := h.1
  replace h := h.2
  refine q_cVi (as := [.ref (P (P a0 0) 0)]) (st := []) (r := P a0 4) C mv_X0_isFor ml_RX9_271 dX9_allDraws_11 rfl s3 rfl (Nat.le_of_ble_eq_true rfl) ⟨Nat.le_refl _, Nat.le_refl _⟩ h (fun r4 I5 L6 P7 h => ?_)
  refine q_if_ne (tgt := 45) C dX9_allDraws_14 (by decide) (fun c8 => ?_) (fun c8 => ?_)
  · replace h := h.1 c8
    refine q_aload_n C dX9_allDraws_45 rfl ?_
    refine q_getP C fl_RX9_36 rfl s1 dX9_allDraws_46 ?_
    have s9 := h.1
    replace h := h.2
    refine q_getL C fl_RX9_275 rfl s9 dX9_allDraws_49 ?_
    exact q_lret C hk dX9_allDraws_52 ⟨rfl, h⟩
  · replace h := h.2 c8
    refine q_aload_n C dX9_allDraws_17 rfl ?_
    refine q_getP C fl_RX9_36 rfl s1 dX9_allDraws_18 ?_
    refine q_aload_n C dX9_allDraws_21 rfl ?_
    refine q_getP C fl_RX9_10 rfl s1 dX9_allDraws_22 ?_
    have s10 := h.1
    replace h := h.2
    refine q_getP C fl_RX9_68 rfl s10 dX9_allDraws_25 ?_
    have s11 := h.1
    replace h := h.2
    refine q_cVv (as := [.ref (P7 (P7 a0 0) 0)]) (st := []) (r := P7 a0 4) C mv_X0_begin ml_RX9_148 dX9_allDraws_28 rfl s11 rfl (Nat.le_of_ble_eq_true rfl) ⟨Nat.le_refl _, Nat.le_refl _⟩ h (fun I12 L13 P14 h => ?_)
    refine q_aload_n C dX9_allDraws_31 rfl ?_
    refine q_getP C fl_RX9_36 rfl s1 dX9_allDraws_32 ?_
    have s15 := h.1
    replace h := h.2
    refine q_cVl (as := []) (st := []) (r := P14 a0 4) C mv_X0_total ml_RX9_155 dX9_allDraws_35 rfl s15 rfl (Nat.le_of_ble_eq_true rfl) ⟨Nat.le_refl _, Nat.le_refl _⟩ h (fun r16 I17 L18 P19 h => ?_)
    refine q_pop2 C dX9_allDraws_38 ?_
    refine q_aload_n C dX9_allDraws_39 rfl ?_
    refine q_bipush (v := (-4)) C dX9_allDraws_40 (by decide) ?_
    refine q_putI C fl_RX9_64 (fun T hT => by cases hT; rfl) rfl s1 dX9_allDraws_42 (fun I20 eI20 => ?_)
    replace h := h I20 eI20
    refine q_aload_n C dX9_allDraws_45 rfl ?_
    refine q_getP C fl_RX9_36 rfl s1 dX9_allDraws_46 ?_
    have s21 := h.1
    replace h := h.2
    refine q_getL C fl_RX9_275 rfl s21 dX9_allDraws_49 ?_
    exact q_lret C hk dX9_allDraws_52 ⟨rfl, h⟩
theorem sp_X9_allDraws {d : Nat} {sh : List qSh} {K : Option Value → qMI → qML → qMP → Prop} {a0 : Nat} {I : qMI} {L : qML} {P : qMP} (h0 : vc_X9_allDraws_0 d sh K a0 I L P) : Sq (d + 1) mX9_allDraws sh [.ref a0] I L P K := by
  refine Sq_of (by decide +kernel) (Nat.le_of_ble_eq_true rfl) (fun X C hk hn => ?_)
  exact rg_X9_allDraws_0 C hk h0
/-! BracketDraws.watched(III)J -/
def vc_X9_watched_0 (d : Nat) (sh : List qSh) (K : Option Value → qMI → qML → qMP → Prop) (a0 : Nat) (x1 : Int32) (x2 : Int32) (x3 : Int32) (I : qMI) (L : qML) (P : qMP) : Prop :=
  ((shp sh a0).1 = 9) ∧ (Sq d mX9_allDraws sh [.ref a0] I L P (KL fun r2 I3 L4 P5 => ((¬ r2 = 0) → (((shp sh (P5 a0 0)).1 = 6) ∧ (((shp sh (P5 a0 5)).1 = 0) ∧ (Sq d mX0_begin sh [.ref (P5 a0 5), .ref (P5 (P5 a0 0) 0)] I3 L4 P5 (KV fun I9 L10 P11 => ((shp sh (P11 a0 5)).1 = 0) ∧ (((shp sh (P11 (P11 a0 5) 0)).1 = 5) ∧ (Sq d mX5_watch sh [.ref (P11 (P11 a0 5) 0), .int x1, .int x2, .int x3] I9 L10 P11 (KV fun I14 L15 P16 => ((shp sh (P16 a0 5)).1 = 0) ∧ (Sq d mX0_total sh [.ref (P16 a0 5)] I14 L15 P16 (KL fun r18 I19 L20 P21 => K (some (.long r18)) I19 L20 P21)))))))))) ∧ ((r2 = 0) → (K (some (.long 0)) I3 L4 P5))))
set_option maxRecDepth 100000 in
set_option maxHeartbeats 4000000 in
theorem rg_X9_watched_0 {X : qCT} {d : Nat} {sh : List qSh} {K : Option Value → qMI → qML → qMP → Prop} {a0 : Nat} {x1 : Int32} {x2 : Int32} {x3 : Int32} {I : qMI} {L : qML} {P : qMP} (C : qCB X RX9 cX9_watched 4 (d + 1) 0 0) (hk : qCK X (some .long) 0 0 (fun v sh' I' L' P' => sh' = sh ∧ K v I' L' P')) (h : vc_X9_watched_0 d sh K a0 x1 x2 x3 I L P) : qG X 0 [some (.ref a0), some (.int x1), some (.int x2), some (.int x3)] [] sh I L P 0 0 := by
  unfold vc_X9_watched_0 at h
  refine q_aload_n C dX9_watched_0 rfl ?_
  have s1 := h.1
  replace h := h.2
  refine q_cVl (as := []) (st := []) (r := a0) C mv_X9_allDraws ml_RX9_139 dX9_watched_1 rfl s1 rfl (Nat.le_of_ble_eq_true rfl) ⟨Nat.le_refl _, Nat.le_refl _⟩ h (fun r2 I3 L4 P5 h => ?_)
  refine q_lconst (v := 0) C dX9_watched_4 (by decide) ?_
  refine q_lcmp_ne (tgt := 11) C dX9_watched_5 dX9_watched_6 (by decide) (fun c6 => ?_) (fun c6 => ?_)
  · replace h := h.1 c6
    refine q_aload_n C dX9_watched_11 rfl ?_
    refine q_getP C fl_RX9_40 rfl s1 dX9_watched_12 ?_
    refine q_aload_n C dX9_watched_15 rfl ?_
    refine q_getP C fl_RX9_10 rfl s1 dX9_watched_16 ?_
    have s7 := h.1
    replace h := h.2
    refine q_getP C fl_RX9_68 rfl s7 dX9_watched_19 ?_
    have s8 := h.1
    replace h := h.2
    refine q_cVv (as := [.ref (P5 (P5 a0 0) 0)]) (st := []) (r := P5 a0 5) C mv_X0_begin ml_RX9_148 dX9_watched_22 rfl s8 rfl (Nat.le_of_ble_eq_true rfl) ⟨Nat.le_refl _, Nat.le_refl _⟩ h (fun I9 L10 P11 h => ?_)
    refine q_aload_n C dX9_watched_25 rfl ?_
    refine q_getP C fl_RX9_40 rfl s1 dX9_watched_26 ?_
    have s12 := h.1
    replace h := h.2
    refine q_getP C fl_RX9_278 rfl s12 dX9_watched_29 ?_
    refine q_iload_n C dX9_watched_32 rfl ?_
    refine q_iload_n C dX9_watched_33 rfl ?_
    refine q_iload_n C dX9_watched_34 rfl ?_
    have s13 := h.1
    replace h := h.2
    refine q_cVv (as := [.int x1, .int x2, .int x3]) (st := []) (r := P11 (P11 a0 5) 0) C mv_X5_watch ml_RX9_282 dX9_watched_35 rfl s13 rfl (Nat.le_of_ble_eq_true rfl) ⟨Nat.le_refl _, Nat.le_refl _⟩ h (fun I14 L15 P16 h => ?_)
    refine q_aload_n C dX9_watched_38 rfl ?_
    refine q_getP C fl_RX9_40 rfl s1 dX9_watched_39 ?_
    have s17 := h.1
    replace h := h.2
    refine q_cVl (as := []) (st := []) (r := P16 a0 5) C mv_X0_total ml_RX9_155 dX9_watched_42 rfl s17 rfl (Nat.le_of_ble_eq_true rfl) ⟨Nat.le_refl _, Nat.le_refl _⟩ h (fun r18 I19 L20 P21 h => ?_)
    exact q_lret C hk dX9_watched_45 ⟨rfl, h⟩
  · replace h := h.2 c6
    refine q_lconst (v := 0) C dX9_watched_9 (by decide) ?_
    exact q_lret C hk dX9_watched_10 ⟨rfl, h⟩
theorem sp_X9_watched {d : Nat} {sh : List qSh} {K : Option Value → qMI → qML → qMP → Prop} {a0 : Nat} {x1 : Int32} {x2 : Int32} {x3 : Int32} {I : qMI} {L : qML} {P : qMP} (h0 : vc_X9_watched_0 d sh K a0 x1 x2 x3 I L P) : Sq (d + 1) mX9_watched sh [.ref a0, .int x1, .int x2, .int x3] I L P K := by
  refine Sq_of (by decide +kernel) (Nat.le_of_ble_eq_true rfl) (fun X C hk hn => ?_)
  exact rg_X9_watched_0 C hk h0
/-! BracketDraws.takeNumbered(J)V -/
def vc_X9_takeNumbered_0 (d : Nat) (sh : List qSh) (K : Option Value → qMI → qML → qMP → Prop) (a0 : Nat) (l1 : Int64) (I : qMI) (L : qML) (P : qMP) : Prop :=
  ((shp sh a0).1 = 9) ∧ (((shp sh (P a0 0)).1 = 6) ∧ (((shp sh (P (P a0 0) 1)).1 = 1) ∧ (((shp sh (P a0 6)).1 = 4) ∧ (Sq d mX4_lay sh [.ref (P a0 6), .ref (P a0 4), .long l1, .ref (P (P (P a0 0) 1) 5)] I L P (KV fun I5 L6 P7 => ((shp sh (P7 a0 0)).1 = 6) ∧ (((shp sh (P7 (P7 a0 0) 1)).1 = 1) ∧ (Sq d mX1_begin sh [.ref (P7 (P7 a0 0) 1), .long l1, .ref (P7 (P7 a0 0) 0)] I5 L6 P7 (KV fun I10 L11 P12 => ((shp sh (P12 a0 2)).1 = 3) ∧ (Sq d mX3_remember sh [.ref (P12 a0 2), .ref (P12 a0 0)] I10 L11 P12 (KV fun I14 L15 P16 => K none I14 L15 P16))))))))))
set_option maxRecDepth 100000 in
set_option maxHeartbeats 4000000 in
theorem rg_X9_takeNumbered_0 {X : qCT} {d : Nat} {sh : List qSh} {K : Option Value → qMI → qML → qMP → Prop} {a0 : Nat} {l1 : Int64} {I : qMI} {L : qML} {P : qMP} (C : qCB X RX9 cX9_takeNumbered 3 (d + 1) 0 0) (hk : qCK X (none) 0 0 (fun v sh' I' L' P' => sh' = sh ∧ K v I' L' P')) (h : vc_X9_takeNumbered_0 d sh K a0 l1 I L P) : qG X 0 [some (.ref a0), some (.long l1), none] [] sh I L P 0 0 := by
  unfold vc_X9_takeNumbered_0 at h
  refine q_aload_n C dX9_takeNumbered_0 rfl ?_
  have s1 := h.1
  replace h := h.2
  refine q_getP C fl_RX9_46 rfl s1 dX9_takeNumbered_1 ?_
  refine q_aload_n C dX9_takeNumbered_4 rfl ?_
  refine q_getP C fl_RX9_36 rfl s1 dX9_takeNumbered_5 ?_
  refine q_lload_n C dX9_takeNumbered_8 rfl ?_
  refine q_aload_n C dX9_takeNumbered_9 rfl ?_
  refine q_getP C fl_RX9_10 rfl s1 dX9_takeNumbered_10 ?_
  have s2 := h.1
  replace h := h.2
  refine q_getP C fl_RX9_97 rfl s2 dX9_takeNumbered_13 ?_
  have s3 := h.1
  replace h := h.2
  refine q_getP C fl_RX9_287 rfl s3 dX9_takeNumbered_16 ?_
  have s4 := h.1
  replace h := h.2
  refine q_cVv (as := [.ref (P a0 4), .long l1, .ref (P (P (P a0 0) 1) 5)]) (st := []) (r := P a0 6) C mv_X4_lay ml_RX9_291 dX9_takeNumbered_19 rfl s4 rfl (Nat.le_of_ble_eq_true rfl) ⟨Nat.le_refl _, Nat.le_refl _⟩ h (fun I5 L6 P7 h => ?_)
  refine q_aload_n C dX9_takeNumbered_22 rfl ?_
  refine q_getP C fl_RX9_10 rfl s1 dX9_takeNumbered_23 ?_
  have s8 := h.1
  replace h := h.2
  refine q_getP C fl_RX9_97 rfl s8 dX9_takeNumbered_26 ?_
  refine q_lload_n C dX9_takeNumbered_29 rfl ?_
  refine q_aload_n C dX9_takeNumbered_30 rfl ?_
  refine q_getP C fl_RX9_10 rfl s1 dX9_takeNumbered_31 ?_
  refine q_getP C fl_RX9_68 rfl s8 dX9_takeNumbered_34 ?_
  have s9 := h.1
  replace h := h.2
  refine q_cVv (as := [.long l1, .ref (P7 (P7 a0 0) 0)]) (st := []) (r := P7 (P7 a0 0) 1) C mv_X1_begin ml_RX9_295 dX9_takeNumbered_37 rfl s9 rfl (Nat.le_of_ble_eq_true rfl) ⟨Nat.le_refl _, Nat.le_refl _⟩ h (fun I10 L11 P12 h => ?_)
  refine q_aload_n C dX9_takeNumbered_40 rfl ?_
  refine q_getP C fl_RX9_22 rfl s1 dX9_takeNumbered_41 ?_
  refine q_aload_n C dX9_takeNumbered_44 rfl ?_
  refine q_getP C fl_RX9_10 rfl s1 dX9_takeNumbered_45 ?_
  have s13 := h.1
  replace h := h.2
  refine q_cVv (as := [.ref (P12 a0 0)]) (st := []) (r := P12 a0 2) C mv_X3_remember ml_RX9_103 dX9_takeNumbered_48 rfl s13 rfl (Nat.le_of_ble_eq_true rfl) ⟨Nat.le_refl _, Nat.le_refl _⟩ h (fun I14 L15 P16 h => ?_)
  exact q_vret C hk dX9_takeNumbered_51 ⟨rfl, h⟩
theorem sp_X9_takeNumbered {d : Nat} {sh : List qSh} {K : Option Value → qMI → qML → qMP → Prop} {a0 : Nat} {l1 : Int64} {I : qMI} {L : qML} {P : qMP} (h0 : vc_X9_takeNumbered_0 d sh K a0 l1 I L P) : Sq (d + 1) mX9_takeNumbered sh [.ref a0, .long l1] I L P K := by
  refine Sq_of (by decide +kernel) (Nat.le_of_ble_eq_true rfl) (fun X C hk hn => ?_)
  exact rg_X9_takeNumbered_0 C hk h0
/-! BracketDraws.searchLevels()I -/
def vc_X9_searchLevels_0 (d : Nat) (sh : List qSh) (K : Option Value → qMI → qML → qMP → Prop) (T1 : Int32 → qMI → qML → qMP → Prop) (a0 : Nat) (I : qMI) (L : qML) (P : qMP) : Prop :=
  ((shp sh a0).1 = 9) ∧ (((shp sh (P a0 0)).1 = 6) ∧ (((shp sh (P a0 7)).1 = 2) ∧ (Sq d mX2_copyFrom sh [.ref (P a0 7), .ref (P (P a0 0) 0)] I L P (KV fun I4 L5 P6 => T1 0 I4 L5 P6))))
set_option maxRecDepth 100000 in
set_option maxHeartbeats 4000000 in
theorem rg_X9_searchLevels_0 {X : qCT} {d : Nat} {sh : List qSh} {K : Option Value → qMI → qML → qMP → Prop} {T1 : Int32 → qMI → qML → qMP → Prop} {a0 : Nat} {I : qMI} {L : qML} {P : qMP} (C : qCB X RX9 cX9_searchLevels 2 (d + 1) 0 0) (hk : qCK X (some .int) 0 0 (fun v sh' I' L' P' => sh' = sh ∧ K v I' L' P')) (hT1 : ∀ (x1 : Int32) (I : qMI) (L : qML) (P : qMP), T1 x1 I L P → qG X 16 [some (.ref a0), some (.int x1)] [] sh I L P 0 0) (h : vc_X9_searchLevels_0 d sh K T1 a0 I L P) : qG X 0 [some (.ref a0), none] [] sh I L P 0 0 := by
  unfold vc_X9_searchLevels_0 at h
  refine q_aload_n C dX9_searchLevels_0 rfl ?_
  have s1 := h.1
  replace h := h.2
  refine q_getP C fl_RX9_53 rfl s1 dX9_searchLevels_1 ?_
  refine q_aload_n C dX9_searchLevels_4 rfl ?_
  refine q_getP C fl_RX9_10 rfl s1 dX9_searchLevels_5 ?_
  have s2 := h.1
  replace h := h.2
  refine q_getP C fl_RX9_68 rfl s2 dX9_searchLevels_8 ?_
  have s3 := h.1
  replace h := h.2
  refine q_cVv (as := [.ref (P (P a0 0) 0)]) (st := []) (r := P a0 7) C mv_X2_copyFrom ml_RX9_133 dX9_searchLevels_11 rfl s3 rfl (Nat.le_of_ble_eq_true rfl) ⟨Nat.le_refl _, Nat.le_refl _⟩ h (fun I4 L5 P6 h => ?_)
  refine q_iconst (v := 0) C dX9_searchLevels_14 (by decide) ?_
  refine q_istore_n (lo1 := [some (.ref a0), some (.int 0)]) C dX9_searchLevels_15 (by decide) rfl ?_
  exact hT1 _ _ _ _ h
def vc_X9_searchLevels_1 (d : Nat) (sh : List qSh) (K : Option Value → qMI → qML → qMP → Prop) (T1 : Int32 → qMI → qML → qMP → Prop) (a0 : Nat) (x1 : Int32) (I : qMI) (L : qML) (P : qMP) : Prop :=
  ((8 ≤ x1) → (K (some (.int ((-2)))) I L P)) ∧ ((¬ 8 ≤ x1) → (((shp sh a0).1 = 9) ∧ (((shp sh (P a0 7)).1 = 2) ∧ ((((I (P a0 7) 2) ≤ 0) → ((((I (P a0 7) 1) ≤ 0) → (K (some (.int ((-2)))) I L P)) ∧ ((¬ (I (P a0 7) 1) ≤ 0) → (∀ I6 : qMI, I6 = uI I (P a0 7) 1 ((I (P a0 7) 1) - 1) → (((shp sh (P a0 5)).1 = 0) ∧ (Sq d mX0_begin sh [.ref (P a0 5), .ref (P a0 7)] I6 L P (KV fun I8 L9 P10 => ((shp sh (P10 a0 5)).1 = 0) ∧ (Sq d mX0_total sh [.ref (P10 a0 5)] I8 L9 P10 (KL fun r12 I13 L14 P15 => ((r12 ≤ 0) → (T1 (x1 + 1) I13 L14 P15)) ∧ ((¬ r12 ≤ 0) → (((shp sh (P15 a0 7)).1 = 2) ∧ (Sq d mX2_bothLevels sh [.ref (P15 a0 7)] I13 L14 P15 (KI fun r18 I19 L20 P21 => K (some (.int r18)) I19 L20 P21))))))))))))) ∧ ((¬ (I (P a0 7) 2) ≤ 0) → (∀ I22 : qMI, I22 = uI I (P a0 7) 2 ((I (P a0 7) 2) - 1) → (((shp sh (P a0 5)).1 = 0) ∧ (Sq d mX0_begin sh [.ref (P a0 5), .ref (P a0 7)] I22 L P (KV fun I24 L25 P26 => ((shp sh (P26 a0 5)).1 = 0) ∧ (Sq d mX0_total sh [.ref (P26 a0 5)] I24 L25 P26 (KL fun r28 I29 L30 P31 => ((r28 ≤ 0) → (T1 (x1 + 1) I29 L30 P31)) ∧ ((¬ r28 ≤ 0) → (((shp sh (P31 a0 7)).1 = 2) ∧ (Sq d mX2_bothLevels sh [.ref (P31 a0 7)] I29 L30 P31 (KI fun r34 I35 L36 P37 => K (some (.int r34)) I35 L36 P37)))))))))))))))
set_option maxRecDepth 100000 in
set_option maxHeartbeats 4000000 in
theorem rg_X9_searchLevels_1 {X : qCT} {d : Nat} {sh : List qSh} {K : Option Value → qMI → qML → qMP → Prop} {T1 : Int32 → qMI → qML → qMP → Prop} {a0 : Nat} {x1 : Int32} {I : qMI} {L : qML} {P : qMP} (C : qCB X RX9 cX9_searchLevels 2 (d + 1) 0 0) (hk : qCK X (some .int) 0 0 (fun v sh' I' L' P' => sh' = sh ∧ K v I' L' P')) (hT1 : ∀ (x1 : Int32) (I : qMI) (L : qML) (P : qMP), T1 x1 I L P → qG X 16 [some (.ref a0), some (.int x1)] [] sh I L P 0 0) (h : vc_X9_searchLevels_1 d sh K T1 a0 x1 I L P) : qG X 16 [some (.ref a0), some (.int x1)] [] sh I L P 0 0 := by
  unfold vc_X9_searchLevels_1 at h
  refine q_iload_n C dX9_searchLevels_16 rfl ?_
  refine q_bipush (v := 8) C dX9_searchLevels_17 (by decide) ?_
  refine q_icmp_ge (tgt := 114) C dX9_searchLevels_19 (by decide) (fun c1 => ?_) (fun c1 => ?_)
  · replace h := h.1 c1
    refine q_bipush (v := (-2)) C dX9_searchLevels_114 (by decide) ?_
    exact q_iret C hk dX9_searchLevels_116 ⟨rfl, h⟩
  · replace h := h.2 c1
    refine q_aload_n C dX9_searchLevels_22 rfl ?_
    have s2 := h.1
    replace h := h.2
    refine q_getP C fl_RX9_53 rfl s2 dX9_searchLevels_23 ?_
    have s3 := h.1
    replace h := h.2
    refine q_getI C fl_RX9_114 rfl s3 dX9_searchLevels_26 ?_
    refine q_if_le (tgt := 48) C dX9_searchLevels_29 (by decide) (fun c4 => ?_) (fun c4 => ?_)
    · replace h := h.1 c4
      refine q_aload_n C dX9_searchLevels_48 rfl ?_
      refine q_getP C fl_RX9_53 rfl s2 dX9_searchLevels_49 ?_
      refine q_getI C fl_RX9_111 rfl s3 dX9_searchLevels_52 ?_
      refine q_if_le (tgt := 74) C dX9_searchLevels_55 (by decide) (fun c5 => ?_) (fun c5 => ?_)
      · replace h := h.1 c5
        refine q_bipush (v := (-2)) C dX9_searchLevels_74 (by decide) ?_
        exact q_iret C hk dX9_searchLevels_76 ⟨rfl, h⟩
      · replace h := h.2 c5
        refine q_aload_n C dX9_searchLevels_58 rfl ?_
        refine q_getP C fl_RX9_53 rfl s2 dX9_searchLevels_59 ?_
        refine q_dup C dX9_searchLevels_62 rfl ?_
        refine q_getI C fl_RX9_111 rfl s3 dX9_searchLevels_63 ?_
        refine q_iconst (v := 1) C dX9_searchLevels_66 (by decide) ?_
        refine q_isub C dX9_searchLevels_67 ?_
        refine q_putI C fl_RX9_111 (fun T hT => by cases hT; rfl) rfl s3 dX9_searchLevels_68 (fun I6 eI6 => ?_)
        replace h := h I6 eI6
        refine q_goto (tgt := 77) C dX9_searchLevels_71 (by decide) ?_
        refine q_aload_n C dX9_searchLevels_77 rfl ?_
        refine q_getP C fl_RX9_40 rfl s2 dX9_searchLevels_78 ?_
        refine q_aload_n C dX9_searchLevels_81 rfl ?_
        refine q_getP C fl_RX9_53 rfl s2 dX9_searchLevels_82 ?_
        have s7 := h.1
        replace h := h.2
        refine q_cVv (as := [.ref (P a0 7)]) (st := []) (r := P a0 5) C mv_X0_begin ml_RX9_148 dX9_searchLevels_85 rfl s7 rfl (Nat.le_of_ble_eq_true rfl) ⟨Nat.le_refl _, Nat.le_refl _⟩ h (fun I8 L9 P10 h => ?_)
        refine q_aload_n C dX9_searchLevels_88 rfl ?_
        refine q_getP C fl_RX9_40 rfl s2 dX9_searchLevels_89 ?_
        have s11 := h.1
        replace h := h.2
        refine q_cVl (as := []) (st := []) (r := P10 a0 5) C mv_X0_total ml_RX9_155 dX9_searchLevels_92 rfl s11 rfl (Nat.le_of_ble_eq_true rfl) ⟨Nat.le_refl _, Nat.le_refl _⟩ h (fun r12 I13 L14 P15 h => ?_)
        refine q_lconst (v := 0) C dX9_searchLevels_95 (by decide) ?_
        refine q_lcmp_le (tgt := 108) C dX9_searchLevels_96 dX9_searchLevels_97 (by decide) (fun c16 => ?_) (fun c16 => ?_)
        · replace h := h.1 c16
          refine q_iinc (w := 1) (lo1 := [some (.ref a0), some (.int (x1 + 1))]) C dX9_searchLevels_108 rfl (by decide) (by decide) rfl ?_
          refine q_goto (tgt := 16) C dX9_searchLevels_111 (by decide) ?_
          exact hT1 _ _ _ _ h
        · replace h := h.2 c16
          refine q_aload_n C dX9_searchLevels_100 rfl ?_
          refine q_getP C fl_RX9_53 rfl s2 dX9_searchLevels_101 ?_
          have s17 := h.1
          replace h := h.2
          refine q_cVi (as := []) (st := []) (r := P15 a0 7) C mv_X2_bothLevels ml_RX9_207 dX9_searchLevels_104 rfl s17 rfl (Nat.le_of_ble_eq_true rfl) ⟨Nat.le_refl _, Nat.le_refl _⟩ h (fun r18 I19 L20 P21 h => ?_)
          exact q_iret C hk dX9_searchLevels_107 ⟨rfl, h⟩
    · replace h := h.2 c4
      refine q_aload_n C dX9_searchLevels_32 rfl ?_
      refine q_getP C fl_RX9_53 rfl s2 dX9_searchLevels_33 ?_
      refine q_dup C dX9_searchLevels_36 rfl ?_
      refine q_getI C fl_RX9_114 rfl s3 dX9_searchLevels_37 ?_
      refine q_iconst (v := 1) C dX9_searchLevels_40 (by decide) ?_
      refine q_isub C dX9_searchLevels_41 ?_
      refine q_putI C fl_RX9_114 (fun T hT => by cases hT; rfl) rfl s3 dX9_searchLevels_42 (fun I22 eI22 => ?_)
      replace h := h I22 eI22
      refine q_goto (tgt := 77) C dX9_searchLevels_45 (by decide) ?_
      refine q_aload_n C dX9_searchLevels_77 rfl ?_
      refine q_getP C fl_RX9_40 rfl s2 dX9_searchLevels_78 ?_
      refine q_aload_n C dX9_searchLevels_81 rfl ?_
      refine q_getP C fl_RX9_53 rfl s2 dX9_searchLevels_82 ?_
      have s23 := h.1
      replace h := h.2
      refine q_cVv (as := [.ref (P a0 7)]) (st := []) (r := P a0 5) C mv_X0_begin ml_RX9_148 dX9_searchLevels_85 rfl s23 rfl (Nat.le_of_ble_eq_true rfl) ⟨Nat.le_refl _, Nat.le_refl _⟩ h (fun I24 L25 P26 h => ?_)
      refine q_aload_n C dX9_searchLevels_88 rfl ?_
      refine q_getP C fl_RX9_40 rfl s2 dX9_searchLevels_89 ?_
      have s27 := h.1
      replace h := h.2
      refine q_cVl (as := []) (st := []) (r := P26 a0 5) C mv_X0_total ml_RX9_155 dX9_searchLevels_92 rfl s27 rfl (Nat.le_of_ble_eq_true rfl) ⟨Nat.le_refl _, Nat.le_refl _⟩ h (fun r28 I29 L30 P31 h => ?_)
      refine q_lconst (v := 0) C dX9_searchLevels_95 (by decide) ?_
      refine q_lcmp_le (tgt := 108) C dX9_searchLevels_96 dX9_searchLevels_97 (by decide) (fun c32 => ?_) (fun c32 => ?_)
      · replace h := h.1 c32
        refine q_iinc (w := 1) (lo1 := [some (.ref a0), some (.int (x1 + 1))]) C dX9_searchLevels_108 rfl (by decide) (by decide) rfl ?_
        refine q_goto (tgt := 16) C dX9_searchLevels_111 (by decide) ?_
        exact hT1 _ _ _ _ h
      · replace h := h.2 c32
        refine q_aload_n C dX9_searchLevels_100 rfl ?_
        refine q_getP C fl_RX9_53 rfl s2 dX9_searchLevels_101 ?_
        have s33 := h.1
        replace h := h.2
        refine q_cVi (as := []) (st := []) (r := P31 a0 7) C mv_X2_bothLevels ml_RX9_207 dX9_searchLevels_104 rfl s33 rfl (Nat.le_of_ble_eq_true rfl) ⟨Nat.le_refl _, Nat.le_refl _⟩ h (fun r34 I35 L36 P37 h => ?_)
        exact q_iret C hk dX9_searchLevels_107 ⟨rfl, h⟩
theorem sp_X9_searchLevels {d : Nat} {sh : List qSh} {K : Option Value → qMI → qML → qMP → Prop} {a0 : Nat} {I : qMI} {L : qML} {P : qMP} (T1 : Int32 → qMI → qML → qMP → Prop) (m1 : Int32 → qMI → qML → qMP → Nat) (h0 : vc_X9_searchLevels_0 d sh K T1 a0 I L P)
    (h1 : ∀ (x1 : Int32) (I : qMI) (L : qML) (P : qMP), T1 x1 I L P → vc_X9_searchLevels_1 d sh K (fun w0 I' L' P' => T1 w0 I' L' P' ∧ m1 w0 I' L' P' < m1 x1 I L P) a0 x1 I L P) : Sq (d + 1) mX9_searchLevels sh [.ref a0] I L P K := by
  refine Sq_of (by decide +kernel) (Nat.le_of_ble_eq_true rfl) (fun X C hk hn => ?_)
  have go : ∀ N : Nat, (∀ (x1 : Int32) (I : qMI) (L : qML) (P : qMP), T1 x1 I L P → m1 x1 I L P < N → qG X 16 [some (.ref a0), some (.int x1)] [] sh I L P 0 0) := by
    intro N
    induction N with
    | zero => exact fun _ _ _ _ _ q => absurd q (Nat.not_lt_zero _)
    | succ N ih =>
      exact fun b0 I1 L1 P1 t q => rg_X9_searchLevels_1 C hk (fun z0 I2 L2 P2 z => ih z0 I2 L2 P2 z.1 (Nat.lt_of_lt_of_le z.2 (Nat.le_of_lt_succ q))) (h1 b0 I1 L1 P1 t)
  exact rg_X9_searchLevels_0 C hk (fun b0 I1 L1 P1 t => (go (m1 b0 I1 L1 P1 + 1)) b0 I1 L1 P1 t (Nat.lt_succ_self _)) h0
