/-! BracketDraws$Entries() -/
def vc_X2_init_0 (d : Nat) (sh : List qSh) (K : Option Value → List qSh → qMI → qML → qMP → Prop) (a0 : Nat) (I : qMI) (L : qML) (P : qMP) : Prop :=
  (¬ a0 = 0) ∧ (((shp sh a0).1 = 2) ∧ (∀ I3 : qMI, I3 = uI I a0 1 1 → (∀ sh4 : List qSh, sh4 = sh ++ [(20, 40)] → (((shp sh4 a0).1 = 2) ∧ (∀ P6 : qMP, P6 = uP P a0 3 (sh.length + 1) → (K none sh4 I3 L P6))))))
set_option maxRecDepth 100000 in
set_option maxHeartbeats 4000000 in
theorem rg_X2_init_0 {X : qCT} {d : Nat} {sh : List qSh} {K : Option Value → List qSh → qMI → qML → qMP → Prop} {a0 : Nat} {I : qMI} {L : qML} {P : qMP} (C : qCB X RX2 cX2_init 1 (d + 1) 1 40) (hk : qCK X (none) 1 40 K) (hn : (qMn X).name = "<init>") (h : vc_X2_init_0 d sh K a0 I L P) : qG X 0 [some (.ref a0)] [] sh I L P 0 0 := by
  unfold vc_X2_init_0 at h
  refine q_aload_n C dX2_init_0 rfl ?_
  have s1 := h.1
  replace h := h.2
  refine q_oinit C ml_RX2_3 s1 (Nat.le_of_ble_eq_true rfl) dX2_init_1 ?_
  refine q_aload_n C dX2_init_4 rfl ?_
  refine q_iconst (v := 1) C dX2_init_5 (by decide) ?_
  have s2 := h.1
  replace h := h.2
  refine q_putI C fl_RX2_9 (fun T hT => by cases hT; rfl) rfl s2 dX2_init_6 (fun I3 eI3 => ?_)
  replace h := h I3 eI3
  refine q_aload_n C dX2_init_9 rfl ?_
  refine q_bipush (v := 40) C dX2_init_10 (by decide) ?_
  refine q_newI (N := 40) C (by decide) (by decide) (by decide) ⟨Nat.le_of_ble_eq_true rfl, Nat.le_of_ble_eq_true rfl⟩ dX2_init_12 ?_
  refine nm_sh (fun sh4 esh4 => ?_)
  replace h := h sh4 esh4
  have s5 := h.1
  replace h := h.2
  refine q_putPF C fl_RX2_15 hn (fun q hq => by cases hq; rfl) (fun T hT => by cases hT; exact ⟨_, rfl, rfl⟩) rfl s5 (Nat.succ_ne_zero _) dX2_init_14 (fun P6 eP6 => ?_)
  replace h := h P6 eP6
  refine q_widen (k := 1) (z := 40) (by decide) (by decide) ?_
  exact q_vret C hk dX2_init_17 h
theorem sp_X2_init {d : Nat} {sh : List qSh} {K : Option Value → List qSh → qMI → qML → qMP → Prop} {a0 : Nat} {I : qMI} {L : qML} {P : qMP} (h0 : vc_X2_init_0 d sh K a0 I L P) : SqN (d + 1) 1 40 mX2_init sh [.ref a0] I L P K := by
  refine Sq_of (by decide +kernel) (Nat.le_of_ble_eq_true rfl) (fun X C hk hn => ?_)
  exact rg_X2_init_0 C hk hn h0
/-! BracketDraws$Tape() -/
def vc_X7_init_0 (d : Nat) (sh : List qSh) (K : Option Value → List qSh → qMI → qML → qMP → Prop) (a0 : Nat) (I : qMI) (L : qML) (P : qMP) : Prop :=
  (¬ a0 = 0) ∧ (∀ sh2 : List qSh, sh2 = sh ++ [(20, 120)] → (((shp sh2 a0).1 = 7) ∧ (∀ P4 : qMP, P4 = uP P a0 0 (sh.length + 1) → (K none sh2 I L P4))))
set_option maxRecDepth 100000 in
set_option maxHeartbeats 4000000 in
theorem rg_X7_init_0 {X : qCT} {d : Nat} {sh : List qSh} {K : Option Value → List qSh → qMI → qML → qMP → Prop} {a0 : Nat} {I : qMI} {L : qML} {P : qMP} (C : qCB X RX7 cX7_init 1 (d + 1) 1 120) (hk : qCK X (none) 1 120 K) (hn : (qMn X).name = "<init>") (h : vc_X7_init_0 d sh K a0 I L P) : qG X 0 [some (.ref a0)] [] sh I L P 0 0 := by
  unfold vc_X7_init_0 at h
  refine q_aload_n C dX7_init_0 rfl ?_
  have s1 := h.1
  replace h := h.2
  refine q_oinit C ml_RX7_3 s1 (Nat.le_of_ble_eq_true rfl) dX7_init_1 ?_
  refine q_aload_n C dX7_init_4 rfl ?_
  refine q_bipush (v := 120) C dX7_init_5 (by decide) ?_
  refine q_newI (N := 120) C (by decide) (by decide) (by decide) ⟨Nat.le_of_ble_eq_true rfl, Nat.le_of_ble_eq_true rfl⟩ dX7_init_7 ?_
  refine nm_sh (fun sh2 esh2 => ?_)
  replace h := h sh2 esh2
  have s3 := h.1
  replace h := h.2
  refine q_putPF C fl_RX7_9 hn (fun q hq => by cases hq; rfl) (fun T hT => by cases hT; exact ⟨_, rfl, rfl⟩) rfl s3 (Nat.succ_ne_zero _) dX7_init_9 (fun P4 eP4 => ?_)
  replace h := h P4 eP4
  refine q_widen (k := 1) (z := 120) (by decide) (by decide) ?_
  exact q_vret C hk dX7_init_12 h
theorem sp_X7_init {d : Nat} {sh : List qSh} {K : Option Value → List qSh → qMI → qML → qMP → Prop} {a0 : Nat} {I : qMI} {L : qML} {P : qMP} (h0 : vc_X7_init_0 d sh K a0 I L P) : SqN (d + 1) 1 120 mX7_init sh [.ref a0] I L P K := by
  refine Sq_of (by decide +kernel) (Nat.le_of_ble_eq_true rfl) (fun X C hk hn => ?_)
  exact rg_X7_init_0 C hk hn h0
/-! BracketDraws$Rules() -/
def vc_X5_init_0 (d : Nat) (sh : List qSh) (K : Option Value → List qSh → qMI → qML → qMP → Prop) (a0 : Nat) (I : qMI) (L : qML) (P : qMP) : Prop :=
  (¬ a0 = 0) ∧ (((shp sh a0).1 = 5) ∧ (∀ I3 : qMI, I3 = uI I a0 1 2 → (∀ sh4 : List qSh, sh4 = sh ++ [(20, 8)] → (((shp sh4 a0).1 = 5) ∧ (∀ P6 : qMP, P6 = uP P a0 3 (sh.length + 1) → (∀ sh7 : List qSh, sh7 = sh4 ++ [(20, 8)] → (((shp sh7 a0).1 = 5) ∧ (∀ P9 : qMP, P9 = uP P6 a0 4 (sh4.length + 1) → (K none sh7 I3 L P9)))))))))
set_option maxRecDepth 100000 in
set_option maxHeartbeats 4000000 in
theorem rg_X5_init_0 {X : qCT} {d : Nat} {sh : List qSh} {K : Option Value → List qSh → qMI → qML → qMP → Prop} {a0 : Nat} {I : qMI} {L : qML} {P : qMP} (C : qCB X RX5 cX5_init 1 (d + 1) 2 16) (hk : qCK X (none) 2 16 K) (hn : (qMn X).name = "<init>") (h : vc_X5_init_0 d sh K a0 I L P) : qG X 0 [some (.ref a0)] [] sh I L P 0 0 := by
  unfold vc_X5_init_0 at h
  refine q_aload_n C dX5_init_0 rfl ?_
  have s1 := h.1
  replace h := h.2
  refine q_oinit C ml_RX5_3 s1 (Nat.le_of_ble_eq_true rfl) dX5_init_1 ?_
  refine q_aload_n C dX5_init_4 rfl ?_
  refine q_iconst (v := 2) C dX5_init_5 (by decide) ?_
  have s2 := h.1
  replace h := h.2
  refine q_putI C fl_RX5_9 (fun T hT => by cases hT; rfl) rfl s2 dX5_init_6 (fun I3 eI3 => ?_)
  replace h := h I3 eI3
  refine q_aload_n C dX5_init_9 rfl ?_
  refine q_bipush (v := 8) C dX5_init_10 (by decide) ?_
  refine q_newI (N := 8) C (by decide) (by decide) (by decide) ⟨Nat.le_of_ble_eq_true rfl, Nat.le_of_ble_eq_true rfl⟩ dX5_init_12 ?_
  refine nm_sh (fun sh4 esh4 => ?_)
  replace h := h sh4 esh4
  have s5 := h.1
  replace h := h.2
  refine q_putPF C fl_RX5_15 hn (fun q hq => by cases hq; rfl) (fun T hT => by cases hT; exact ⟨_, rfl, rfl⟩) rfl s5 (Nat.succ_ne_zero _) dX5_init_14 (fun P6 eP6 => ?_)
  replace h := h P6 eP6
  refine q_aload_n C dX5_init_17 rfl ?_
  refine q_bipush (v := 8) C dX5_init_18 (by decide) ?_
  refine q_newI (N := 8) C (by decide) (by decide) (by decide) ⟨Nat.le_of_ble_eq_true rfl, Nat.le_of_ble_eq_true rfl⟩ dX5_init_20 ?_
  refine nm_sh (fun sh7 esh7 => ?_)
  replace h := h sh7 esh7
  have s8 := h.1
  replace h := h.2
  refine q_putPF C fl_RX5_19 hn (fun q hq => by cases hq; rfl) (fun T hT => by cases hT; exact ⟨_, rfl, rfl⟩) rfl s8 (Nat.succ_ne_zero _) dX5_init_22 (fun P9 eP9 => ?_)
  replace h := h P9 eP9
  refine q_widen (k := 2) (z := 16) (by decide) (by decide) ?_
  exact q_vret C hk dX5_init_25 h
theorem sp_X5_init {d : Nat} {sh : List qSh} {K : Option Value → List qSh → qMI → qML → qMP → Prop} {a0 : Nat} {I : qMI} {L : qML} {P : qMP} (h0 : vc_X5_init_0 d sh K a0 I L P) : SqN (d + 1) 2 16 mX5_init sh [.ref a0] I L P K := by
  refine Sq_of (by decide +kernel) (Nat.le_of_ble_eq_true rfl) (fun X C hk hn => ?_)
  exact rg_X5_init_0 C hk hn h0
/-! BracketDraws$Draw() -/
def vc_X1_init_0 (d : Nat) (sh : List qSh) (K : Option Value → List qSh → qMI → qML → qMP → Prop) (a0 : Nat) (I : qMI) (L : qML) (P : qMP) : Prop :=
  (¬ a0 = 0) ∧ (((shp sh a0).1 = 1) ∧ (∀ I3 : qMI, I3 = uI I a0 2 2 → (∀ I4 : qMI, I4 = uI I3 a0 3 1 → (∀ sh5 : List qSh, sh5 = sh ++ [(20, 32)] → (((shp sh5 a0).1 = 1) ∧ (∀ P7 : qMP, P7 = uP P a0 5 (sh.length + 1) → (∀ sh8 : List qSh, sh8 = sh5 ++ [(20, 16)] → (((shp sh8 a0).1 = 1) ∧ (∀ P10 : qMP, P10 = uP P7 a0 6 (sh5.length + 1) → (K none sh8 I4 L P10))))))))))
set_option maxRecDepth 100000 in
set_option maxHeartbeats 4000000 in
theorem rg_X1_init_0 {X : qCT} {d : Nat} {sh : List qSh} {K : Option Value → List qSh → qMI → qML → qMP → Prop} {a0 : Nat} {I : qMI} {L : qML} {P : qMP} (C : qCB X RX1 cX1_init 1 (d + 1) 2 48) (hk : qCK X (none) 2 48 K) (hn : (qMn X).name = "<init>") (h : vc_X1_init_0 d sh K a0 I L P) : qG X 0 [some (.ref a0)] [] sh I L P 0 0 := by
  unfold vc_X1_init_0 at h
  refine q_aload_n C dX1_init_0 rfl ?_
  have s1 := h.1
  replace h := h.2
  refine q_oinit C ml_RX1_3 s1 (Nat.le_of_ble_eq_true rfl) dX1_init_1 ?_
  refine q_aload_n C dX1_init_4 rfl ?_
  refine q_iconst (v := 2) C dX1_init_5 (by decide) ?_
  have s2 := h.1
  replace h := h.2
  refine q_putI C fl_RX1_9 (fun T hT => by cases hT; rfl) rfl s2 dX1_init_6 (fun I3 eI3 => ?_)
  replace h := h I3 eI3
  refine q_aload_n C dX1_init_9 rfl ?_
  refine q_iconst (v := 1) C dX1_init_10 (by decide) ?_
  refine q_putI C fl_RX1_15 (fun T hT => by cases hT; rfl) rfl s2 dX1_init_11 (fun I4 eI4 => ?_)
  replace h := h I4 eI4
  refine q_aload_n C dX1_init_14 rfl ?_
  refine q_bipush (v := 32) C dX1_init_15 (by decide) ?_
  refine q_newI (N := 32) C (by decide) (by decide) (by decide) ⟨Nat.le_of_ble_eq_true rfl, Nat.le_of_ble_eq_true rfl⟩ dX1_init_17 ?_
  refine nm_sh (fun sh5 esh5 => ?_)
  replace h := h sh5 esh5
  have s6 := h.1
  replace h := h.2
  refine q_putPF C fl_RX1_18 hn (fun q hq => by cases hq; rfl) (fun T hT => by cases hT; exact ⟨_, rfl, rfl⟩) rfl s6 (Nat.succ_ne_zero _) dX1_init_19 (fun P7 eP7 => ?_)
  replace h := h P7 eP7
  refine q_aload_n C dX1_init_22 rfl ?_
  refine q_bipush (v := 16) C dX1_init_23 (by decide) ?_
  refine q_newI (N := 16) C (by decide) (by decide) (by decide) ⟨Nat.le_of_ble_eq_true rfl, Nat.le_of_ble_eq_true rfl⟩ dX1_init_25 ?_
  refine nm_sh (fun sh8 esh8 => ?_)
  replace h := h sh8 esh8
  have s9 := h.1
  replace h := h.2
  refine q_putPF C fl_RX1_22 hn (fun q hq => by cases hq; rfl) (fun T hT => by cases hT; exact ⟨_, rfl, rfl⟩) rfl s9 (Nat.succ_ne_zero _) dX1_init_27 (fun P10 eP10 => ?_)
  replace h := h P10 eP10
  refine q_widen (k := 2) (z := 48) (by decide) (by decide) ?_
  exact q_vret C hk dX1_init_30 h
theorem sp_X1_init {d : Nat} {sh : List qSh} {K : Option Value → List qSh → qMI → qML → qMP → Prop} {a0 : Nat} {I : qMI} {L : qML} {P : qMP} (h0 : vc_X1_init_0 d sh K a0 I L P) : SqN (d + 1) 2 48 mX1_init sh [.ref a0] I L P K := by
  refine Sq_of (by decide +kernel) (Nat.le_of_ble_eq_true rfl) (fun X C hk hn => ?_)
  exact rg_X1_init_0 C hk hn h0
/-! BracketDraws$Text() -/
def vc_X8_init_0 (d : Nat) (sh : List qSh) (K : Option Value → List qSh → qMI → qML → qMP → Prop) (a0 : Nat) (I : qMI) (L : qML) (P : qMP) : Prop :=
  (¬ a0 = 0) ∧ (∀ sh2 : List qSh, sh2 = sh ++ [(2, 0)] → (SqN d 1 40 mX2_init sh2 [.ref (sh.length + 1)] I L P (KN fun sh3 I4 L5 P6 => ((shp sh3 a0).1 = 8) ∧ (∀ P8 : qMP, P8 = uP P6 a0 0 (sh.length + 1) → (∀ sh9 : List qSh, sh9 = sh3 ++ [(20, 4)] → (((shp sh9 a0).1 = 8) ∧ (∀ P11 : qMP, P11 = uP P8 a0 1 (sh3.length + 1) → (∀ sh12 : List qSh, sh12 = sh9 ++ [(7, 0)] → (SqN d 1 120 mX7_init sh12 [.ref (sh9.length + 1)] I4 L5 P11 (KN fun sh13 I14 L15 P16 => ((shp sh13 a0).1 = 8) ∧ (∀ P18 : qMP, P18 = uP P16 a0 2 (sh9.length + 1) → (K none sh13 I14 L15 P18))))))))))))
set_option maxRecDepth 100000 in
set_option maxHeartbeats 4000000 in
theorem rg_X8_init_0 {X : qCT} {d : Nat} {sh : List qSh} {K : Option Value → List qSh → qMI → qML → qMP → Prop} {a0 : Nat} {I : qMI} {L : qML} {P : qMP} (C : qCB X RX8 cX8_init 1 (d + 1) 5 170) (hk : qCK X (none) 5 170 K) (hn : (qMn X).name = "<init>") (h : vc_X8_init_0 d sh K a0 I L P) : qG X 0 [some (.ref a0)] [] sh I L P 0 0 := by
  unfold vc_X8_init_0 at h
  refine q_aload_n C dX8_init_0 rfl ?_
  have s1 := h.1
  replace h := h.2
  refine q_oinit C ml_RX8_3 s1 (Nat.le_of_ble_eq_true rfl) dX8_init_1 ?_
  refine q_aload_n C dX8_init_4 rfl ?_
  refine q_new C CLF2 cl_RX8_9 ins_RX2 ini_RX2 ⟨Nat.le_of_ble_eq_true rfl, Nat.le_of_ble_eq_true rfl⟩ dX8_init_5 ?_
  refine nm_sh (fun sh2 esh2 => ?_)
  replace h := h sh2 esh2
  refine q_dup C dX8_init_8 rfl ?_
  refine q_callN (mc1 := 1) (ms1 := 40) C mn_X2_init nw_RX8_11 dX8_init_9 (Nat.succ_ne_zero _) (Nat.le_of_ble_eq_true rfl) ⟨Nat.le_of_ble_eq_true rfl, Nat.le_of_ble_eq_true rfl⟩ h (fun sh3 I4 L5 P6 h => ?_) KN_void
  have s7 := h.1
  replace h := h.2
  refine q_putPF C fl_RX8_12 hn (fun q hq => by cases hq; rfl) (fun T hT => by cases hT; exact ⟨_, rfl, rfl⟩) rfl s7 (Nat.succ_ne_zero _) dX8_init_12 (fun P8 eP8 => ?_)
  replace h := h P8 eP8
  refine q_aload_n C dX8_init_15 rfl ?_
  refine q_iconst (v := 4) C dX8_init_16 (by decide) ?_
  refine q_newI (N := 4) C (by decide) (by decide) (by decide) ⟨Nat.le_of_ble_eq_true rfl, Nat.le_of_ble_eq_true rfl⟩ dX8_init_17 ?_
  refine nm_sh (fun sh9 esh9 => ?_)
  replace h := h sh9 esh9
  have s10 := h.1
  replace h := h.2
  refine q_putPF C fl_RX8_18 hn (fun q hq => by cases hq; rfl) (fun T hT => by cases hT; exact ⟨_, rfl, rfl⟩) rfl s10 (Nat.succ_ne_zero _) dX8_init_19 (fun P11 eP11 => ?_)
  replace h := h P11 eP11
  refine q_aload_n C dX8_init_22 rfl ?_
  refine q_new C CLF7 cl_RX8_22 ins_RX7 ini_RX7 ⟨Nat.le_of_ble_eq_true rfl, Nat.le_of_ble_eq_true rfl⟩ dX8_init_23 ?_
  refine nm_sh (fun sh12 esh12 => ?_)
  replace h := h sh12 esh12
  refine q_dup C dX8_init_26 rfl ?_
  refine q_callN (mc1 := 1) (ms1 := 120) C mn_X7_init nw_RX8_24 dX8_init_27 (Nat.succ_ne_zero _) (Nat.le_of_ble_eq_true rfl) ⟨Nat.le_of_ble_eq_true rfl, Nat.le_of_ble_eq_true rfl⟩ h (fun sh13 I14 L15 P16 h => ?_) KN_void
  have s17 := h.1
  replace h := h.2
  refine q_putPF C fl_RX8_25 hn (fun q hq => by cases hq; rfl) (fun T hT => by cases hT; exact ⟨_, rfl, rfl⟩) rfl s17 (Nat.succ_ne_zero _) dX8_init_30 (fun P18 eP18 => ?_)
  replace h := h P18 eP18
  refine q_widen (k := 5) (z := 170) (by decide) (by decide) ?_
  exact q_vret C hk dX8_init_33 h
theorem sp_X8_init {d : Nat} {sh : List qSh} {K : Option Value → List qSh → qMI → qML → qMP → Prop} {a0 : Nat} {I : qMI} {L : qML} {P : qMP} (h0 : vc_X8_init_0 d sh K a0 I L P) : SqN (d + 1) 5 170 mX8_init sh [.ref a0] I L P K := by
  refine Sq_of (by decide +kernel) (Nat.le_of_ble_eq_true rfl) (fun X C hk hn => ?_)
  exact rg_X8_init_0 C hk hn h0
/-! BracketDraws$Situation() -/
def vc_X6_init_0 (d : Nat) (sh : List qSh) (K : Option Value → List qSh → qMI → qML → qMP → Prop) (a0 : Nat) (I : qMI) (L : qML) (P : qMP) : Prop :=
  (¬ a0 = 0) ∧ (∀ sh2 : List qSh, sh2 = sh ++ [(2, 0)] → (SqN d 1 40 mX2_init sh2 [.ref (sh.length + 1)] I L P (KN fun sh3 I4 L5 P6 => ((shp sh3 a0).1 = 6) ∧ (∀ P8 : qMP, P8 = uP P6 a0 0 (sh.length + 1) → (∀ sh9 : List qSh, sh9 = sh3 ++ [(1, 0)] → (SqN d 2 48 mX1_init sh9 [.ref (sh3.length + 1)] I4 L5 P8 (KN fun sh10 I11 L12 P13 => ((shp sh10 a0).1 = 6) ∧ (∀ P15 : qMP, P15 = uP P13 a0 1 (sh3.length + 1) → (K none sh10 I11 L12 P15)))))))))
set_option maxRecDepth 100000 in
set_option maxHeartbeats 4000000 in
theorem rg_X6_init_0 {X : qCT} {d : Nat} {sh : List qSh} {K : Option Value → List qSh → qMI → qML → qMP → Prop} {a0 : Nat} {I : qMI} {L : qML} {P : qMP} (C : qCB X RX6 cX6_init 1 (d + 1) 5 99) (hk : qCK X (none) 5 99 K) (hn : (qMn X).name = "<init>") (h : vc_X6_init_0 d sh K a0 I L P) : qG X 0 [some (.ref a0)] [] sh I L P 0 0 := by
  unfold vc_X6_init_0 at h
  refine q_aload_n C dX6_init_0 rfl ?_
  have s1 := h.1
  replace h := h.2
  refine q_oinit C ml_RX6_1 s1 (Nat.le_of_ble_eq_true rfl) dX6_init_1 ?_
  refine q_aload_n C dX6_init_4 rfl ?_
  refine q_new C CLF2 cl_RX6_7 ins_RX2 ini_RX2 ⟨Nat.le_of_ble_eq_true rfl, Nat.le_of_ble_eq_true rfl⟩ dX6_init_5 ?_
  refine nm_sh (fun sh2 esh2 => ?_)
  replace h := h sh2 esh2
  refine q_dup C dX6_init_8 rfl ?_
  refine q_callN (mc1 := 1) (ms1 := 40) C mn_X2_init nw_RX6_9 dX6_init_9 (Nat.succ_ne_zero _) (Nat.le_of_ble_eq_true rfl) ⟨Nat.le_of_ble_eq_true rfl, Nat.le_of_ble_eq_true rfl⟩ h (fun sh3 I4 L5 P6 h => ?_) KN_void
  have s7 := h.1
  replace h := h.2
  refine q_putPF C fl_RX6_10 hn (fun q hq => by cases hq; rfl) (fun T hT => by cases hT; exact ⟨_, rfl, rfl⟩) rfl s7 (Nat.succ_ne_zero _) dX6_init_12 (fun P8 eP8 => ?_)
  replace h := h P8 eP8
  refine q_aload_n C dX6_init_15 rfl ?_
  refine q_new C CLF1 cl_RX6_16 ins_RX1 ini_RX1 ⟨Nat.le_of_ble_eq_true rfl, Nat.le_of_ble_eq_true rfl⟩ dX6_init_16 ?_
  refine nm_sh (fun sh9 esh9 => ?_)
  replace h := h sh9 esh9
  refine q_dup C dX6_init_19 rfl ?_
  refine q_callN (mc1 := 2) (ms1 := 48) C mn_X1_init nw_RX6_18 dX6_init_20 (Nat.succ_ne_zero _) (Nat.le_of_ble_eq_true rfl) ⟨Nat.le_of_ble_eq_true rfl, Nat.le_of_ble_eq_true rfl⟩ h (fun sh10 I11 L12 P13 h => ?_) KN_void
  have s14 := h.1
  replace h := h.2
  refine q_putPF C fl_RX6_19 hn (fun q hq => by cases hq; rfl) (fun T hT => by cases hT; exact ⟨_, rfl, rfl⟩) rfl s14 (Nat.succ_ne_zero _) dX6_init_23 (fun P15 eP15 => ?_)
  replace h := h P15 eP15
  refine q_widen (k := 5) (z := 99) (by decide) (by decide) ?_
  exact q_vret C hk dX6_init_26 h
theorem sp_X6_init {d : Nat} {sh : List qSh} {K : Option Value → List qSh → qMI → qML → qMP → Prop} {a0 : Nat} {I : qMI} {L : qML} {P : qMP} (h0 : vc_X6_init_0 d sh K a0 I L P) : SqN (d + 1) 5 99 mX6_init sh [.ref a0] I L P K := by
  refine Sq_of (by decide +kernel) (Nat.le_of_ble_eq_true rfl) (fun X C hk hn => ?_)
  exact rg_X6_init_0 C hk hn h0
/-! BracketDraws$History() -/
def vc_X3_init_0 (d : Nat) (sh : List qSh) (K : Option Value → List qSh → qMI → qML → qMP → Prop) (a0 : Nat) (I : qMI) (L : qML) (P : qMP) : Prop :=
  (¬ a0 = 0) ∧ (∀ sh2 : List qSh, sh2 = sh ++ [(23, 11)] → (((shp sh2 a0).1 = 3) ∧ (∀ P4 : qMP, P4 = uP P a0 0 (sh.length + 1) → (((shp sh2 (P4 a0 0)).1 = 23) ∧ ((((nI (shp sh2 (P4 a0 0)).2) ≤ 0) → (K none sh2 I L P4)) ∧ ((¬ (nI (shp sh2 (P4 a0 0)).2) ≤ 0) → (∀ sh7 : List qSh, sh7 = sh2 ++ [(6, 0)] → (SqN d 5 99 mX6_init sh7 [.ref (sh2.length + 1)] I L P4 (KN fun sh8 I9 L10 P11 => ((shp sh8 (P4 a0 0)).1 = 23) ∧ ((vp_in 0 (shp sh8 (P4 a0 0)).2) ∧ (((shp sh8 (sh2.length + 1)).1 = 6) ∧ (∀ P15 : qMP, P15 = uP P11 (P4 a0 0) (Int32.toNatClampNeg 0) (sh2.length + 1) → (((shp sh8 a0).1 = 3) ∧ (((shp sh8 (P15 a0 0)).1 = 23) ∧ ((((nI (shp sh8 (P15 a0 0)).2) ≤ (0 + 1)) → (K none sh8 I9 L10 P15)) ∧ ((¬ (nI (shp sh8 (P15 a0 0)).2) ≤ (0 + 1)) → (∀ sh19 : List qSh, sh19 = sh8 ++ [(6, 0)] → (SqN d 5 99 mX6_init sh19 [.ref (sh8.length + 1)] I9 L10 P15 (KN fun sh20 I21 L22 P23 => ((shp sh20 (P15 a0 0)).1 = 23) ∧ ((vp_in (0 + 1) (shp sh20 (P15 a0 0)).2) ∧ (((shp sh20 (sh8.length + 1)).1 = 6) ∧ (∀ P27 : qMP, P27 = uP P23 (P15 a0 0) (Int32.toNatClampNeg (0 + 1)) (sh8.length + 1) → (((shp sh20 a0).1 = 3) ∧ (((shp sh20 (P27 a0 0)).1 = 23) ∧ ((((nI (shp sh20 (P27 a0 0)).2) ≤ ((0 + 1) + 1)) → (K none sh20 I21 L22 P27)) ∧ ((¬ (nI (shp sh20 (P27 a0 0)).2) ≤ ((0 + 1) + 1)) → (∀ sh31 : List qSh, sh31 = sh20 ++ [(6, 0)] → (SqN d 5 99 mX6_init sh31 [.ref (sh20.length + 1)] I21 L22 P27 (KN fun sh32 I33 L34 P35 => ((shp sh32 (P27 a0 0)).1 = 23) ∧ ((vp_in ((0 + 1) + 1) (shp sh32 (P27 a0 0)).2) ∧ (((shp sh32 (sh20.length + 1)).1 = 6) ∧ (∀ P39 : qMP, P39 = uP P35 (P27 a0 0) (Int32.toNatClampNeg ((0 + 1) + 1)) (sh20.length + 1) → (((shp sh32 a0).1 = 3) ∧ (((shp sh32 (P39 a0 0)).1 = 23) ∧ ((((nI (shp sh32 (P39 a0 0)).2) ≤ (((0 + 1) + 1) + 1)) → (K none sh32 I33 L34 P39)) ∧ ((¬ (nI (shp sh32 (P39 a0 0)).2) ≤ (((0 + 1) + 1) + 1)) → (∀ sh43 : List qSh, sh43 = sh32 ++ [(6, 0)] → (SqN d 5 99 mX6_init sh43 [.ref (sh32.length + 1)] I33 L34 P39 (KN fun sh44 I45 L46 P47 => ((shp sh44 (P39 a0 0)).1 = 23) ∧ ((vp_in (((0 + 1) + 1) + 1) (shp sh44 (P39 a0 0)).2) ∧ (((shp sh44 (sh32.length + 1)).1 = 6) ∧ (∀ P51 : qMP, P51 = uP P47 (P39 a0 0) (Int32.toNatClampNeg (((0 + 1) + 1) + 1)) (sh32.length + 1) → (((shp sh44 a0).1 = 3) ∧ (((shp sh44 (P51 a0 0)).1 = 23) ∧ ((((nI (shp sh44 (P51 a0 0)).2) ≤ ((((0 + 1) + 1) + 1) + 1)) → (K none sh44 I45 L46 P51)) ∧ ((¬ (nI (shp sh44 (P51 a0 0)).2) ≤ ((((0 + 1) + 1) + 1) + 1)) → (∀ sh55 : List qSh, sh55 = sh44 ++ [(6, 0)] → (SqN d 5 99 mX6_init sh55 [.ref (sh44.length + 1)] I45 L46 P51 (KN fun sh56 I57 L58 P59 => ((shp sh56 (P51 a0 0)).1 = 23) ∧ ((vp_in ((((0 + 1) + 1) + 1) + 1) (shp sh56 (P51 a0 0)).2) ∧ (((shp sh56 (sh44.length + 1)).1 = 6) ∧ (∀ P63 : qMP, P63 = uP P59 (P51 a0 0) (Int32.toNatClampNeg ((((0 + 1) + 1) + 1) + 1)) (sh44.length + 1) → (((shp sh56 a0).1 = 3) ∧ (((shp sh56 (P63 a0 0)).1 = 23) ∧ ((((nI (shp sh56 (P63 a0 0)).2) ≤ (((((0 + 1) + 1) + 1) + 1) + 1)) → (K none sh56 I57 L58 P63)) ∧ ((¬ (nI (shp sh56 (P63 a0 0)).2) ≤ (((((0 + 1) + 1) + 1) + 1) + 1)) → (∀ sh67 : List qSh, sh67 = sh56 ++ [(6, 0)] → (SqN d 5 99 mX6_init sh67 [.ref (sh56.length + 1)] I57 L58 P63 (KN fun sh68 I69 L70 P71 => ((shp sh68 (P63 a0 0)).1 = 23) ∧ ((vp_in (((((0 + 1) + 1) + 1) + 1) + 1) (shp sh68 (P63 a0 0)).2) ∧ (((shp sh68 (sh56.length + 1)).1 = 6) ∧ (∀ P75 : qMP, P75 = uP P71 (P63 a0 0) (Int32.toNatClampNeg (((((0 + 1) + 1) + 1) + 1) + 1)) (sh56.length + 1) → (((shp sh68 a0).1 = 3) ∧ (((shp sh68 (P75 a0 0)).1 = 23) ∧ ((((nI (shp sh68 (P75 a0 0)).2) ≤ ((((((0 + 1) + 1) + 1) + 1) + 1) + 1)) → (K none sh68 I69 L70 P75)) ∧ ((¬ (nI (shp sh68 (P75 a0 0)).2) ≤ ((((((0 + 1) + 1) + 1) + 1) + 1) + 1)) → (∀ sh79 : List qSh, sh79 = sh68 ++ [(6, 0)] → (SqN d 5 99 mX6_init sh79 [.ref (sh68.length + 1)] I69 L70 P75 (KN fun sh80 I81 L82 P83 => ((shp sh80 (P75 a0 0)).1 = 23) ∧ ((vp_in ((((((0 + 1) + 1) + 1) + 1) + 1) + 1) (shp sh80 (P75 a0 0)).2) ∧ (((shp sh80 (sh68.length + 1)).1 = 6) ∧ (∀ P87 : qMP, P87 = uP P83 (P75 a0 0) (Int32.toNatClampNeg ((((((0 + 1) + 1) + 1) + 1) + 1) + 1)) (sh68.length + 1) → (((shp sh80 a0).1 = 3) ∧ (((shp sh80 (P87 a0 0)).1 = 23) ∧ ((((nI (shp sh80 (P87 a0 0)).2) ≤ (((((((0 + 1) + 1) + 1) + 1) + 1) + 1) + 1)) → (K none sh80 I81 L82 P87)) ∧ ((¬ (nI (shp sh80 (P87 a0 0)).2) ≤ (((((((0 + 1) + 1) + 1) + 1) + 1) + 1) + 1)) → (∀ sh91 : List qSh, sh91 = sh80 ++ [(6, 0)] → (SqN d 5 99 mX6_init sh91 [.ref (sh80.length + 1)] I81 L82 P87 (KN fun sh92 I93 L94 P95 => ((shp sh92 (P87 a0 0)).1 = 23) ∧ ((vp_in (((((((0 + 1) + 1) + 1) + 1) + 1) + 1) + 1) (shp sh92 (P87 a0 0)).2) ∧ (((shp sh92 (sh80.length + 1)).1 = 6) ∧ (∀ P99 : qMP, P99 = uP P95 (P87 a0 0) (Int32.toNatClampNeg (((((((0 + 1) + 1) + 1) + 1) + 1) + 1) + 1)) (sh80.length + 1) → (((shp sh92 a0).1 = 3) ∧ (((shp sh92 (P99 a0 0)).1 = 23) ∧ ((((nI (shp sh92 (P99 a0 0)).2) ≤ ((((((((0 + 1) + 1) + 1) + 1) + 1) + 1) + 1) + 1)) → (K none sh92 I93 L94 P99)) ∧ ((¬ (nI (shp sh92 (P99 a0 0)).2) ≤ ((((((((0 + 1) + 1) + 1) + 1) + 1) + 1) + 1) + 1)) → (∀ sh103 : List qSh, sh103 = sh92 ++ [(6, 0)] → (SqN d 5 99 mX6_init sh103 [.ref (sh92.length + 1)] I93 L94 P99 (KN fun sh104 I105 L106 P107 => ((shp sh104 (P99 a0 0)).1 = 23) ∧ ((vp_in ((((((((0 + 1) + 1) + 1) + 1) + 1) + 1) + 1) + 1) (shp sh104 (P99 a0 0)).2) ∧ (((shp sh104 (sh92.length + 1)).1 = 6) ∧ (∀ P111 : qMP, P111 = uP P107 (P99 a0 0) (Int32.toNatClampNeg ((((((((0 + 1) + 1) + 1) + 1) + 1) + 1) + 1) + 1)) (sh92.length + 1) → (((shp sh104 a0).1 = 3) ∧ (((shp sh104 (P111 a0 0)).1 = 23) ∧ ((((nI (shp sh104 (P111 a0 0)).2) ≤ (((((((((0 + 1) + 1) + 1) + 1) + 1) + 1) + 1) + 1) + 1)) → (K none sh104 I105 L106 P111)) ∧ ((¬ (nI (shp sh104 (P111 a0 0)).2) ≤ (((((((((0 + 1) + 1) + 1) + 1) + 1) + 1) + 1) + 1) + 1)) → (∀ sh115 : List qSh, sh115 = sh104 ++ [(6, 0)] → (SqN d 5 99 mX6_init sh115 [.ref (sh104.length + 1)] I105 L106 P111 (KN fun sh116 I117 L118 P119 => ((shp sh116 (P111 a0 0)).1 = 23) ∧ ((vp_in (((((((((0 + 1) + 1) + 1) + 1) + 1) + 1) + 1) + 1) + 1) (shp sh116 (P111 a0 0)).2) ∧ (((shp sh116 (sh104.length + 1)).1 = 6) ∧ (∀ P123 : qMP, P123 = uP P119 (P111 a0 0) (Int32.toNatClampNeg (((((((((0 + 1) + 1) + 1) + 1) + 1) + 1) + 1) + 1) + 1)) (sh104.length + 1) → (((shp sh116 a0).1 = 3) ∧ (((shp sh116 (P123 a0 0)).1 = 23) ∧ ((((nI (shp sh116 (P123 a0 0)).2) ≤ ((((((((((0 + 1) + 1) + 1) + 1) + 1) + 1) + 1) + 1) + 1) + 1)) → (K none sh116 I117 L118 P123)) ∧ ((¬ (nI (shp sh116 (P123 a0 0)).2) ≤ ((((((((((0 + 1) + 1) + 1) + 1) + 1) + 1) + 1) + 1) + 1) + 1)) → (∀ sh127 : List qSh, sh127 = sh116 ++ [(6, 0)] → (SqN d 5 99 mX6_init sh127 [.ref (sh116.length + 1)] I117 L118 P123 (KN fun sh128 I129 L130 P131 => ((shp sh128 (P123 a0 0)).1 = 23) ∧ ((vp_in ((((((((((0 + 1) + 1) + 1) + 1) + 1) + 1) + 1) + 1) + 1) + 1) (shp sh128 (P123 a0 0)).2) ∧ (((shp sh128 (sh116.length + 1)).1 = 6) ∧ (∀ P135 : qMP, P135 = uP P131 (P123 a0 0) (Int32.toNatClampNeg ((((((((((0 + 1) + 1) + 1) + 1) + 1) + 1) + 1) + 1) + 1) + 1)) (sh116.length + 1) → (((shp sh128 a0).1 = 3) ∧ (((shp sh128 (P135 a0 0)).1 = 23) ∧ ((K none sh128 I129 L130 P135) ∧ ¬ (¬ (nI (shp sh128 (P135 a0 0)).2) ≤ (((((((((((0 + 1) + 1) + 1) + 1) + 1) + 1) + 1) + 1) + 1) + 1) + 1)))))))))))))))))))))))))))))))))))))))))))))))))))))))))))))))))))))))))))))))))))))))))))))))))))))))))))))))))))))
set_option maxRecDepth 100000 in
set_option maxHeartbeats 4000000 in
theorem rg_X3_init_0 {X : qCT} {d : Nat} {sh : List qSh} {K : Option Value → List qSh → qMI → qML → qMP → Prop} {a0 : Nat} {I : qMI} {L : qML} {P : qMP} (C : qCB X RX3 cX3_init 2 (d + 1) 67 1122) (hk : qCK X (none) 67 1122 K) (hn : (qMn X).name = "<init>") (h : vc_X3_init_0 d sh K a0 I L P) : qG X 0 [some (.ref a0), none] [] sh I L P 0 0 := by
  unfold vc_X3_init_0 at h
  refine q_aload_n C dX3_init_0 rfl ?_
  have s1 := h.1
  replace h := h.2
  refine q_oinit C ml_RX3_1 s1 (Nat.le_of_ble_eq_true rfl) dX3_init_1 ?_
  refine q_aload_n C dX3_init_4 rfl ?_
  refine q_bipush (v := 11) C dX3_init_5 (by decide) ?_
  refine q_newS (N := 11) C cl_RX3_9 (by decide) (by decide) (by decide) ⟨Nat.le_of_ble_eq_true rfl, Nat.le_of_ble_eq_true rfl⟩ dX3_init_7 ?_
  refine nm_sh (fun sh2 esh2 => ?_)
  replace h := h sh2 esh2
  have s3 := h.1
  replace h := h.2
  refine q_putPF C fl_RX3_11 hn (fun q hq => by cases hq; rfl) (fun T hT => by cases hT; exact ⟨_, rfl, rfl⟩) rfl s3 (Nat.succ_ne_zero _) dX3_init_10 (fun P4 eP4 => ?_)
  replace h := h P4 eP4
  refine q_iconst (v := 0) C dX3_init_13 (by decide) ?_
  refine q_istore_n (lo1 := [some (.ref a0), some (.int 0)]) C dX3_init_14 (by decide) rfl ?_
  refine q_iload_n C dX3_init_15 rfl ?_
  refine q_aload_n C dX3_init_16 rfl ?_
  refine q_getP C fl_RX3_11 rfl s3 dX3_init_17 ?_
  have s5 := h.1
  replace h := h.2
  refine q_alen23 C s5 dX3_init_20 ?_
  refine q_icmp_ge (tgt := 43) C dX3_init_21 (by decide) (fun c6 => ?_) (fun c6 => ?_)
  · replace h := h.1 c6
    refine q_widen (k := 67) (z := 1122) (by decide) (by decide) ?_
    exact q_vret C hk dX3_init_43 h
  · replace h := h.2 c6
    refine q_aload_n C dX3_init_24 rfl ?_
    refine q_getP C fl_RX3_11 rfl s3 dX3_init_25 ?_
    refine q_iload_n C dX3_init_28 rfl ?_
    refine q_new C CLF6 cl_RX3_9 ins_RX6 ini_RX6 ⟨Nat.le_of_ble_eq_true rfl, Nat.le_of_ble_eq_true rfl⟩ dX3_init_29 ?_
    refine nm_sh (fun sh7 esh7 => ?_)
    replace h := h sh7 esh7
    refine q_dup C dX3_init_32 rfl ?_
    refine q_callN (mc1 := 5) (ms1 := 99) C mn_X6_init nw_RX3_15 dX3_init_33 (Nat.succ_ne_zero _) (Nat.le_of_ble_eq_true rfl) ⟨Nat.le_of_ble_eq_true rfl, Nat.le_of_ble_eq_true rfl⟩ h (fun sh8 I9 L10 P11 h => ?_) KN_void
    have s12 := h.1
    replace h := h.2
    have s13 := h.1
    replace h := h.2
    have s14 := h.1
    replace h := h.2
    refine q_aast C s12 s13 s14 dX3_init_36 (fun P15 eP15 => ?_)
    replace h := h P15 eP15
    refine q_iinc (w := 1) (lo1 := [some (.ref a0), some (.int (0 + 1))]) C dX3_init_37 rfl (by decide) (by decide) rfl ?_
    refine q_goto (tgt := 15) C dX3_init_40 (by decide) ?_
    refine q_iload_n C dX3_init_15 rfl ?_
    refine q_aload_n C dX3_init_16 rfl ?_
    have s16 := h.1
    replace h := h.2
    refine q_getP C fl_RX3_11 rfl s16 dX3_init_17 ?_
    have s17 := h.1
    replace h := h.2
    refine q_alen23 C s17 dX3_init_20 ?_
    refine q_icmp_ge (tgt := 43) C dX3_init_21 (by decide) (fun c18 => ?_) (fun c18 => ?_)
    · replace h := h.1 c18
      refine q_widen (k := 67) (z := 1122) (by decide) (by decide) ?_
      exact q_vret C hk dX3_init_43 h
    · replace h := h.2 c18
      refine q_aload_n C dX3_init_24 rfl ?_
      refine q_getP C fl_RX3_11 rfl s16 dX3_init_25 ?_
      refine q_iload_n C dX3_init_28 rfl ?_
      refine q_new C CLF6 cl_RX3_9 ins_RX6 ini_RX6 ⟨Nat.le_of_ble_eq_true rfl, Nat.le_of_ble_eq_true rfl⟩ dX3_init_29 ?_
      refine nm_sh (fun sh19 esh19 => ?_)
      replace h := h sh19 esh19
      refine q_dup C dX3_init_32 rfl ?_
      refine q_callN (mc1 := 5) (ms1 := 99) C mn_X6_init nw_RX3_15 dX3_init_33 (Nat.succ_ne_zero _) (Nat.le_of_ble_eq_true rfl) ⟨Nat.le_of_ble_eq_true rfl, Nat.le_of_ble_eq_true rfl⟩ h (fun sh20 I21 L22 P23 h => ?_) KN_void
      have s24 := h.1
      replace h := h.2
      have s25 := h.1
      replace h := h.2
      have s26 := h.1
      replace h := h.2
      refine q_aast C s24 s25 s26 dX3_init_36 (fun P27 eP27 => ?_)
      replace h := h P27 eP27
      refine q_iinc (w := 1) (lo1 := [some (.ref a0), some (.int ((0 + 1) + 1))]) C dX3_init_37 rfl (by decide) (by decide) rfl ?_
      refine q_goto (tgt := 15) C dX3_init_40 (by decide) ?_
      refine q_iload_n C dX3_init_15 rfl ?_
      refine q_aload_n C dX3_init_16 rfl ?_
      have s28 := h.1
      replace h := h.2
      refine q_getP C fl_RX3_11 rfl s28 dX3_init_17 ?_
      have s29 := h.1
      replace h := h.2
      refine q_alen23 C s29 dX3_init_20 ?_
      refine q_icmp_ge (tgt := 43) C dX3_init_21 (by decide) (fun c30 => ?_) (fun c30 => ?_)
      · replace h := h.1 c30
        refine q_widen (k := 67) (z := 1122) (by decide) (by decide) ?_
        exact q_vret C hk dX3_init_43 h
      · replace h := h.2 c30
        refine q_aload_n C dX3_init_24 rfl ?_
        refine q_getP C fl_RX3_11 rfl s28 dX3_init_25 ?_
        refine q_iload_n C dX3_init_28 rfl ?_
        refine q_new C CLF6 cl_RX3_9 ins_RX6 ini_RX6 ⟨Nat.le_of_ble_eq_true rfl, Nat.le_of_ble_eq_true rfl⟩ dX3_init_29 ?_
        refine nm_sh (fun sh31 esh31 => ?_)
        replace h := h sh31 esh31
        refine q_dup C dX3_init_32 rfl ?_
        refine q_callN (mc1 := 5) (ms1 := 99) C mn_X6_init nw_RX3_15 dX3_init_33 (Nat.succ_ne_zero _) (Nat.le_of_ble_eq_true rfl) ⟨Nat.le_of_ble_eq_true rfl, Nat.le_of_ble_eq_true rfl⟩ h (fun sh32 I33 L34 P35 h => ?_) KN_void
        have s36 := h.1
        replace h := h.2
        have s37 := h.1
        replace h := h.2
        have s38 := h.1
        replace h := h.2
        refine q_aast C s36 s37 s38 dX3_init_36 (fun P39 eP39 => ?_)
        replace h := h P39 eP39
        refine q_iinc (w := 1) (lo1 := [some (.ref a0), some (.int (((0 + 1) + 1) + 1))]) C dX3_init_37 rfl (by decide) (by decide) rfl ?_
        refine q_goto (tgt := 15) C dX3_init_40 (by decide) ?_
        refine q_iload_n C dX3_init_15 rfl ?_
        refine q_aload_n C dX3_init_16 rfl ?_
        have s40 := h.1
        replace h := h.2
        refine q_getP C fl_RX3_11 rfl s40 dX3_init_17 ?_
        have s41 := h.1
        replace h := h.2
        refine q_alen23 C s41 dX3_init_20 ?_
        refine q_icmp_ge (tgt := 43) C dX3_init_21 (by decide) (fun c42 => ?_) (fun c42 => ?_)
        · replace h := h.1 c42
          refine q_widen (k := 67) (z := 1122) (by decide) (by decide) ?_
          exact q_vret C hk dX3_init_43 h
        · replace h := h.2 c42
          refine q_aload_n C dX3_init_24 rfl ?_
          refine q_getP C fl_RX3_11 rfl s40 dX3_init_25 ?_
          refine q_iload_n C dX3_init_28 rfl ?_
          refine q_new C CLF6 cl_RX3_9 ins_RX6 ini_RX6 ⟨Nat.le_of_ble_eq_true rfl, Nat.le_of_ble_eq_true rfl⟩ dX3_init_29 ?_
          refine nm_sh (fun sh43 esh43 => ?_)
          replace h := h sh43 esh43
          refine q_dup C dX3_init_32 rfl ?_
          refine q_callN (mc1 := 5) (ms1 := 99) C mn_X6_init nw_RX3_15 dX3_init_33 (Nat.succ_ne_zero _) (Nat.le_of_ble_eq_true rfl) ⟨Nat.le_of_ble_eq_true rfl, Nat.le_of_ble_eq_true rfl⟩ h (fun sh44 I45 L46 P47 h => ?_) KN_void
          have s48 := h.1
          replace h := h.2
          have s49 := h.1
          replace h := h.2
          have s50 := h.1
          replace h := h.2
          refine q_aast C s48 s49 s50 dX3_init_36 (fun P51 eP51 => ?_)
          replace h := h P51 eP51
          refine q_iinc (w := 1) (lo1 := [some (.ref a0), some (.int ((((0 + 1) + 1) + 1) + 1))]) C dX3_init_37 rfl (by decide) (by decide) rfl ?_
          refine q_goto (tgt := 15) C dX3_init_40 (by decide) ?_
          refine q_iload_n C dX3_init_15 rfl ?_
          refine q_aload_n C dX3_init_16 rfl ?_
          have s52 := h.1
          replace h := h.2
          refine q_getP C fl_RX3_11 rfl s52 dX3_init_17 ?_
          have s53 := h.1
          replace h := h.2
          refine q_alen23 C s53 dX3_init_20 ?_
          refine q_icmp_ge (tgt := 43) C dX3_init_21 (by decide) (fun c54 => ?_) (fun c54 => ?_)
          · replace h := h.1 c54
            refine q_widen (k := 67) (z := 1122) (by decide) (by decide) ?_
            exact q_vret C hk dX3_init_43 h
          · replace h := h.2 c54
            refine q_aload_n C dX3_init_24 rfl ?_
            refine q_getP C fl_RX3_11 rfl s52 dX3_init_25 ?_
            refine q_iload_n C dX3_init_28 rfl ?_
            refine q_new C CLF6 cl_RX3_9 ins_RX6 ini_RX6 ⟨Nat.le_of_ble_eq_true rfl, Nat.le_of_ble_eq_true rfl⟩ dX3_init_29 ?_
            refine nm_sh (fun sh55 esh55 => ?_)
            replace h := h sh55 esh55
            refine q_dup C dX3_init_32 rfl ?_
            refine q_callN (mc1 := 5) (ms1 := 99) C mn_X6_init nw_RX3_15 dX3_init_33 (Nat.succ_ne_zero _) (Nat.le_of_ble_eq_true rfl) ⟨Nat.le_of_ble_eq_true rfl, Nat.le_of_ble_eq_true rfl⟩ h (fun sh56 I57 L58 P59 h => ?_) KN_void
            have s60 := h.1
            replace h := h.2
            have s61 := h.1
            replace h := h.2
            have s62 := h.1
            replace h := h.2
            refine q_aast C s60 s61 s62 dX3_init_36 (fun P63 eP63 => ?_)
            replace h := h P63 eP63
            refine q_iinc (w := 1) (lo1 := [some (.ref a0), some (.int (((((0 + 1) + 1) + 1) + 1) + 1))]) C dX3_init_37 rfl (by decide) (by decide) rfl ?_
            refine q_goto (tgt := 15) C dX3_init_40 (by decide) ?_
            refine q_iload_n C dX3_init_15 rfl ?_
            refine q_aload_n C dX3_init_16 rfl ?_
            have s64 := h.1
            replace h := h.2
            refine q_getP C fl_RX3_11 rfl s64 dX3_init_17 ?_
            have s65 := h.1
            replace h := h.2
            refine q_alen23 C s65 dX3_init_20 ?_
            refine q_icmp_ge (tgt := 43) C dX3_init_21 (by decide) (fun c66 => ?_) (fun c66 => ?_)
            · replace h := h.1 c66
              refine q_widen (k := 67) (z := 1122) (by decide) (by decide) ?_
              exact q_vret C hk dX3_init_43 h
            · replace h := h.2 c66
              refine q_aload_n C dX3_init_24 rfl ?_
              refine q_getP C fl_RX3_11 rfl s64 dX3_init_25 ?_
              refine q_iload_n C dX3_init_28 rfl ?_
              refine q_new C CLF6 cl_RX3_9 ins_RX6 ini_RX6 ⟨Nat.le_of_ble_eq_true rfl, Nat.le_of_ble_eq_true rfl⟩ dX3_init_29 ?_
              refine nm_sh (fun sh67 esh67 => ?_)
              replace h := h sh67 esh67
              refine q_dup C dX3_init_32 rfl ?_
              refine q_callN (mc1 := 5) (ms1 := 99) C mn_X6_init nw_RX3_15 dX3_init_33 (Nat.succ_ne_zero _) (Nat.le_of_ble_eq_true rfl) ⟨Nat.le_of_ble_eq_true rfl, Nat.le_of_ble_eq_true rfl⟩ h (fun sh68 I69 L70 P71 h => ?_) KN_void
              have s72 := h.1
              replace h := h.2
              have s73 := h.1
              replace h := h.2
              have s74 := h.1
              replace h := h.2
              refine q_aast C s72 s73 s74 dX3_init_36 (fun P75 eP75 => ?_)
              replace h := h P75 eP75
              refine q_iinc (w := 1) (lo1 := [some (.ref a0), some (.int ((((((0 + 1) + 1) + 1) + 1) + 1) + 1))]) C dX3_init_37 rfl (by decide) (by decide) rfl ?_
              refine q_goto (tgt := 15) C dX3_init_40 (by decide) ?_
              refine q_iload_n C dX3_init_15 rfl ?_
              refine q_aload_n C dX3_init_16 rfl ?_
              have s76 := h.1
              replace h := h.2
              refine q_getP C fl_RX3_11 rfl s76 dX3_init_17 ?_
              have s77 := h.1
              replace h := h.2
              refine q_alen23 C s77 dX3_init_20 ?_
              refine q_icmp_ge (tgt := 43) C dX3_init_21 (by decide) (fun c78 => ?_) (fun c78 => ?_)
              · replace h := h.1 c78
                refine q_widen (k := 67) (z := 1122) (by decide) (by decide) ?_
                exact q_vret C hk dX3_init_43 h
              · replace h := h.2 c78
                refine q_aload_n C dX3_init_24 rfl ?_
                refine q_getP C fl_RX3_11 rfl s76 dX3_init_25 ?_
                refine q_iload_n C dX3_init_28 rfl ?_
                refine q_new C CLF6 cl_RX3_9 ins_RX6 ini_RX6 ⟨Nat.le_of_ble_eq_true rfl, Nat.le_of_ble_eq_true rfl⟩ dX3_init_29 ?_
                refine nm_sh (fun sh79 esh79 => ?_)
                replace h := h sh79 esh79
                refine q_dup C dX3_init_32 rfl ?_
                refine q_callN (mc1 := 5) (ms1 := 99) C mn_X6_init nw_RX3_15 dX3_init_33 (Nat.succ_ne_zero _) (Nat.le_of_ble_eq_true rfl) ⟨Nat.le_of_ble_eq_true rfl, Nat.le_of_ble_eq_true rfl⟩ h (fun sh80 I81 L82 P83 h => ?_) KN_void
                have s84 := h.1
                replace h := h.2
                have s85 := h.1
                replace h := h.2
                have s86 := h.1
                replace h := h.2
                refine q_aast C s84 s85 s86 dX3_init_36 (fun P87 eP87 => ?_)
                replace h := h P87 eP87
                refine q_iinc (w := 1) (lo1 := [some (.ref a0), some (.int (((((((0 + 1) + 1) + 1) + 1) + 1) + 1) + 1))]) C dX3_init_37 rfl (by decide) (by decide) rfl ?_
                refine q_goto (tgt := 15) C dX3_init_40 (by decide) ?_
                refine q_iload_n C dX3_init_15 rfl ?_
                refine q_aload_n C dX3_init_16 rfl ?_
                have s88 := h.1
                replace h := h.2
                refine q_getP C fl_RX3_11 rfl s88 dX3_init_17 ?_
                have s89 := h.1
                replace h := h.2
                refine q_alen23 C s89 dX3_init_20 ?_
                refine q_icmp_ge (tgt := 43) C dX3_init_21 (by decide) (fun c90 => ?_) (fun c90 => ?_)
                · replace h := h.1 c90
                  refine q_widen (k := 67) (z := 1122) (by decide) (by decide) ?_
                  exact q_vret C hk dX3_init_43 h
                · replace h := h.2 c90
                  refine q_aload_n C dX3_init_24 rfl ?_
                  refine q_getP C fl_RX3_11 rfl s88 dX3_init_25 ?_
                  refine q_iload_n C dX3_init_28 rfl ?_
                  refine q_new C CLF6 cl_RX3_9 ins_RX6 ini_RX6 ⟨Nat.le_of_ble_eq_true rfl, Nat.le_of_ble_eq_true rfl⟩ dX3_init_29 ?_
                  refine nm_sh (fun sh91 esh91 => ?_)
                  replace h := h sh91 esh91
                  refine q_dup C dX3_init_32 rfl ?_
                  refine q_callN (mc1 := 5) (ms1 := 99) C mn_X6_init nw_RX3_15 dX3_init_33 (Nat.succ_ne_zero _) (Nat.le_of_ble_eq_true rfl) ⟨Nat.le_of_ble_eq_true rfl, Nat.le_of_ble_eq_true rfl⟩ h (fun sh92 I93 L94 P95 h => ?_) KN_void
                  have s96 := h.1
                  replace h := h.2
                  have s97 := h.1
                  replace h := h.2
                  have s98 := h.1
                  replace h := h.2
                  refine q_aast C s96 s97 s98 dX3_init_36 (fun P99 eP99 => ?_)
                  replace h := h P99 eP99
                  refine q_iinc (w := 1) (lo1 := [some (.ref a0), some (.int ((((((((0 + 1) + 1) + 1) + 1) + 1) + 1) + 1) + 1))]) C dX3_init_37 rfl (by decide) (by decide) rfl ?_
                  refine q_goto (tgt := 15) C dX3_init_40 (by decide) ?_
                  refine q_iload_n C dX3_init_15 rfl ?_
                  refine q_aload_n C dX3_init_16 rfl ?_
                  have s100 := h.1
                  replace h := h.2
                  refine q_getP C fl_RX3_11 rfl s100 dX3_init_17 ?_
                  have s101 := h.1
                  replace h := h.2
                  refine q_alen23 C s101 dX3_init_20 ?_
                  refine q_icmp_ge (tgt := 43) C dX3_init_21 (by decide) (fun c102 => ?_) (fun c102 => ?_)
                  · replace h := h.1 c102
                    refine q_widen (k := 67) (z := 1122) (by decide) (by decide) ?_
                    exact q_vret C hk dX3_init_43 h
                  · replace h := h.2 c102
                    refine q_aload_n C dX3_init_24 rfl ?_
                    refine q_getP C fl_RX3_11 rfl s100 dX3_init_25 ?_
                    refine q_iload_n C dX3_init_28 rfl ?_
                    refine q_new C CLF6 cl_RX3_9 ins_RX6 ini_RX6 ⟨Nat.le_of_ble_eq_true rfl, Nat.le_of_ble_eq_true rfl⟩ dX3_init_29 ?_
                    refine nm_sh (fun sh103 esh103 => ?_)
                    replace h := h sh103 esh103
                    refine q_dup C dX3_init_32 rfl ?_
                    refine q_callN (mc1 := 5) (ms1 := 99) C mn_X6_init nw_RX3_15 dX3_init_33 (Nat.succ_ne_zero _) (Nat.le_of_ble_eq_true rfl) ⟨Nat.le_of_ble_eq_true rfl, Nat.le_of_ble_eq_true rfl⟩ h (fun sh104 I105 L106 P107 h => ?_) KN_void
                    have s108 := h.1
                    replace h := h.2
                    have s109 := h.1
                    replace h := h.2
                    have s110 := h.1
                    replace h := h.2
                    refine q_aast C s108 s109 s110 dX3_init_36 (fun P111 eP111 => ?_)
                    replace h := h P111 eP111
                    refine q_iinc (w := 1) (lo1 := [some (.ref a0), some (.int (((((((((0 + 1) + 1) + 1) + 1) + 1) + 1) + 1) + 1) + 1))]) C dX3_init_37 rfl (by decide) (by decide) rfl ?_
                    refine q_goto (tgt := 15) C dX3_init_40 (by decide) ?_
                    refine q_iload_n C dX3_init_15 rfl ?_
                    refine q_aload_n C dX3_init_16 rfl ?_
                    have s112 := h.1
                    replace h := h.2
                    refine q_getP C fl_RX3_11 rfl s112 dX3_init_17 ?_
                    have s113 := h.1
                    replace h := h.2
                    refine q_alen23 C s113 dX3_init_20 ?_
                    refine q_icmp_ge (tgt := 43) C dX3_init_21 (by decide) (fun c114 => ?_) (fun c114 => ?_)
                    · replace h := h.1 c114
                      refine q_widen (k := 67) (z := 1122) (by decide) (by decide) ?_
                      exact q_vret C hk dX3_init_43 h
                    · replace h := h.2 c114
                      refine q_aload_n C dX3_init_24 rfl ?_
                      refine q_getP C fl_RX3_11 rfl s112 dX3_init_25 ?_
                      refine q_iload_n C dX3_init_28 rfl ?_
                      refine q_new C CLF6 cl_RX3_9 ins_RX6 ini_RX6 ⟨Nat.le_of_ble_eq_true rfl, Nat.le_of_ble_eq_true rfl⟩ dX3_init_29 ?_
                      refine nm_sh (fun sh115 esh115 => ?_)
                      replace h := h sh115 esh115
                      refine q_dup C dX3_init_32 rfl ?_
                      refine q_callN (mc1 := 5) (ms1 := 99) C mn_X6_init nw_RX3_15 dX3_init_33 (Nat.succ_ne_zero _) (Nat.le_of_ble_eq_true rfl) ⟨Nat.le_of_ble_eq_true rfl, Nat.le_of_ble_eq_true rfl⟩ h (fun sh116 I117 L118 P119 h => ?_) KN_void
                      have s120 := h.1
                      replace h := h.2
                      have s121 := h.1
                      replace h := h.2
                      have s122 := h.1
                      replace h := h.2
                      refine q_aast C s120 s121 s122 dX3_init_36 (fun P123 eP123 => ?_)
                      replace h := h P123 eP123
                      refine q_iinc (w := 1) (lo1 := [some (.ref a0), some (.int ((((((((((0 + 1) + 1) + 1) + 1) + 1) + 1) + 1) + 1) + 1) + 1))]) C dX3_init_37 rfl (by decide) (by decide) rfl ?_
                      refine q_goto (tgt := 15) C dX3_init_40 (by decide) ?_
                      refine q_iload_n C dX3_init_15 rfl ?_
                      refine q_aload_n C dX3_init_16 rfl ?_
                      have s124 := h.1
                      replace h := h.2
                      refine q_getP C fl_RX3_11 rfl s124 dX3_init_17 ?_
                      have s125 := h.1
                      replace h := h.2
                      refine q_alen23 C s125 dX3_init_20 ?_
                      refine q_icmp_ge (tgt := 43) C dX3_init_21 (by decide) (fun c126 => ?_) (fun c126 => ?_)
                      · replace h := h.1 c126
                        refine q_widen (k := 67) (z := 1122) (by decide) (by decide) ?_
                        exact q_vret C hk dX3_init_43 h
                      · replace h := h.2 c126
                        refine q_aload_n C dX3_init_24 rfl ?_
                        refine q_getP C fl_RX3_11 rfl s124 dX3_init_25 ?_
                        refine q_iload_n C dX3_init_28 rfl ?_
                        refine q_new C CLF6 cl_RX3_9 ins_RX6 ini_RX6 ⟨Nat.le_of_ble_eq_true rfl, Nat.le_of_ble_eq_true rfl⟩ dX3_init_29 ?_
                        refine nm_sh (fun sh127 esh127 => ?_)
                        replace h := h sh127 esh127
                        refine q_dup C dX3_init_32 rfl ?_
                        refine q_callN (mc1 := 5) (ms1 := 99) C mn_X6_init nw_RX3_15 dX3_init_33 (Nat.succ_ne_zero _) (Nat.le_of_ble_eq_true rfl) ⟨Nat.le_of_ble_eq_true rfl, Nat.le_of_ble_eq_true rfl⟩ h (fun sh128 I129 L130 P131 h => ?_) KN_void
                        have s132 := h.1
                        replace h := h.2
                        have s133 := h.1
                        replace h := h.2
                        have s134 := h.1
                        replace h := h.2
                        refine q_aast C s132 s133 s134 dX3_init_36 (fun P135 eP135 => ?_)
                        replace h := h P135 eP135
                        refine q_iinc (w := 1) (lo1 := [some (.ref a0), some (.int (((((((((((0 + 1) + 1) + 1) + 1) + 1) + 1) + 1) + 1) + 1) + 1) + 1))]) C dX3_init_37 rfl (by decide) (by decide) rfl ?_
                        refine q_goto (tgt := 15) C dX3_init_40 (by decide) ?_
                        refine q_iload_n C dX3_init_15 rfl ?_
                        refine q_aload_n C dX3_init_16 rfl ?_
                        have s136 := h.1
                        replace h := h.2
                        refine q_getP C fl_RX3_11 rfl s136 dX3_init_17 ?_
                        have s137 := h.1
                        replace h := h.2
                        refine q_alen23 C s137 dX3_init_20 ?_
                        refine q_icmp_ge (tgt := 43) C dX3_init_21 (by decide) (fun c => ?_) (fun c => absurd c h.2)
                        replace h := h.1
                        refine q_widen (k := 67) (z := 1122) (by decide) (by decide) ?_
                        exact q_vret C hk dX3_init_43 h
theorem sp_X3_init {d : Nat} {sh : List qSh} {K : Option Value → List qSh → qMI → qML → qMP → Prop} {a0 : Nat} {I : qMI} {L : qML} {P : qMP} (h0 : vc_X3_init_0 d sh K a0 I L P) : SqN (d + 1) 67 1122 mX3_init sh [.ref a0] I L P K := by
  refine Sq_of (by decide +kernel) (Nat.le_of_ble_eq_true rfl) (fun X C hk hn => ?_)
  exact rg_X3_init_0 C hk hn h0
/-! BracketDraws$Counter() -/
def vc_X0_init_0 (d : Nat) (sh : List qSh) (K : Option Value → List qSh → qMI → qML → qMP → Prop) (a0 : Nat) (I : qMI) (L : qML) (P : qMP) : Prop :=
  (¬ a0 = 0) ∧ (∀ sh2 : List qSh, sh2 = sh ++ [(5, 0)] → (SqN d 2 16 mX5_init sh2 [.ref (sh.length + 1)] I L P (KN fun sh3 I4 L5 P6 => ((shp sh3 a0).1 = 0) ∧ (∀ P8 : qMP, P8 = uP P6 a0 0 (sh.length + 1) → (∀ sh9 : List qSh, sh9 = sh3 ++ [(2, 0)] → (SqN d 1 40 mX2_init sh9 [.ref (sh3.length + 1)] I4 L5 P8 (KN fun sh10 I11 L12 P13 => ((shp sh10 a0).1 = 0) ∧ (∀ P15 : qMP, P15 = uP P13 a0 1 (sh3.length + 1) → (∀ I16 : qMI, I16 = uI I11 a0 5 2 → (∀ I17 : qMI, I17 = uI I16 a0 6 1 → (∀ sh18 : List qSh, sh18 = sh10 ++ [(20, 32)] → (((shp sh18 a0).1 = 0) ∧ (∀ P20 : qMP, P20 = uP P15 a0 8 (sh10.length + 1) → (∀ sh21 : List qSh, sh21 = sh18 ++ ((24, 16) :: List.replicate 16 (21, 1024)) → ∀ P22 : qMP, P22 = rowsP P20 (sh18.length + 1) 16 → (((shp sh21 a0).1 = 0) ∧ (∀ P24 : qMP, P24 = uP P22 a0 9 (sh18.length + 1) → (K none sh21 I17 L12 P24)))))))))))))))))
set_option maxRecDepth 100000 in
set_option maxHeartbeats 4000000 in
theorem rg_X0_init_0 {X : qCT} {d : Nat} {sh : List qSh} {K : Option Value → List qSh → qMI → qML → qMP → Prop} {a0 : Nat} {I : qMI} {L : qML} {P : qMP} (C : qCB X RX0 cX0_init 1 (d + 1) 23 16501) (hk : qCK X (none) 23 16501 K) (hn : (qMn X).name = "<init>") (h : vc_X0_init_0 d sh K a0 I L P) : qG X 0 [some (.ref a0)] [] sh I L P 0 0 := by
  unfold vc_X0_init_0 at h
  refine q_aload_n C dX0_init_0 rfl ?_
  have s1 := h.1
  replace h := h.2
  refine q_oinit C ml_RX0_3 s1 (Nat.le_of_ble_eq_true rfl) dX0_init_1 ?_
  refine q_aload_n C dX0_init_4 rfl ?_
  refine q_new C CLF5 cl_RX0_9 ins_RX5 ini_RX5 ⟨Nat.le_of_ble_eq_true rfl, Nat.le_of_ble_eq_true rfl⟩ dX0_init_5 ?_
  refine nm_sh (fun sh2 esh2 => ?_)
  replace h := h sh2 esh2
  refine q_dup C dX0_init_8 rfl ?_
  refine q_callN (mc1 := 2) (ms1 := 16) C mn_X5_init nw_RX0_11 dX0_init_9 (Nat.succ_ne_zero _) (Nat.le_of_ble_eq_true rfl) ⟨Nat.le_of_ble_eq_true rfl, Nat.le_of_ble_eq_true rfl⟩ h (fun sh3 I4 L5 P6 h => ?_) KN_void
  have s7 := h.1
  replace h := h.2
  refine q_putPF C fl_RX0_12 hn (fun q hq => by cases hq; rfl) (fun T hT => by cases hT; exact ⟨_, rfl, rfl⟩) rfl s7 (Nat.succ_ne_zero _) dX0_init_12 (fun P8 eP8 => ?_)
  replace h := h P8 eP8
  refine q_aload_n C dX0_init_15 rfl ?_
  refine q_new C CLF2 cl_RX0_18 ins_RX2 ini_RX2 ⟨Nat.le_of_ble_eq_true rfl, Nat.le_of_ble_eq_true rfl⟩ dX0_init_16 ?_
  refine nm_sh (fun sh9 esh9 => ?_)
  replace h := h sh9 esh9
  refine q_dup C dX0_init_19 rfl ?_
  refine q_callN (mc1 := 1) (ms1 := 40) C mn_X2_init nw_RX0_20 dX0_init_20 (Nat.succ_ne_zero _) (Nat.le_of_ble_eq_true rfl) ⟨Nat.le_of_ble_eq_true rfl, Nat.le_of_ble_eq_true rfl⟩ h (fun sh10 I11 L12 P13 h => ?_) KN_void
  have s14 := h.1
  replace h := h.2
  refine q_putPF C fl_RX0_21 hn (fun q hq => by cases hq; rfl) (fun T hT => by cases hT; exact ⟨_, rfl, rfl⟩) rfl s14 (Nat.succ_ne_zero _) dX0_init_23 (fun P15 eP15 => ?_)
  replace h := h P15 eP15
  refine q_aload_n C dX0_init_26 rfl ?_
  refine q_iconst (v := 2) C dX0_init_27 (by decide) ?_
  refine q_putI C fl_RX0_25 (fun T hT => by cases hT; rfl) rfl s14 dX0_init_28 (fun I16 eI16 => ?_)
  replace h := h I16 eI16
  refine q_aload_n C dX0_init_31 rfl ?_
  refine q_iconst (v := 1) C dX0_init_32 (by decide) ?_
  refine q_putI C fl_RX0_29 (fun T hT => by cases hT; rfl) rfl s14 dX0_init_33 (fun I17 eI17 => ?_)
  replace h := h I17 eI17
  refine q_aload_n C dX0_init_36 rfl ?_
  refine q_bipush (v := 32) C dX0_init_37 (by decide) ?_
  refine q_newI (N := 32) C (by decide) (by decide) (by decide) ⟨Nat.le_of_ble_eq_true rfl, Nat.le_of_ble_eq_true rfl⟩ dX0_init_39 ?_
  refine nm_sh (fun sh18 esh18 => ?_)
  replace h := h sh18 esh18
  have s19 := h.1
  replace h := h.2
  refine q_putPF C fl_RX0_32 hn (fun q hq => by cases hq; rfl) (fun T hT => by cases hT; exact ⟨_, rfl, rfl⟩) rfl s19 (Nat.succ_ne_zero _) dX0_init_41 (fun P20 eP20 => ?_)
  replace h := h P20 eP20
  refine q_aload_n C dX0_init_44 rfl ?_
  refine q_bipush (v := 16) C dX0_init_45 (by decide) ?_
  refine q_sipush (v := 1024) C dX0_init_47 (by decide) ?_
  refine q_multi (N := 16) (K1 := 1024) C cl_RX0_36 (by decide) (by decide) (by decide) (by decide) (by decide) (by decide) ⟨Nat.le_of_ble_eq_true rfl, Nat.le_of_ble_eq_true rfl⟩ dX0_init_50 (fun sh21 esh21 P22 eP22 => ?_)
  replace h := h sh21 esh21 P22 eP22
  have s23 := h.1
  replace h := h.2
  refine q_putPF C fl_RX0_38 hn (fun q hq => by cases hq; rfl) (fun T hT => by cases hT; exact ⟨_, rfl, rfl⟩) rfl s23 (Nat.succ_ne_zero _) dX0_init_54 (fun P24 eP24 => ?_)
  replace h := h P24 eP24
  refine q_widen (k := 23) (z := 16501) (by decide) (by decide) ?_
  exact q_vret C hk dX0_init_57 h
theorem sp_X0_init {d : Nat} {sh : List qSh} {K : Option Value → List qSh → qMI → qML → qMP → Prop} {a0 : Nat} {I : qMI} {L : qML} {P : qMP} (h0 : vc_X0_init_0 d sh K a0 I L P) : SqN (d + 1) 23 16501 mX0_init sh [.ref a0] I L P K := by
  refine Sq_of (by decide +kernel) (Nat.le_of_ble_eq_true rfl) (fun X C hk hn => ?_)
  exact rg_X0_init_0 C hk hn h0
/-! BracketDraws$Numbering() -/
def vc_X4_init_0 (d : Nat) (sh : List qSh) (K : Option Value → List qSh → qMI → qML → qMP → Prop) (a0 : Nat) (I : qMI) (L : qML) (P : qMP) : Prop :=
  (¬ a0 = 0) ∧ (∀ sh2 : List qSh, sh2 = sh ++ [(20, 32)] → (((shp sh2 a0).1 = 4) ∧ (∀ P4 : qMP, P4 = uP P a0 0 (sh.length + 1) → (∀ sh5 : List qSh, sh5 = sh2 ++ [(21, 32)] → (((shp sh5 a0).1 = 4) ∧ (∀ P7 : qMP, P7 = uP P4 a0 1 (sh2.length + 1) → (K none sh5 I L P7)))))))
set_option maxRecDepth 100000 in
set_option maxHeartbeats 4000000 in
theorem rg_X4_init_0 {X : qCT} {d : Nat} {sh : List qSh} {K : Option Value → List qSh → qMI → qML → qMP → Prop} {a0 : Nat} {I : qMI} {L : qML} {P : qMP} (C : qCB X RX4 cX4_init 1 (d + 1) 2 64) (hk : qCK X (none) 2 64 K) (hn : (qMn X).name = "<init>") (h : vc_X4_init_0 d sh K a0 I L P) : qG X 0 [some (.ref a0)] [] sh I L P 0 0 := by
  unfold vc_X4_init_0 at h
  refine q_aload_n C dX4_init_0 rfl ?_
  have s1 := h.1
  replace h := h.2
  refine q_oinit C ml_RX4_3 s1 (Nat.le_of_ble_eq_true rfl) dX4_init_1 ?_
  refine q_aload_n C dX4_init_4 rfl ?_
  refine q_bipush (v := 32) C dX4_init_5 (by decide) ?_
  refine q_newI (N := 32) C (by decide) (by decide) (by decide) ⟨Nat.le_of_ble_eq_true rfl, Nat.le_of_ble_eq_true rfl⟩ dX4_init_7 ?_
  refine nm_sh (fun sh2 esh2 => ?_)
  replace h := h sh2 esh2
  have s3 := h.1
  replace h := h.2
  refine q_putPF C fl_RX4_9 hn (fun q hq => by cases hq; rfl) (fun T hT => by cases hT; exact ⟨_, rfl, rfl⟩) rfl s3 (Nat.succ_ne_zero _) dX4_init_9 (fun P4 eP4 => ?_)
  replace h := h P4 eP4
  refine q_aload_n C dX4_init_12 rfl ?_
  refine q_bipush (v := 32) C dX4_init_13 (by decide) ?_
  refine q_newJ (N := 32) C (by decide) (by decide) (by decide) ⟨Nat.le_of_ble_eq_true rfl, Nat.le_of_ble_eq_true rfl⟩ dX4_init_15 ?_
  refine nm_sh (fun sh5 esh5 => ?_)
  replace h := h sh5 esh5
  have s6 := h.1
  replace h := h.2
  refine q_putPF C fl_RX4_15 hn (fun q hq => by cases hq; rfl) (fun T hT => by cases hT; exact ⟨_, rfl, rfl⟩) rfl s6 (Nat.succ_ne_zero _) dX4_init_17 (fun P7 eP7 => ?_)
  replace h := h P7 eP7
  refine q_widen (k := 2) (z := 64) (by decide) (by decide) ?_
  exact q_vret C hk dX4_init_20 h
theorem sp_X4_init {d : Nat} {sh : List qSh} {K : Option Value → List qSh → qMI → qML → qMP → Prop} {a0 : Nat} {I : qMI} {L : qML} {P : qMP} (h0 : vc_X4_init_0 d sh K a0 I L P) : SqN (d + 1) 2 64 mX4_init sh [.ref a0] I L P K := by
  refine Sq_of (by decide +kernel) (Nat.le_of_ble_eq_true rfl) (fun X C hk hn => ?_)
  exact rg_X4_init_0 C hk hn h0
/-! BracketDraws() -/
def vc_X9_init_0 (d : Nat) (sh : List qSh) (K : Option Value → List qSh → qMI → qML → qMP → Prop) (a0 : Nat) (I : qMI) (L : qML) (P : qMP) : Prop :=
  (¬ a0 = 0) ∧ (∀ sh2 : List qSh, sh2 = sh ++ [(6, 0)] → (SqN d 5 99 mX6_init sh2 [.ref (sh.length + 1)] I L P (KN fun sh3 I4 L5 P6 => ((shp sh3 a0).1 = 9) ∧ (∀ P8 : qMP, P8 = uP P6 a0 0 (sh.length + 1) → (∀ sh9 : List qSh, sh9 = sh3 ++ [(6, 0)] → (SqN d 5 99 mX6_init sh9 [.ref (sh3.length + 1)] I4 L5 P8 (KN fun sh10 I11 L12 P13 => ((shp sh10 a0).1 = 9) ∧ (∀ P15 : qMP, P15 = uP P13 a0 1 (sh3.length + 1) → (∀ sh16 : List qSh, sh16 = sh10 ++ [(3, 0)] → (SqN d 67 1122 mX3_init sh16 [.ref (sh10.length + 1)] I11 L12 P15 (KN fun sh17 I18 L19 P20 => ((shp sh17 a0).1 = 9) ∧ (∀ P22 : qMP, P22 = uP P20 a0 2 (sh10.length + 1) → (∀ sh23 : List qSh, sh23 = sh17 ++ [(8, 0)] → (SqN d 5 170 mX8_init sh23 [.ref (sh17.length + 1)] I18 L19 P22 (KN fun sh24 I25 L26 P27 => ((shp sh24 a0).1 = 9) ∧ (∀ P29 : qMP, P29 = uP P27 a0 3 (sh17.length + 1) → (∀ sh30 : List qSh, sh30 = sh24 ++ [(0, 0)] → (SqN d 23 16501 mX0_init sh30 [.ref (sh24.length + 1)] I25 L26 P29 (KN fun sh31 I32 L33 P34 => ((shp sh31 a0).1 = 9) ∧ (∀ P36 : qMP, P36 = uP P34 a0 4 (sh24.length + 1) → (∀ sh37 : List qSh, sh37 = sh31 ++ [(0, 0)] → (SqN d 23 16501 mX0_init sh37 [.ref (sh31.length + 1)] I32 L33 P36 (KN fun sh38 I39 L40 P41 => ((shp sh38 a0).1 = 9) ∧ (∀ P43 : qMP, P43 = uP P41 a0 5 (sh31.length + 1) → (∀ sh44 : List qSh, sh44 = sh38 ++ [(4, 0)] → (SqN d 2 64 mX4_init sh44 [.ref (sh38.length + 1)] I39 L40 P43 (KN fun sh45 I46 L47 P48 => ((shp sh45 a0).1 = 9) ∧ (∀ P50 : qMP, P50 = uP P48 a0 6 (sh38.length + 1) → (∀ sh51 : List qSh, sh51 = sh45 ++ [(2, 0)] → (SqN d 1 40 mX2_init sh51 [.ref (sh45.length + 1)] I46 L47 P50 (KN fun sh52 I53 L54 P55 => ((shp sh52 a0).1 = 9) ∧ (∀ P57 : qMP, P57 = uP P55 a0 7 (sh45.length + 1) → (∀ sh58 : List qSh, sh58 = sh52 ++ [(1, 0)] → (SqN d 2 48 mX1_init sh58 [.ref (sh52.length + 1)] I53 L54 P57 (KN fun sh59 I60 L61 P62 => ((shp sh59 a0).1 = 9) ∧ (∀ P64 : qMP, P64 = uP P62 a0 8 (sh52.length + 1) → (∀ I65 : qMI, I65 = uI I60 a0 10 ((-4)) → (K none sh59 I65 L61 P64))))))))))))))))))))))))))))))))))))))
set_option maxRecDepth 100000 in
set_option maxHeartbeats 4000000 in
theorem rg_X9_init_0 {X : qCT} {d : Nat} {sh : List qSh} {K : Option Value → List qSh → qMI → qML → qMP → Prop} {a0 : Nat} {I : qMI} {L : qML} {P : qMP} (C : qCB X RX9 cX9_init 1 (d + 1) 142 34688) (hk : qCK X (none) 142 34688 K) (hn : (qMn X).name = "<init>") (h : vc_X9_init_0 d sh K a0 I L P) : qG X 0 [some (.ref a0)] [] sh I L P 0 0 := by
  unfold vc_X9_init_0 at h
  refine q_aload_n C dX9_init_0 rfl ?_
  have s1 := h.1
  replace h := h.2
  refine q_oinit C ml_RX9_1 s1 (Nat.le_of_ble_eq_true rfl) dX9_init_1 ?_
  refine q_aload_n C dX9_init_4 rfl ?_
  refine q_new C CLF6 cl_RX9_7 ins_RX6 ini_RX6 ⟨Nat.le_of_ble_eq_true rfl, Nat.le_of_ble_eq_true rfl⟩ dX9_init_5 ?_
  refine nm_sh (fun sh2 esh2 => ?_)
  replace h := h sh2 esh2
  refine q_dup C dX9_init_8 rfl ?_
  refine q_callN (mc1 := 5) (ms1 := 99) C mn_X6_init nw_RX9_9 dX9_init_9 (Nat.succ_ne_zero _) (Nat.le_of_ble_eq_true rfl) ⟨Nat.le_of_ble_eq_true rfl, Nat.le_of_ble_eq_true rfl⟩ h (fun sh3 I4 L5 P6 h => ?_) KN_void
  have s7 := h.1
  replace h := h.2
  refine q_putPF C fl_RX9_10 hn (fun q hq => by cases hq; rfl) (fun T hT => by cases hT; exact ⟨_, rfl, rfl⟩) rfl s7 (Nat.succ_ne_zero _) dX9_init_12 (fun P8 eP8 => ?_)
  replace h := h P8 eP8
  refine q_aload_n C dX9_init_15 rfl ?_
  refine q_new C CLF6 cl_RX9_7 ins_RX6 ini_RX6 ⟨Nat.le_of_ble_eq_true rfl, Nat.le_of_ble_eq_true rfl⟩ dX9_init_16 ?_
  refine nm_sh (fun sh9 esh9 => ?_)
  replace h := h sh9 esh9
  refine q_dup C dX9_init_19 rfl ?_
  refine q_callN (mc1 := 5) (ms1 := 99) C mn_X6_init nw_RX9_9 dX9_init_20 (Nat.succ_ne_zero _) (Nat.le_of_ble_eq_true rfl) ⟨Nat.le_of_ble_eq_true rfl, Nat.le_of_ble_eq_true rfl⟩ h (fun sh10 I11 L12 P13 h => ?_) KN_void
  have s14 := h.1
  replace h := h.2
  refine q_putPF C fl_RX9_16 hn (fun q hq => by cases hq; rfl) (fun T hT => by cases hT; exact ⟨_, rfl, rfl⟩) rfl s14 (Nat.succ_ne_zero _) dX9_init_23 (fun P15 eP15 => ?_)
  replace h := h P15 eP15
  refine q_aload_n C dX9_init_26 rfl ?_
  refine q_new C CLF3 cl_RX9_19 ins_RX3 ini_RX3 ⟨Nat.le_of_ble_eq_true rfl, Nat.le_of_ble_eq_true rfl⟩ dX9_init_27 ?_
  refine nm_sh (fun sh16 esh16 => ?_)
  replace h := h sh16 esh16
  refine q_dup C dX9_init_30 rfl ?_
  refine q_callI (mc1 := 67) (ms1 := 1122) (host := mX0_isFor.1.name) C mn_X3_init ml_RX9_21 rfl dX9_init_31 (Nat.succ_ne_zero _) (Nat.le_of_ble_eq_true rfl) ⟨Nat.le_of_ble_eq_true rfl, Nat.le_of_ble_eq_true rfl⟩ h (fun sh17 I18 L19 P20 h => ?_) KN_void
  have s21 := h.1
  replace h := h.2
  refine q_putPF C fl_RX9_22 hn (fun q hq => by cases hq; rfl) (fun T hT => by cases hT; exact ⟨_, rfl, rfl⟩) rfl s21 (Nat.succ_ne_zero _) dX9_init_34 (fun P22 eP22 => ?_)
  replace h := h P22 eP22
  refine q_aload_n C dX9_init_37 rfl ?_
  refine q_new C CLF8 cl_RX9_26 ins_RX8 ini_RX8 ⟨Nat.le_of_ble_eq_true rfl, Nat.le_of_ble_eq_true rfl⟩ dX9_init_38 ?_
  refine nm_sh (fun sh23 esh23 => ?_)
  replace h := h sh23 esh23
  refine q_dup C dX9_init_41 rfl ?_
  refine q_callN (mc1 := 5) (ms1 := 170) C mn_X8_init nw_RX9_28 dX9_init_42 (Nat.succ_ne_zero _) (Nat.le_of_ble_eq_true rfl) ⟨Nat.le_of_ble_eq_true rfl, Nat.le_of_ble_eq_true rfl⟩ h (fun sh24 I25 L26 P27 h => ?_) KN_void
  have s28 := h.1
  replace h := h.2
  refine q_putPF C fl_RX9_29 hn (fun q hq => by cases hq; rfl) (fun T hT => by cases hT; exact ⟨_, rfl, rfl⟩) rfl s28 (Nat.succ_ne_zero _) dX9_init_45 (fun P29 eP29 => ?_)
  replace h := h P29 eP29
  refine q_aload_n C dX9_init_48 rfl ?_
  refine q_new C CLF0 cl_RX9_33 ins_RX0 ini_RX0 ⟨Nat.le_of_ble_eq_true rfl, Nat.le_of_ble_eq_true rfl⟩ dX9_init_49 ?_
  refine nm_sh (fun sh30 esh30 => ?_)
  replace h := h sh30 esh30
  refine q_dup C dX9_init_52 rfl ?_
  refine q_callN (mc1 := 23) (ms1 := 16501) C mn_X0_init nw_RX9_35 dX9_init_53 (Nat.succ_ne_zero _) (Nat.le_of_ble_eq_true rfl) ⟨Nat.le_of_ble_eq_true rfl, Nat.le_of_ble_eq_true rfl⟩ h (fun sh31 I32 L33 P34 h => ?_) KN_void
  have s35 := h.1
  replace h := h.2
  refine q_putPF C fl_RX9_36 hn (fun q hq => by cases hq; rfl) (fun T hT => by cases hT; exact ⟨_, rfl, rfl⟩) rfl s35 (Nat.succ_ne_zero _) dX9_init_56 (fun P36 eP36 => ?_)
  replace h := h P36 eP36
  refine q_aload_n C dX9_init_59 rfl ?_
  refine q_new C CLF0 cl_RX9_33 ins_RX0 ini_RX0 ⟨Nat.le_of_ble_eq_true rfl, Nat.le_of_ble_eq_true rfl⟩ dX9_init_60 ?_
  refine nm_sh (fun sh37 esh37 => ?_)
  replace h := h sh37 esh37
  refine q_dup C dX9_init_63 rfl ?_
  refine q_callN (mc1 := 23) (ms1 := 16501) C mn_X0_init nw_RX9_35 dX9_init_64 (Nat.succ_ne_zero _) (Nat.le_of_ble_eq_true rfl) ⟨Nat.le_of_ble_eq_true rfl, Nat.le_of_ble_eq_true rfl⟩ h (fun sh38 I39 L40 P41 h => ?_) KN_void
  have s42 := h.1
  replace h := h.2
  refine q_putPF C fl_RX9_40 hn (fun q hq => by cases hq; rfl) (fun T hT => by cases hT; exact ⟨_, rfl, rfl⟩) rfl s42 (Nat.succ_ne_zero _) dX9_init_67 (fun P43 eP43 => ?_)
  replace h := h P43 eP43
  refine q_aload_n C dX9_init_70 rfl ?_
  refine q_new C CLF4 cl_RX9_43 ins_RX4 ini_RX4 ⟨Nat.le_of_ble_eq_true rfl, Nat.le_of_ble_eq_true rfl⟩ dX9_init_71 ?_
  refine nm_sh (fun sh44 esh44 => ?_)
  replace h := h sh44 esh44
  refine q_dup C dX9_init_74 rfl ?_
  refine q_callN (mc1 := 2) (ms1 := 64) C mn_X4_init nw_RX9_45 dX9_init_75 (Nat.succ_ne_zero _) (Nat.le_of_ble_eq_true rfl) ⟨Nat.le_of_ble_eq_true rfl, Nat.le_of_ble_eq_true rfl⟩ h (fun sh45 I46 L47 P48 h => ?_) KN_void
  have s49 := h.1
  replace h := h.2
  refine q_putPF C fl_RX9_46 hn (fun q hq => by cases hq; rfl) (fun T hT => by cases hT; exact ⟨_, rfl, rfl⟩) rfl s49 (Nat.succ_ne_zero _) dX9_init_78 (fun P50 eP50 => ?_)
  replace h := h P50 eP50
  refine q_aload_n C dX9_init_81 rfl ?_
  refine q_new C CLF2 cl_RX9_50 ins_RX2 ini_RX2 ⟨Nat.le_of_ble_eq_true rfl, Nat.le_of_ble_eq_true rfl⟩ dX9_init_82 ?_
  refine nm_sh (fun sh51 esh51 => ?_)
  replace h := h sh51 esh51
  refine q_dup C dX9_init_85 rfl ?_
  refine q_callN (mc1 := 1) (ms1 := 40) C mn_X2_init nw_RX9_52 dX9_init_86 (Nat.succ_ne_zero _) (Nat.le_of_ble_eq_true rfl) ⟨Nat.le_of_ble_eq_true rfl, Nat.le_of_ble_eq_true rfl⟩ h (fun sh52 I53 L54 P55 h => ?_) KN_void
  have s56 := h.1
  replace h := h.2
  refine q_putPF C fl_RX9_53 hn (fun q hq => by cases hq; rfl) (fun T hT => by cases hT; exact ⟨_, rfl, rfl⟩) rfl s56 (Nat.succ_ne_zero _) dX9_init_89 (fun P57 eP57 => ?_)
  replace h := h P57 eP57
  refine q_aload_n C dX9_init_92 rfl ?_
  refine q_new C CLF1 cl_RX9_57 ins_RX1 ini_RX1 ⟨Nat.le_of_ble_eq_true rfl, Nat.le_of_ble_eq_true rfl⟩ dX9_init_93 ?_
  refine nm_sh (fun sh58 esh58 => ?_)
  replace h := h sh58 esh58
  refine q_dup C dX9_init_96 rfl ?_
  refine q_callN (mc1 := 2) (ms1 := 48) C mn_X1_init nw_RX9_59 dX9_init_97 (Nat.succ_ne_zero _) (Nat.le_of_ble_eq_true rfl) ⟨Nat.le_of_ble_eq_true rfl, Nat.le_of_ble_eq_true rfl⟩ h (fun sh59 I60 L61 P62 h => ?_) KN_void
  have s63 := h.1
  replace h := h.2
  refine q_putPF C fl_RX9_60 hn (fun q hq => by cases hq; rfl) (fun T hT => by cases hT; exact ⟨_, rfl, rfl⟩) rfl s63 (Nat.succ_ne_zero _) dX9_init_100 (fun P64 eP64 => ?_)
  replace h := h P64 eP64
  refine q_aload_n C dX9_init_103 rfl ?_
  refine q_bipush (v := (-4)) C dX9_init_104 (by decide) ?_
  refine q_putI C fl_RX9_64 (fun T hT => by cases hT; rfl) rfl s63 dX9_init_106 (fun I65 eI65 => ?_)
  replace h := h I65 eI65
  refine q_widen (k := 142) (z := 34688) (by decide) (by decide) ?_
  exact q_vret C hk dX9_init_109 h
theorem sp_X9_init {d : Nat} {sh : List qSh} {K : Option Value → List qSh → qMI → qML → qMP → Prop} {a0 : Nat} {I : qMI} {L : qML} {P : qMP} (h0 : vc_X9_init_0 d sh K a0 I L P) : SqN (d + 1) 142 34688 mX9_init sh [.ref a0] I L P K := by
  refine Sq_of (by decide +kernel) (Nat.le_of_ble_eq_true rfl) (fun X C hk hn => ?_)
  exact rg_X9_init_0 C hk hn h0
/-! BracketDrawsModel() -/
def vc_X10_init_0 (d : Nat) (sh : List qSh) (K : Option Value → List qSh → qMI → qML → qMP → Prop) (a0 : Nat) (I : qMI) (L : qML) (P : qMP) : Prop :=
  (¬ a0 = 0) ∧ (∀ sh2 : List qSh, sh2 = sh ++ [(20, 84)] → (((shp sh2 a0).1 = 10) ∧ (∀ P4 : qMP, P4 = uP P a0 0 (sh.length + 1) → (∀ sh5 : List qSh, sh5 = sh2 ++ [(20, 84)] → (((shp sh5 a0).1 = 10) ∧ (∀ P7 : qMP, P7 = uP P4 a0 1 (sh2.length + 1) → (∀ sh8 : List qSh, sh8 = sh5 ++ [(20, 840)] → (((shp sh8 a0).1 = 10) ∧ (∀ P10 : qMP, P10 = uP P7 a0 2 (sh5.length + 1) → (∀ sh11 : List qSh, sh11 = sh8 ++ [(20, 840)] → (((shp sh11 a0).1 = 10) ∧ (∀ P13 : qMP, P13 = uP P10 a0 3 (sh8.length + 1) → (∀ sh14 : List qSh, sh14 = sh11 ++ [(20, 120)] → (((shp sh14 a0).1 = 10) ∧ (∀ P16 : qMP, P16 = uP P13 a0 7 (sh11.length + 1) → (∀ sh17 : List qSh, sh17 = sh14 ++ [(20, 40)] → (((shp sh17 a0).1 = 10) ∧ (∀ P19 : qMP, P19 = uP P16 a0 8 (sh14.length + 1) → (∀ sh20 : List qSh, sh20 = sh17 ++ [(20, 4)] → (((shp sh20 a0).1 = 10) ∧ (∀ P22 : qMP, P22 = uP P19 a0 9 (sh17.length + 1) → (∀ sh23 : List qSh, sh23 = sh20 ++ [(20, 16)] → (((shp sh23 a0).1 = 10) ∧ (∀ P25 : qMP, P25 = uP P22 a0 13 (sh20.length + 1) → (∀ sh26 : List qSh, sh26 = sh23 ++ [(20, 16)] → (((shp sh26 a0).1 = 10) ∧ (∀ P28 : qMP, P28 = uP P25 a0 14 (sh23.length + 1) → (∀ sh29 : List qSh, sh29 = sh26 ++ [(21, 31744)] → (((shp sh29 a0).1 = 10) ∧ (∀ P31 : qMP, P31 = uP P28 a0 15 (sh26.length + 1) → (∀ sh32 : List qSh, sh32 = sh29 ++ [(21, 31744)] → (((shp sh32 a0).1 = 10) ∧ (∀ P34 : qMP, P34 = uP P31 a0 16 (sh29.length + 1) → (∀ sh35 : List qSh, sh35 = sh32 ++ [(22, 1024)] → (((shp sh35 a0).1 = 10) ∧ (∀ P37 : qMP, P37 = uP P34 a0 18 (sh32.length + 1) → (∀ sh38 : List qSh, sh38 = sh35 ++ [(22, 1024)] → (((shp sh38 a0).1 = 10) ∧ (∀ P40 : qMP, P40 = uP P37 a0 19 (sh35.length + 1) → (∀ sh41 : List qSh, sh41 = sh38 ++ [(20, 1024)] → (((shp sh41 a0).1 = 10) ∧ (∀ P43 : qMP, P43 = uP P40 a0 20 (sh38.length + 1) → (∀ sh44 : List qSh, sh44 = sh41 ++ [(20, 10)] → (((shp sh44 a0).1 = 10) ∧ (∀ P46 : qMP, P46 = uP P43 a0 21 (sh41.length + 1) → (∀ sh47 : List qSh, sh47 = sh44 ++ [(20, 16)] → (((shp sh47 a0).1 = 10) ∧ (∀ P49 : qMP, P49 = uP P46 a0 26 (sh44.length + 1) → (∀ sh50 : List qSh, sh50 = sh47 ++ [(20, 84)] → (((shp sh50 a0).1 = 10) ∧ (∀ P52 : qMP, P52 = uP P49 a0 27 (sh47.length + 1) → (((shp sh50 (P52 a0 0)).1 = 20) ∧ ((vp_in 1 (shp sh50 (P52 a0 0)).2) ∧ (∀ I55 : qMI, I55 = uI I (P52 a0 0) (Int32.toNatClampNeg 1) 1 → (K none sh50 I55 L P52)))))))))))))))))))))))))))))))))))))))))))))))))))))))
set_option maxRecDepth 100000 in
set_option maxHeartbeats 4000000 in
theorem rg_X10_init_0 {X : qCT} {d : Nat} {sh : List qSh} {K : Option Value → List qSh → qMI → qML → qMP → Prop} {a0 : Nat} {I : qMI} {L : qML} {P : qMP} (C : qCB X RX10 cX10_init 1 (d + 1) 17 68714) (hk : qCK X (none) 17 68714 K) (hn : (qMn X).name = "<init>") (h : vc_X10_init_0 d sh K a0 I L P) : qG X 0 [some (.ref a0)] [] sh I L P 0 0 := by
  unfold vc_X10_init_0 at h
  refine q_aload_n C dX10_init_0 rfl ?_
  have s1 := h.1
  replace h := h.2
  refine q_oinit C ml_RX10_1 s1 (Nat.le_of_ble_eq_true rfl) dX10_init_1 ?_
  refine q_aload_n C dX10_init_4 rfl ?_
  refine q_bipush (v := 84) C dX10_init_5 (by decide) ?_
  refine q_newI (N := 84) C (by decide) (by decide) (by decide) ⟨Nat.le_of_ble_eq_true rfl, Nat.le_of_ble_eq_true rfl⟩ dX10_init_7 ?_
  refine nm_sh (fun sh2 esh2 => ?_)
  replace h := h sh2 esh2
  have s3 := h.1
  replace h := h.2
  refine q_putPF C fl_RX10_9 hn (fun q hq => by cases hq; rfl) (fun T hT => by cases hT; exact ⟨_, rfl, rfl⟩) rfl s3 (Nat.succ_ne_zero _) dX10_init_9 (fun P4 eP4 => ?_)
  replace h := h P4 eP4
  refine q_aload_n C dX10_init_12 rfl ?_
  refine q_bipush (v := 84) C dX10_init_13 (by decide) ?_
  refine q_newI (N := 84) C (by decide) (by decide) (by decide) ⟨Nat.le_of_ble_eq_true rfl, Nat.le_of_ble_eq_true rfl⟩ dX10_init_15 ?_
  refine nm_sh (fun sh5 esh5 => ?_)
  replace h := h sh5 esh5
  have s6 := h.1
  replace h := h.2
  refine q_putPF C fl_RX10_13 hn (fun q hq => by cases hq; rfl) (fun T hT => by cases hT; exact ⟨_, rfl, rfl⟩) rfl s6 (Nat.succ_ne_zero _) dX10_init_17 (fun P7 eP7 => ?_)
  replace h := h P7 eP7
  refine q_aload_n C dX10_init_20 rfl ?_
  refine q_sipush (v := 840) C dX10_init_21 (by decide) ?_
  refine q_newI (N := 840) C (by decide) (by decide) (by decide) ⟨Nat.le_of_ble_eq_true rfl, Nat.le_of_ble_eq_true rfl⟩ dX10_init_24 ?_
  refine nm_sh (fun sh8 esh8 => ?_)
  replace h := h sh8 esh8
  have s9 := h.1
  replace h := h.2
  refine q_putPF C fl_RX10_16 hn (fun q hq => by cases hq; rfl) (fun T hT => by cases hT; exact ⟨_, rfl, rfl⟩) rfl s9 (Nat.succ_ne_zero _) dX10_init_26 (fun P10 eP10 => ?_)
  replace h := h P10 eP10
  refine q_aload_n C dX10_init_29 rfl ?_
  refine q_sipush (v := 840) C dX10_init_30 (by decide) ?_
  refine q_newI (N := 840) C (by decide) (by decide) (by decide) ⟨Nat.le_of_ble_eq_true rfl, Nat.le_of_ble_eq_true rfl⟩ dX10_init_33 ?_
  refine nm_sh (fun sh11 esh11 => ?_)
  replace h := h sh11 esh11
  have s12 := h.1
  replace h := h.2
  refine q_putPF C fl_RX10_19 hn (fun q hq => by cases hq; rfl) (fun T hT => by cases hT; exact ⟨_, rfl, rfl⟩) rfl s12 (Nat.succ_ne_zero _) dX10_init_35 (fun P13 eP13 => ?_)
  replace h := h P13 eP13
  refine q_aload_n C dX10_init_38 rfl ?_
  refine q_bipush (v := 120) C dX10_init_39 (by decide) ?_
  refine q_newI (N := 120) C (by decide) (by decide) (by decide) ⟨Nat.le_of_ble_eq_true rfl, Nat.le_of_ble_eq_true rfl⟩ dX10_init_41 ?_
  refine nm_sh (fun sh14 esh14 => ?_)
  replace h := h sh14 esh14
  have s15 := h.1
  replace h := h.2
  refine q_putPF C fl_RX10_22 hn (fun q hq => by cases hq; rfl) (fun T hT => by cases hT; exact ⟨_, rfl, rfl⟩) rfl s15 (Nat.succ_ne_zero _) dX10_init_43 (fun P16 eP16 => ?_)
  replace h := h P16 eP16
  refine q_aload_n C dX10_init_46 rfl ?_
  refine q_bipush (v := 40) C dX10_init_47 (by decide) ?_
  refine q_newI (N := 40) C (by decide) (by decide) (by decide) ⟨Nat.le_of_ble_eq_true rfl, Nat.le_of_ble_eq_true rfl⟩ dX10_init_49 ?_
  refine nm_sh (fun sh17 esh17 => ?_)
  replace h := h sh17 esh17
  have s18 := h.1
  replace h := h.2
  refine q_putPF C fl_RX10_25 hn (fun q hq => by cases hq; rfl) (fun T hT => by cases hT; exact ⟨_, rfl, rfl⟩) rfl s18 (Nat.succ_ne_zero _) dX10_init_51 (fun P19 eP19 => ?_)
  replace h := h P19 eP19
  refine q_aload_n C dX10_init_54 rfl ?_
  refine q_iconst (v := 4) C dX10_init_55 (by decide) ?_
  refine q_newI (N := 4) C (by decide) (by decide) (by decide) ⟨Nat.le_of_ble_eq_true rfl, Nat.le_of_ble_eq_true rfl⟩ dX10_init_56 ?_
  refine nm_sh (fun sh20 esh20 => ?_)
  replace h := h sh20 esh20
  have s21 := h.1
  replace h := h.2
  refine q_putPF C fl_RX10_28 hn (fun q hq => by cases hq; rfl) (fun T hT => by cases hT; exact ⟨_, rfl, rfl⟩) rfl s21 (Nat.succ_ne_zero _) dX10_init_58 (fun P22 eP22 => ?_)
  replace h := h P22 eP22
  refine q_aload_n C dX10_init_61 rfl ?_
  refine q_bipush (v := 16) C dX10_init_62 (by decide) ?_
  refine q_newI (N := 16) C (by decide) (by decide) (by decide) ⟨Nat.le_of_ble_eq_true rfl, Nat.le_of_ble_eq_true rfl⟩ dX10_init_64 ?_
  refine nm_sh (fun sh23 esh23 => ?_)
  replace h := h sh23 esh23
  have s24 := h.1
  replace h := h.2
  refine q_putPF C fl_RX10_31 hn (fun q hq => by cases hq; rfl) (fun T hT => by cases hT; exact ⟨_, rfl, rfl⟩) rfl s24 (Nat.succ_ne_zero _) dX10_init_66 (fun P25 eP25 => ?_)
  replace h := h P25 eP25
  refine q_aload_n C dX10_init_69 rfl ?_
  refine q_bipush (v := 16) C dX10_init_70 (by decide) ?_
  refine q_newI (N := 16) C (by decide) (by decide) (by decide) ⟨Nat.le_of_ble_eq_true rfl, Nat.le_of_ble_eq_true rfl⟩ dX10_init_72 ?_
  refine nm_sh (fun sh26 esh26 => ?_)
  replace h := h sh26 esh26
  have s27 := h.1
  replace h := h.2
  refine q_putPF C fl_RX10_34 hn (fun q hq => by cases hq; rfl) (fun T hT => by cases hT; exact ⟨_, rfl, rfl⟩) rfl s27 (Nat.succ_ne_zero _) dX10_init_74 (fun P28 eP28 => ?_)
  replace h := h P28 eP28
  refine q_aload_n C dX10_init_77 rfl ?_
  refine q_sipush (v := 31744) C dX10_init_78 (by decide) ?_
  refine q_newJ (N := 31744) C (by decide) (by decide) (by decide) ⟨Nat.le_of_ble_eq_true rfl, Nat.le_of_ble_eq_true rfl⟩ dX10_init_81 ?_
  refine nm_sh (fun sh29 esh29 => ?_)
  replace h := h sh29 esh29
  have s30 := h.1
  replace h := h.2
  refine q_putPF C fl_RX10_37 hn (fun q hq => by cases hq; rfl) (fun T hT => by cases hT; exact ⟨_, rfl, rfl⟩) rfl s30 (Nat.succ_ne_zero _) dX10_init_83 (fun P31 eP31 => ?_)
  replace h := h P31 eP31
  refine q_aload_n C dX10_init_86 rfl ?_
  refine q_sipush (v := 31744) C dX10_init_87 (by decide) ?_
  refine q_newJ (N := 31744) C (by decide) (by decide) (by decide) ⟨Nat.le_of_ble_eq_true rfl, Nat.le_of_ble_eq_true rfl⟩ dX10_init_90 ?_
  refine nm_sh (fun sh32 esh32 => ?_)
  replace h := h sh32 esh32
  have s33 := h.1
  replace h := h.2
  refine q_putPF C fl_RX10_41 hn (fun q hq => by cases hq; rfl) (fun T hT => by cases hT; exact ⟨_, rfl, rfl⟩) rfl s33 (Nat.succ_ne_zero _) dX10_init_92 (fun P34 eP34 => ?_)
  replace h := h P34 eP34
  refine q_aload_n C dX10_init_95 rfl ?_
  refine q_sipush (v := 1024) C dX10_init_96 (by decide) ?_
  refine q_newZ (N := 1024) C (by decide) (by decide) (by decide) ⟨Nat.le_of_ble_eq_true rfl, Nat.le_of_ble_eq_true rfl⟩ dX10_init_99 ?_
  refine nm_sh (fun sh35 esh35 => ?_)
  replace h := h sh35 esh35
  have s36 := h.1
  replace h := h.2
  refine q_putPF C fl_RX10_44 hn (fun q hq => by cases hq; rfl) (fun T hT => by cases hT; exact ⟨_, rfl, rfl⟩) rfl s36 (Nat.succ_ne_zero _) dX10_init_101 (fun P37 eP37 => ?_)
  replace h := h P37 eP37
  refine q_aload_n C dX10_init_104 rfl ?_
  refine q_sipush (v := 1024) C dX10_init_105 (by decide) ?_
  refine q_newZ (N := 1024) C (by decide) (by decide) (by decide) ⟨Nat.le_of_ble_eq_true rfl, Nat.le_of_ble_eq_true rfl⟩ dX10_init_108 ?_
  refine nm_sh (fun sh38 esh38 => ?_)
  replace h := h sh38 esh38
  have s39 := h.1
  replace h := h.2
  refine q_putPF C fl_RX10_48 hn (fun q hq => by cases hq; rfl) (fun T hT => by cases hT; exact ⟨_, rfl, rfl⟩) rfl s39 (Nat.succ_ne_zero _) dX10_init_110 (fun P40 eP40 => ?_)
  replace h := h P40 eP40
  refine q_aload_n C dX10_init_113 rfl ?_
  refine q_sipush (v := 1024) C dX10_init_114 (by decide) ?_
  refine q_newI (N := 1024) C (by decide) (by decide) (by decide) ⟨Nat.le_of_ble_eq_true rfl, Nat.le_of_ble_eq_true rfl⟩ dX10_init_117 ?_
  refine nm_sh (fun sh41 esh41 => ?_)
  replace h := h sh41 esh41
  have s42 := h.1
  replace h := h.2
  refine q_putPF C fl_RX10_51 hn (fun q hq => by cases hq; rfl) (fun T hT => by cases hT; exact ⟨_, rfl, rfl⟩) rfl s42 (Nat.succ_ne_zero _) dX10_init_119 (fun P43 eP43 => ?_)
  replace h := h P43 eP43
  refine q_aload_n C dX10_init_122 rfl ?_
  refine q_bipush (v := 10) C dX10_init_123 (by decide) ?_
  refine q_newI (N := 10) C (by decide) (by decide) (by decide) ⟨Nat.le_of_ble_eq_true rfl, Nat.le_of_ble_eq_true rfl⟩ dX10_init_125 ?_
  refine nm_sh (fun sh44 esh44 => ?_)
  replace h := h sh44 esh44
  have s45 := h.1
  replace h := h.2
  refine q_putPF C fl_RX10_54 hn (fun q hq => by cases hq; rfl) (fun T hT => by cases hT; exact ⟨_, rfl, rfl⟩) rfl s45 (Nat.succ_ne_zero _) dX10_init_127 (fun P46 eP46 => ?_)
  replace h := h P46 eP46
  refine q_aload_n C dX10_init_130 rfl ?_
  refine q_bipush (v := 16) C dX10_init_131 (by decide) ?_
  refine q_newI (N := 16) C (by decide) (by decide) (by decide) ⟨Nat.le_of_ble_eq_true rfl, Nat.le_of_ble_eq_true rfl⟩ dX10_init_133 ?_
  refine nm_sh (fun sh47 esh47 => ?_)
  replace h := h sh47 esh47
  have s48 := h.1
  replace h := h.2
  refine q_putPF C fl_RX10_57 hn (fun q hq => by cases hq; rfl) (fun T hT => by cases hT; exact ⟨_, rfl, rfl⟩) rfl s48 (Nat.succ_ne_zero _) dX10_init_135 (fun P49 eP49 => ?_)
  replace h := h P49 eP49
  refine q_aload_n C dX10_init_138 rfl ?_
  refine q_bipush (v := 84) C dX10_init_139 (by decide) ?_
  refine q_newI (N := 84) C (by decide) (by decide) (by decide) ⟨Nat.le_of_ble_eq_true rfl, Nat.le_of_ble_eq_true rfl⟩ dX10_init_141 ?_
  refine nm_sh (fun sh50 esh50 => ?_)
  replace h := h sh50 esh50
  have s51 := h.1
  replace h := h.2
  refine q_putPF C fl_RX10_60 hn (fun q hq => by cases hq; rfl) (fun T hT => by cases hT; exact ⟨_, rfl, rfl⟩) rfl s51 (Nat.succ_ne_zero _) dX10_init_143 (fun P52 eP52 => ?_)
  replace h := h P52 eP52
  refine q_aload_n C dX10_init_146 rfl ?_
  refine q_getP C fl_RX10_9 rfl s51 dX10_init_147 ?_
  refine q_iconst (v := 1) C dX10_init_150 (by decide) ?_
  refine q_iconst (v := 1) C dX10_init_151 (by decide) ?_
  have s53 := h.1
  replace h := h.2
  have s54 := h.1
  replace h := h.2
  refine q_iast C s53 s54 dX10_init_152 (fun I55 eI55 => ?_)
  replace h := h I55 eI55
  refine q_widen (k := 17) (z := 68714) (by decide) (by decide) ?_
  exact q_vret C hk dX10_init_153 h
theorem sp_X10_init {d : Nat} {sh : List qSh} {K : Option Value → List qSh → qMI → qML → qMP → Prop} {a0 : Nat} {I : qMI} {L : qML} {P : qMP} (h0 : vc_X10_init_0 d sh K a0 I L P) : SqN (d + 1) 17 68714 mX10_init sh [.ref a0] I L P K := by
  refine Sq_of (by decide +kernel) (Nat.le_of_ble_eq_true rfl) (fun X C hk hn => ?_)
  exact rg_X10_init_0 C hk hn h0
