/-! BracketDrawsModel.in(JJJ)Z -/
def vc_X10_in_0 (d : Nat) (sh : List qSh) (K : Option Value → qMI → qML → qMP → Prop) (l0 : Int64) (l2 : Int64) (l4 : Int64) (I : qMI) (L : qML) (P : qMP) : Prop :=
  ((l0 < l2) → (K (some (.int 0)) I L P)) ∧ ((¬ l0 < l2) → (((l4 < l0) → (K (some (.int 0)) I L P)) ∧ ((¬ l4 < l0) → (K (some (.int 1)) I L P))))
set_option maxRecDepth 100000 in
set_option maxHeartbeats 4000000 in
theorem rg_X10_in_0 {X : qCT} {d : Nat} {sh : List qSh} {K : Option Value → qMI → qML → qMP → Prop} {l0 : Int64} {l2 : Int64} {l4 : Int64} {I : qMI} {L : qML} {P : qMP} (C : qCB X RX10 cX10_in 6 (d + 1) 0 0) (hk : qCK X (some .boolean) 0 0 (fun v sh' I' L' P' => sh' = sh ∧ K v I' L' P')) (h : vc_X10_in_0 d sh K l0 l2 l4 I L P) : qG X 0 [some (.long l0), none, some (.long l2), none, some (.long l4), none] [] sh I L P 0 0 := by
  unfold vc_X10_in_0 at h
  refine q_lload_n C dX10_in_0 rfl ?_
  refine q_lload_n C dX10_in_1 rfl ?_
  refine q_lcmp_lt (tgt := 17) C dX10_in_2 dX10_in_3 (by decide) (fun c1 => ?_) (fun c1 => ?_)
  · replace h := h.1 c1
    refine q_iconst (v := 0) C dX10_in_17 (by decide) ?_
    exact q_zret C hk (Or.inl rfl) dX10_in_18 ⟨rfl, h⟩
  · replace h := h.2 c1
    refine q_lload_n C dX10_in_6 rfl ?_
    refine q_lload C dX10_in_7 rfl ?_
    refine q_lcmp_gt (tgt := 17) C dX10_in_9 dX10_in_10 (by decide) (fun c2 => ?_) (fun c2 => ?_)
    · replace h := h.1 c2
      refine q_iconst (v := 0) C dX10_in_17 (by decide) ?_
      exact q_zret C hk (Or.inl rfl) dX10_in_18 ⟨rfl, h⟩
    · replace h := h.2 c2
      refine q_iconst (v := 1) C dX10_in_13 (by decide) ?_
      refine q_goto (tgt := 18) C dX10_in_14 (by decide) ?_
      exact q_zret C hk (Or.inr rfl) dX10_in_18 ⟨rfl, h⟩
theorem sp_X10_in {d : Nat} {sh : List qSh} {K : Option Value → qMI → qML → qMP → Prop} {l0 : Int64} {l2 : Int64} {l4 : Int64} {I : qMI} {L : qML} {P : qMP} (h0 : vc_X10_in_0 d sh K l0 l2 l4 I L P) : Sq (d + 1) mX10_in sh [.long l0, .long l2, .long l4] I L P K := by
  refine Sq_of (by decide +kernel) (Nat.le_of_ble_eq_true rfl) (fun X C hk hn => ?_)
  exact rg_X10_in_0 C hk h0
/-! BracketDrawsModel.isPlayer(I)Z -/
def vc_X10_isPlayer_0 (d : Nat) (sh : List qSh) (K : Option Value → qMI → qML → qMP → Prop) (a0 : Nat) (x1 : Int32) (I : qMI) (L : qML) (P : qMP) : Prop :=
  ((shp sh a0).1 = 10) ∧ (((shp sh (P a0 0)).1 = 20) ∧ ((vp_in 0 (shp sh (P a0 0)).2) ∧ (Sq d mX10_in sh [.long (Int32.toInt64 x1), .long 0, .long (Int32.toInt64 ((I (P a0 0) (Int32.toNatClampNeg 0)) - 1))] I L P (KI fun r4 I5 L6 P7 => (r4 = 0 ∨ r4 = 1) ∧ (K (some (.int r4)) I5 L6 P7)))))
set_option maxRecDepth 100000 in
set_option maxHeartbeats 4000000 in
theorem rg_X10_isPlayer_0 {X : qCT} {d : Nat} {sh : List qSh} {K : Option Value → qMI → qML → qMP → Prop} {a0 : Nat} {x1 : Int32} {I : qMI} {L : qML} {P : qMP} (C : qCB X RX10 cX10_isPlayer 2 (d + 1) 0 0) (hk : qCK X (some .boolean) 0 0 (fun v sh' I' L' P' => sh' = sh ∧ K v I' L' P')) (h : vc_X10_isPlayer_0 d sh K a0 x1 I L P) : qG X 0 [some (.ref a0), some (.int x1)] [] sh I L P 0 0 := by
  unfold vc_X10_isPlayer_0 at h
  refine q_iload_n C dX10_isPlayer_0 rfl ?_
  refine q_i2l C dX10_isPlayer_1 ?_
  refine q_lconst (v := 0) C dX10_isPlayer_2 (by decide) ?_
  refine q_aload_n C dX10_isPlayer_3 rfl ?_
  have s1 := h.1
  replace h := h.2
  refine q_getP C fl_RX10_9 rfl s1 dX10_isPlayer_4 ?_
  refine q_iconst (v := 0) C dX10_isPlayer_7 (by decide) ?_
  have s2 := h.1
  replace h := h.2
  have s3 := h.1
  replace h := h.2
  refine q_iald C s2 s3 dX10_isPlayer_8 ?_
  refine q_iconst (v := 1) C dX10_isPlayer_9 (by decide) ?_
  refine q_isub C dX10_isPlayer_10 ?_
  refine q_i2l C dX10_isPlayer_11 ?_
  refine q_cSi (as := [.long (Int32.toInt64 x1), .long 0, .long (Int32.toInt64 ((I (P a0 0) (Int32.toNatClampNeg 0)) - 1))]) (st := []) C ms_X10_in ml_RX10_63 dX10_isPlayer_12 rfl rfl (Nat.le_of_ble_eq_true rfl) ⟨Nat.le_refl _, Nat.le_refl _⟩ h (fun r4 I5 L6 P7 h => ?_)
  have s8 := h.1
  replace h := h.2
  exact q_zret C hk s8 dX10_isPlayer_15 ⟨rfl, h⟩
theorem sp_X10_isPlayer {d : Nat} {sh : List qSh} {K : Option Value → qMI → qML → qMP → Prop} {a0 : Nat} {x1 : Int32} {I : qMI} {L : qML} {P : qMP} (h0 : vc_X10_isPlayer_0 d sh K a0 x1 I L P) : Sq (d + 1) mX10_isPlayer sh [.ref a0, .int x1] I L P K := by
  refine Sq_of (by decide +kernel) (Nat.le_of_ble_eq_true rfl) (fun X C hk hn => ?_)
  exact rg_X10_isPlayer_0 C hk h0
/-! BracketDrawsModel.areFew()Z -/
def vc_X10_areFew_0 (d : Nat) (sh : List qSh) (K : Option Value → qMI → qML → qMP → Prop) (a0 : Nat) (I : qMI) (L : qML) (P : qMP) : Prop :=
  ((shp sh a0).1 = 10) ∧ (((shp sh (P a0 0)).1 = 20) ∧ ((vp_in 0 (shp sh (P a0 0)).2) ∧ (((2 ≤ (I (P a0 0) (Int32.toNatClampNeg 0))) → (K (some (.int 0)) I L P)) ∧ ((¬ 2 ≤ (I (P a0 0) (Int32.toNatClampNeg 0))) → (K (some (.int 1)) I L P)))))
set_option maxRecDepth 100000 in
set_option maxHeartbeats 4000000 in
theorem rg_X10_areFew_0 {X : qCT} {d : Nat} {sh : List qSh} {K : Option Value → qMI → qML → qMP → Prop} {a0 : Nat} {I : qMI} {L : qML} {P : qMP} (C : qCB X RX10 cX10_areFew 1 (d + 1) 0 0) (hk : qCK X (some .boolean) 0 0 (fun v sh' I' L' P' => sh' = sh ∧ K v I' L' P')) (h : vc_X10_areFew_0 d sh K a0 I L P) : qG X 0 [some (.ref a0)] [] sh I L P 0 0 := by
  unfold vc_X10_areFew_0 at h
  refine q_aload_n C dX10_areFew_0 rfl ?_
  have s1 := h.1
  replace h := h.2
  refine q_getP C fl_RX10_9 rfl s1 dX10_areFew_1 ?_
  refine q_iconst (v := 0) C dX10_areFew_4 (by decide) ?_
  have s2 := h.1
  replace h := h.2
  have s3 := h.1
  replace h := h.2
  refine q_iald C s2 s3 dX10_areFew_5 ?_
  refine q_iconst (v := 2) C dX10_areFew_6 (by decide) ?_
  refine q_icmp_ge (tgt := 14) C dX10_areFew_7 (by decide) (fun c4 => ?_) (fun c4 => ?_)
  · replace h := h.1 c4
    refine q_iconst (v := 0) C dX10_areFew_14 (by decide) ?_
    exact q_zret C hk (Or.inl rfl) dX10_areFew_15 ⟨rfl, h⟩
  · replace h := h.2 c4
    refine q_iconst (v := 1) C dX10_areFew_10 (by decide) ?_
    refine q_goto (tgt := 15) C dX10_areFew_11 (by decide) ?_
    exact q_zret C hk (Or.inr rfl) dX10_areFew_15 ⟨rfl, h⟩
theorem sp_X10_areFew {d : Nat} {sh : List qSh} {K : Option Value → qMI → qML → qMP → Prop} {a0 : Nat} {I : qMI} {L : qML} {P : qMP} (h0 : vc_X10_areFew_0 d sh K a0 I L P) : Sq (d + 1) mX10_areFew sh [.ref a0] I L P K := by
  refine Sq_of (by decide +kernel) (Nat.le_of_ble_eq_true rfl) (fun X C hk hn => ?_)
  exact rg_X10_areFew_0 C hk h0
/-! BracketDrawsModel.slots()I -/
def vc_X10_slots_0 (d : Nat) (sh : List qSh) (K : Option Value → qMI → qML → qMP → Prop) (T1 : Int32 → qMI → qML → qMP → Prop) (a0 : Nat) (I : qMI) (L : qML) (P : qMP) : Prop :=
  T1 2 I L P
set_option maxRecDepth 100000 in
set_option maxHeartbeats 4000000 in
theorem rg_X10_slots_0 {X : qCT} {d : Nat} {sh : List qSh} {K : Option Value → qMI → qML → qMP → Prop} {T1 : Int32 → qMI → qML → qMP → Prop} {a0 : Nat} {I : qMI} {L : qML} {P : qMP} (C : qCB X RX10 cX10_slots 2 (d + 1) 0 0) (hk : qCK X (some .int) 0 0 (fun v sh' I' L' P' => sh' = sh ∧ K v I' L' P')) (hT1 : ∀ (x1 : Int32) (I : qMI) (L : qML) (P : qMP), T1 x1 I L P → qG X 2 [some (.ref a0), some (.int x1)] [] sh I L P 0 0) (h : vc_X10_slots_0 d sh K T1 a0 I L P) : qG X 0 [some (.ref a0), none] [] sh I L P 0 0 := by
  unfold vc_X10_slots_0 at h
  refine q_iconst (v := 2) C dX10_slots_0 (by decide) ?_
  refine q_istore_n (lo1 := [some (.ref a0), some (.int 2)]) C dX10_slots_1 (by decide) rfl ?_
  exact hT1 _ _ _ _ h
def vc_X10_slots_1 (d : Nat) (sh : List qSh) (K : Option Value → qMI → qML → qMP → Prop) (T1 : Int32 → qMI → qML → qMP → Prop) (a0 : Nat) (x1 : Int32) (I : qMI) (L : qML) (P : qMP) : Prop :=
  ((shp sh a0).1 = 10) ∧ (((shp sh (P a0 0)).1 = 20) ∧ ((vp_in 0 (shp sh (P a0 0)).2) ∧ ((((I (P a0 0) (Int32.toNatClampNeg 0)) ≤ x1) → (K (some (.int x1)) I L P)) ∧ ((¬ (I (P a0 0) (Int32.toNatClampNeg 0)) ≤ x1) → (T1 (x1 * 2) I L P)))))
set_option maxRecDepth 100000 in
set_option maxHeartbeats 4000000 in
theorem rg_X10_slots_1 {X : qCT} {d : Nat} {sh : List qSh} {K : Option Value → qMI → qML → qMP → Prop} {T1 : Int32 → qMI → qML → qMP → Prop} {a0 : Nat} {x1 : Int32} {I : qMI} {L : qML} {P : qMP} (C : qCB X RX10 cX10_slots 2 (d + 1) 0 0) (hk : qCK X (some .int) 0 0 (fun v sh' I' L' P' => sh' = sh ∧ K v I' L' P')) (hT1 : ∀ (x1 : Int32) (I : qMI) (L : qML) (P : qMP), T1 x1 I L P → qG X 2 [some (.ref a0), some (.int x1)] [] sh I L P 0 0) (h : vc_X10_slots_1 d sh K T1 a0 x1 I L P) : qG X 2 [some (.ref a0), some (.int x1)] [] sh I L P 0 0 := by
  unfold vc_X10_slots_1 at h
  refine q_iload_n C dX10_slots_2 rfl ?_
  refine q_aload_n C dX10_slots_3 rfl ?_
  have s1 := h.1
  replace h := h.2
  refine q_getP C fl_RX10_9 rfl s1 dX10_slots_4 ?_
  refine q_iconst (v := 0) C dX10_slots_7 (by decide) ?_
  have s2 := h.1
  replace h := h.2
  have s3 := h.1
  replace h := h.2
  refine q_iald C s2 s3 dX10_slots_8 ?_
  refine q_icmp_ge (tgt := 19) C dX10_slots_9 (by decide) (fun c4 => ?_) (fun c4 => ?_)
  · replace h := h.1 c4
    refine q_iload_n C dX10_slots_19 rfl ?_
    exact q_iret C hk dX10_slots_20 ⟨rfl, h⟩
  · replace h := h.2 c4
    refine q_iload_n C dX10_slots_12 rfl ?_
    refine q_iconst (v := 2) C dX10_slots_13 (by decide) ?_
    refine q_imul C dX10_slots_14 ?_
    refine q_istore_n (lo1 := [some (.ref a0), some (.int (x1 * 2))]) C dX10_slots_15 (by decide) rfl ?_
    refine q_goto (tgt := 2) C dX10_slots_16 (by decide) ?_
    exact hT1 _ _ _ _ h
theorem sp_X10_slots {d : Nat} {sh : List qSh} {K : Option Value → qMI → qML → qMP → Prop} {a0 : Nat} {I : qMI} {L : qML} {P : qMP} (T1 : Int32 → qMI → qML → qMP → Prop) (m1 : Int32 → qMI → qML → qMP → Nat) (h0 : vc_X10_slots_0 d sh K T1 a0 I L P)
    (h1 : ∀ (x1 : Int32) (I : qMI) (L : qML) (P : qMP), T1 x1 I L P → vc_X10_slots_1 d sh K (fun w0 I' L' P' => T1 w0 I' L' P' ∧ m1 w0 I' L' P' < m1 x1 I L P) a0 x1 I L P) : Sq (d + 1) mX10_slots sh [.ref a0] I L P K := by
  refine Sq_of (by decide +kernel) (Nat.le_of_ble_eq_true rfl) (fun X C hk hn => ?_)
  have go : ∀ N : Nat, (∀ (x1 : Int32) (I : qMI) (L : qML) (P : qMP), T1 x1 I L P → m1 x1 I L P < N → qG X 2 [some (.ref a0), some (.int x1)] [] sh I L P 0 0) := by
    intro N
    induction N with
    | zero => exact fun _ _ _ _ _ q => absurd q (Nat.not_lt_zero _)
    | succ N ih =>
      exact fun b0 I1 L1 P1 t q => rg_X10_slots_1 C hk (fun z0 I2 L2 P2 z => ih z0 I2 L2 P2 z.1 (Nat.lt_of_lt_of_le z.2 (Nat.le_of_lt_succ q))) (h1 b0 I1 L1 P1 t)
  exact rg_X10_slots_0 C hk (fun b0 I1 L1 P1 t => (go (m1 b0 I1 L1 P1 + 1)) b0 I1 L1 P1 t (Nat.lt_succ_self _)) h0
/-! BracketDrawsModel.lastRound()I -/
def vc_X10_lastRound_0 (d : Nat) (sh : List qSh) (K : Option Value → qMI → qML → qMP → Prop) (T1 : Int32 → qMI → qML → qMP → Prop) (a0 : Nat) (I : qMI) (L : qML) (P : qMP) : Prop :=
  T1 1 I L P
set_option maxRecDepth 100000 in
set_option maxHeartbeats 4000000 in
theorem rg_X10_lastRound_0 {X : qCT} {d : Nat} {sh : List qSh} {K : Option Value → qMI → qML → qMP → Prop} {T1 : Int32 → qMI → qML → qMP → Prop} {a0 : Nat} {I : qMI} {L : qML} {P : qMP} (C : qCB X RX10 cX10_lastRound 2 (d + 1) 0 0) (hk : qCK X (some .int) 0 0 (fun v sh' I' L' P' => sh' = sh ∧ K v I' L' P')) (hT1 : ∀ (x1 : Int32) (I : qMI) (L : qML) (P : qMP), T1 x1 I L P → qG X 2 [some (.ref a0), some (.int x1)] [] sh I L P 0 0) (h : vc_X10_lastRound_0 d sh K T1 a0 I L P) : qG X 0 [some (.ref a0), none] [] sh I L P 0 0 := by
  unfold vc_X10_lastRound_0 at h
  refine q_iconst (v := 1) C dX10_lastRound_0 (by decide) ?_
  refine q_istore_n (lo1 := [some (.ref a0), some (.int 1)]) C dX10_lastRound_1 (by decide) rfl ?_
  exact hT1 _ _ _ _ h
def vc_X10_lastRound_1 (d : Nat) (sh : List qSh) (K : Option Value → qMI → qML → qMP → Prop) (T1 : Int32 → qMI → qML → qMP → Prop) (a0 : Nat) (x1 : Int32) (I : qMI) (L : qML) (P : qMP) : Prop :=
  ((shp sh a0).1 = 10) ∧ (((shp sh (P a0 0)).1 = 20) ∧ ((vp_in 0 (shp sh (P a0 0)).2) ∧ ((((I (P a0 0) (Int32.toNatClampNeg 0)) ≤ ((1 : Int32) <<< (x1 &&& 31))) → (K (some (.int x1)) I L P)) ∧ ((¬ (I (P a0 0) (Int32.toNatClampNeg 0)) ≤ ((1 : Int32) <<< (x1 &&& 31))) → (T1 (x1 + 1) I L P)))))
set_option maxRecDepth 100000 in
set_option maxHeartbeats 4000000 in
theorem rg_X10_lastRound_1 {X : qCT} {d : Nat} {sh : List qSh} {K : Option Value → qMI → qML → qMP → Prop} {T1 : Int32 → qMI → qML → qMP → Prop} {a0 : Nat} {x1 : Int32} {I : qMI} {L : qML} {P : qMP} (C : qCB X RX10 cX10_lastRound 2 (d + 1) 0 0) (hk : qCK X (some .int) 0 0 (fun v sh' I' L' P' => sh' = sh ∧ K v I' L' P')) (hT1 : ∀ (x1 : Int32) (I : qMI) (L : qML) (P : qMP), T1 x1 I L P → qG X 2 [some (.ref a0), some (.int x1)] [] sh I L P 0 0) (h : vc_X10_lastRound_1 d sh K T1 a0 x1 I L P) : qG X 2 [some (.ref a0), some (.int x1)] [] sh I L P 0 0 := by
  unfold vc_X10_lastRound_1 at h
  refine q_iconst (v := 1) C dX10_lastRound_2 (by decide) ?_
  refine q_iload_n C dX10_lastRound_3 rfl ?_
  refine q_ishl C dX10_lastRound_4 ?_
  refine q_aload_n C dX10_lastRound_5 rfl ?_
  have s1 := h.1
  replace h := h.2
  refine q_getP C fl_RX10_9 rfl s1 dX10_lastRound_6 ?_
  refine q_iconst (v := 0) C dX10_lastRound_9 (by decide) ?_
  have s2 := h.1
  replace h := h.2
  have s3 := h.1
  replace h := h.2
  refine q_iald C s2 s3 dX10_lastRound_10 ?_
  refine q_icmp_ge (tgt := 20) C dX10_lastRound_11 (by decide) (fun c4 => ?_) (fun c4 => ?_)
  · replace h := h.1 c4
    refine q_iload_n C dX10_lastRound_20 rfl ?_
    exact q_iret C hk dX10_lastRound_21 ⟨rfl, h⟩
  · replace h := h.2 c4
    refine q_iinc (w := 1) (lo1 := [some (.ref a0), some (.int (x1 + 1))]) C dX10_lastRound_14 rfl (by decide) (by decide) rfl ?_
    refine q_goto (tgt := 2) C dX10_lastRound_17 (by decide) ?_
    exact hT1 _ _ _ _ h
theorem sp_X10_lastRound {d : Nat} {sh : List qSh} {K : Option Value → qMI → qML → qMP → Prop} {a0 : Nat} {I : qMI} {L : qML} {P : qMP} (T1 : Int32 → qMI → qML → qMP → Prop) (m1 : Int32 → qMI → qML → qMP → Nat) (h0 : vc_X10_lastRound_0 d sh K T1 a0 I L P)
    (h1 : ∀ (x1 : Int32) (I : qMI) (L : qML) (P : qMP), T1 x1 I L P → vc_X10_lastRound_1 d sh K (fun w0 I' L' P' => T1 w0 I' L' P' ∧ m1 w0 I' L' P' < m1 x1 I L P) a0 x1 I L P) : Sq (d + 1) mX10_lastRound sh [.ref a0] I L P K := by
  refine Sq_of (by decide +kernel) (Nat.le_of_ble_eq_true rfl) (fun X C hk hn => ?_)
  have go : ∀ N : Nat, (∀ (x1 : Int32) (I : qMI) (L : qML) (P : qMP), T1 x1 I L P → m1 x1 I L P < N → qG X 2 [some (.ref a0), some (.int x1)] [] sh I L P 0 0) := by
    intro N
    induction N with
    | zero => exact fun _ _ _ _ _ q => absurd q (Nat.not_lt_zero _)
    | succ N ih =>
      exact fun b0 I1 L1 P1 t q => rg_X10_lastRound_1 C hk (fun z0 I2 L2 P2 z => ih z0 I2 L2 P2 z.1 (Nat.lt_of_lt_of_le z.2 (Nat.le_of_lt_succ q))) (h1 b0 I1 L1 P1 t)
  exact rg_X10_lastRound_0 C hk (fun b0 I1 L1 P1 t => (go (m1 b0 I1 L1 P1 + 1)) b0 I1 L1 P1 t (Nat.lt_succ_self _)) h0
/-! BracketDrawsModel.isSlot(I)Z -/
def vc_X10_isSlot_0 (d : Nat) (sh : List qSh) (K : Option Value → qMI → qML → qMP → Prop) (a0 : Nat) (x1 : Int32) (I : qMI) (L : qML) (P : qMP) : Prop :=
  ((shp sh a0).1 = 10) ∧ (Sq d mX10_slots sh [.ref a0] I L P (KI fun r2 I3 L4 P5 => Sq d mX10_in sh [.long (Int32.toInt64 x1), .long 0, .long (Int32.toInt64 (r2 - 1))] I3 L4 P5 (KI fun r6 I7 L8 P9 => (r6 = 0 ∨ r6 = 1) ∧ (K (some (.int r6)) I7 L8 P9))))
set_option maxRecDepth 100000 in
set_option maxHeartbeats 4000000 in
theorem rg_X10_isSlot_0 {X : qCT} {d : Nat} {sh : List qSh} {K : Option Value → qMI → qML → qMP → Prop} {a0 : Nat} {x1 : Int32} {I : qMI} {L : qML} {P : qMP} (C : qCB X RX10 cX10_isSlot 2 (d + 1) 0 0) (hk : qCK X (some .boolean) 0 0 (fun v sh' I' L' P' => sh' = sh ∧ K v I' L' P')) (h : vc_X10_isSlot_0 d sh K a0 x1 I L P) : qG X 0 [some (.ref a0), some (.int x1)] [] sh I L P 0 0 := by
  unfold vc_X10_isSlot_0 at h
  refine q_iload_n C dX10_isSlot_0 rfl ?_
  refine q_i2l C dX10_isSlot_1 ?_
  refine q_lconst (v := 0) C dX10_isSlot_2 (by decide) ?_
  refine q_aload_n C dX10_isSlot_3 rfl ?_
  have s1 := h.1
  replace h := h.2
  refine q_cVi (as := []) (st := [.long 0, .long (Int32.toInt64 x1)]) (r := a0) C mv_X10_slots ml_RX10_67 dX10_isSlot_4 rfl s1 rfl (Nat.le_of_ble_eq_true rfl) ⟨Nat.le_refl _, Nat.le_refl _⟩ h (fun r2 I3 L4 P5 h => ?_)
  refine q_iconst (v := 1) C dX10_isSlot_7 (by decide) ?_
  refine q_isub C dX10_isSlot_8 ?_
  refine q_i2l C dX10_isSlot_9 ?_
  refine q_cSi (as := [.long (Int32.toInt64 x1), .long 0, .long (Int32.toInt64 (r2 - 1))]) (st := []) C ms_X10_in ml_RX10_63 dX10_isSlot_10 rfl rfl (Nat.le_of_ble_eq_true rfl) ⟨Nat.le_refl _, Nat.le_refl _⟩ h (fun r6 I7 L8 P9 h => ?_)
  have s10 := h.1
  replace h := h.2
  exact q_zret C hk s10 dX10_isSlot_13 ⟨rfl, h⟩
theorem sp_X10_isSlot {d : Nat} {sh : List qSh} {K : Option Value → qMI → qML → qMP → Prop} {a0 : Nat} {x1 : Int32} {I : qMI} {L : qML} {P : qMP} (h0 : vc_X10_isSlot_0 d sh K a0 x1 I L P) : Sq (d + 1) mX10_isSlot sh [.ref a0, .int x1] I L P K := by
  refine Sq_of (by decide +kernel) (Nat.le_of_ble_eq_true rfl) (fun X C hk hn => ?_)
  exact rg_X10_isSlot_0 C hk h0
/-! BracketDrawsModel.isRound(I)Z -/
def vc_X10_isRound_0 (d : Nat) (sh : List qSh) (K : Option Value → qMI → qML → qMP → Prop) (a0 : Nat) (x1 : Int32) (I : qMI) (L : qML) (P : qMP) : Prop :=
  ((shp sh a0).1 = 10) ∧ (Sq d mX10_lastRound sh [.ref a0] I L P (KI fun r2 I3 L4 P5 => Sq d mX10_in sh [.long (Int32.toInt64 x1), .long 1, .long (Int32.toInt64 r2)] I3 L4 P5 (KI fun r6 I7 L8 P9 => (r6 = 0 ∨ r6 = 1) ∧ (K (some (.int r6)) I7 L8 P9))))
set_option maxRecDepth 100000 in
set_option maxHeartbeats 4000000 in
theorem rg_X10_isRound_0 {X : qCT} {d : Nat} {sh : List qSh} {K : Option Value → qMI → qML → qMP → Prop} {a0 : Nat} {x1 : Int32} {I : qMI} {L : qML} {P : qMP} (C : qCB X RX10 cX10_isRound 2 (d + 1) 0 0) (hk : qCK X (some .boolean) 0 0 (fun v sh' I' L' P' => sh' = sh ∧ K v I' L' P')) (h : vc_X10_isRound_0 d sh K a0 x1 I L P) : qG X 0 [some (.ref a0), some (.int x1)] [] sh I L P 0 0 := by
  unfold vc_X10_isRound_0 at h
  refine q_iload_n C dX10_isRound_0 rfl ?_
  refine q_i2l C dX10_isRound_1 ?_
  refine q_lconst (v := 1) C dX10_isRound_2 (by decide) ?_
  refine q_aload_n C dX10_isRound_3 rfl ?_
  have s1 := h.1
  replace h := h.2
  refine q_cVi (as := []) (st := [.long 1, .long (Int32.toInt64 x1)]) (r := a0) C mv_X10_lastRound ml_RX10_71 dX10_isRound_4 rfl s1 rfl (Nat.le_of_ble_eq_true rfl) ⟨Nat.le_refl _, Nat.le_refl _⟩ h (fun r2 I3 L4 P5 h => ?_)
  refine q_i2l C dX10_isRound_7 ?_
  refine q_cSi (as := [.long (Int32.toInt64 x1), .long 1, .long (Int32.toInt64 r2)]) (st := []) C ms_X10_in ml_RX10_63 dX10_isRound_8 rfl rfl (Nat.le_of_ble_eq_true rfl) ⟨Nat.le_refl _, Nat.le_refl _⟩ h (fun r6 I7 L8 P9 h => ?_)
  have s10 := h.1
  replace h := h.2
  exact q_zret C hk s10 dX10_isRound_11 ⟨rfl, h⟩
theorem sp_X10_isRound {d : Nat} {sh : List qSh} {K : Option Value → qMI → qML → qMP → Prop} {a0 : Nat} {x1 : Int32} {I : qMI} {L : qML} {P : qMP} (h0 : vc_X10_isRound_0 d sh K a0 x1 I L P) : Sq (d + 1) mX10_isRound sh [.ref a0, .int x1] I L P K := by
  refine Sq_of (by decide +kernel) (Nat.le_of_ble_eq_true rfl) (fun X C hk hn => ?_)
  exact rg_X10_isRound_0 C hk h0
/-! BracketDrawsModel.byes()I -/
def vc_X10_byes_0 (d : Nat) (sh : List qSh) (K : Option Value → qMI → qML → qMP → Prop) (a0 : Nat) (I : qMI) (L : qML) (P : qMP) : Prop :=
  ((shp sh a0).1 = 10) ∧ (Sq d mX10_slots sh [.ref a0] I L P (KI fun r2 I3 L4 P5 => ((shp sh (P5 a0 0)).1 = 20) ∧ ((vp_in 0 (shp sh (P5 a0 0)).2) ∧ (K (some (.int (r2 - (I3 (P5 a0 0) (Int32.toNatClampNeg 0))))) I3 L4 P5))))
set_option maxRecDepth 100000 in
set_option maxHeartbeats 4000000 in
theorem rg_X10_byes_0 {X : qCT} {d : Nat} {sh : List qSh} {K : Option Value → qMI → qML → qMP → Prop} {a0 : Nat} {I : qMI} {L : qML} {P : qMP} (C : qCB X RX10 cX10_byes 1 (d + 1) 0 0) (hk : qCK X (some .int) 0 0 (fun v sh' I' L' P' => sh' = sh ∧ K v I' L' P')) (h : vc_X10_byes_0 d sh K a0 I L P) : qG X 0 [some (.ref a0)] [] sh I L P 0 0 := by
  unfold vc_X10_byes_0 at h
  refine q_aload_n C dX10_byes_0 rfl ?_
  have s1 := h.1
  replace h := h.2
  refine q_cVi (as := []) (st := []) (r := a0) C mv_X10_slots ml_RX10_67 dX10_byes_1 rfl s1 rfl (Nat.le_of_ble_eq_true rfl) ⟨Nat.le_refl _, Nat.le_refl _⟩ h (fun r2 I3 L4 P5 h => ?_)
  refine q_aload_n C dX10_byes_4 rfl ?_
  refine q_getP C fl_RX10_9 rfl s1 dX10_byes_5 ?_
  refine q_iconst (v := 0) C dX10_byes_8 (by decide) ?_
  have s6 := h.1
  replace h := h.2
  have s7 := h.1
  replace h := h.2
  refine q_iald C s6 s7 dX10_byes_9 ?_
  refine q_isub C dX10_byes_10 ?_
  exact q_iret C hk dX10_byes_11 ⟨rfl, h⟩
theorem sp_X10_byes {d : Nat} {sh : List qSh} {K : Option Value → qMI → qML → qMP → Prop} {a0 : Nat} {I : qMI} {L : qML} {P : qMP} (h0 : vc_X10_byes_0 d sh K a0 I L P) : Sq (d + 1) mX10_byes sh [.ref a0] I L P K := by
  refine Sq_of (by decide +kernel) (Nat.le_of_ble_eq_true rfl) (fun X C hk hn => ?_)
  exact rg_X10_byes_0 C hk h0
/-! BracketDrawsModel.copies([II[II)V -/
def vc_X10_copies_0 (d : Nat) (sh : List qSh) (K : Option Value → qMI → qML → qMP → Prop) (T1 : Int32 → qMI → qML → qMP → Prop) (a0 : Nat) (x1 : Int32) (a2 : Nat) (x3 : Int32) (I : qMI) (L : qML) (P : qMP) : Prop :=
  T1 0 I L P
set_option maxRecDepth 100000 in
set_option maxHeartbeats 4000000 in
theorem rg_X10_copies_0 {X : qCT} {d : Nat} {sh : List qSh} {K : Option Value → qMI → qML → qMP → Prop} {T1 : Int32 → qMI → qML → qMP → Prop} {a0 : Nat} {x1 : Int32} {a2 : Nat} {x3 : Int32} {I : qMI} {L : qML} {P : qMP} (C : qCB X RX10 cX10_copies 5 (d + 1) 0 0) (hk : qCK X (none) 0 0 (fun v sh' I' L' P' => sh' = sh ∧ K v I' L' P')) (hT1 : ∀ (x4 : Int32) (I : qMI) (L : qML) (P : qMP), T1 x4 I L P → qG X 3 [some (.ref a0), some (.int x1), some (.ref a2), some (.int x3), some (.int x4)] [] sh I L P 0 0) (h : vc_X10_copies_0 d sh K T1 a0 x1 a2 x3 I L P) : qG X 0 [some (.ref a0), some (.int x1), some (.ref a2), some (.int x3), none] [] sh I L P 0 0 := by
  unfold vc_X10_copies_0 at h
  refine q_iconst (v := 0) C dX10_copies_0 (by decide) ?_
  refine q_istore (lo1 := [some (.ref a0), some (.int x1), some (.ref a2), some (.int x3), some (.int 0)]) C dX10_copies_1 (by decide) rfl ?_
  exact hT1 _ _ _ _ h
def vc_X10_copies_1 (d : Nat) (sh : List qSh) (K : Option Value → qMI → qML → qMP → Prop) (T1 : Int32 → qMI → qML → qMP → Prop) (a0 : Nat) (x1 : Int32) (a2 : Nat) (x3 : Int32) (x4 : Int32) (I : qMI) (L : qML) (P : qMP) : Prop :=
  ((84 ≤ x4) → (K none I L P)) ∧ ((¬ 84 ≤ x4) → (((shp sh a0).1 = 20) ∧ ((vp_in (x1 + x4) (shp sh a0).2) ∧ (((shp sh a2).1 = 20) ∧ ((vp_in (x3 + x4) (shp sh a2).2) ∧ (∀ I6 : qMI, I6 = uI I a2 (Int32.toNatClampNeg (x3 + x4)) (I a0 (Int32.toNatClampNeg (x1 + x4))) → (T1 (x4 + 1) I6 L P)))))))
set_option maxRecDepth 100000 in
set_option maxHeartbeats 4000000 in
theorem rg_X10_copies_1 {X : qCT} {d : Nat} {sh : List qSh} {K : Option Value → qMI → qML → qMP → Prop} {T1 : Int32 → qMI → qML → qMP → Prop} {a0 : Nat} {x1 : Int32} {a2 : Nat} {x3 : Int32} {x4 : Int32} {I : qMI} {L : qML} {P : qMP} (C : qCB X RX10 cX10_copies 5 (d + 1) 0 0) (hk : qCK X (none) 0 0 (fun v sh' I' L' P' => sh' = sh ∧ K v I' L' P')) (hT1 : ∀ (x4 : Int32) (I : qMI) (L : qML) (P : qMP), T1 x4 I L P → qG X 3 [some (.ref a0), some (.int x1), some (.ref a2), some (.int x3), some (.int x4)] [] sh I L P 0 0) (h : vc_X10_copies_1 d sh K T1 a0 x1 a2 x3 x4 I L P) : qG X 3 [some (.ref a0), some (.int x1), some (.ref a2), some (.int x3), some (.int x4)] [] sh I L P 0 0 := by
  unfold vc_X10_copies_1 at h
  refine q_iload C dX10_copies_3 rfl ?_
  refine q_bipush (v := 84) C dX10_copies_5 (by decide) ?_
  refine q_icmp_ge (tgt := 28) C dX10_copies_7 (by decide) (fun c1 => ?_) (fun c1 => ?_)
  · replace h := h.1 c1
    exact q_vret C hk dX10_copies_28 ⟨rfl, h⟩
  · replace h := h.2 c1
    refine q_aload_n C dX10_copies_10 rfl ?_
    refine q_iload_n C dX10_copies_11 rfl ?_
    refine q_iload C dX10_copies_12 rfl ?_
    refine q_iadd C dX10_copies_14 ?_
    refine q_aload_n C dX10_copies_15 rfl ?_
    refine q_iload_n C dX10_copies_16 rfl ?_
    refine q_iload C dX10_copies_17 rfl ?_
    refine q_iadd C dX10_copies_19 ?_
    have s2 := h.1
    replace h := h.2
    have s3 := h.1
    replace h := h.2
    refine q_iald C s2 s3 dX10_copies_20 ?_
    have s4 := h.1
    replace h := h.2
    have s5 := h.1
    replace h := h.2
    refine q_iast C s4 s5 dX10_copies_21 (fun I6 eI6 => ?_)
    replace h := h I6 eI6
    refine q_iinc (w := 1) (lo1 := [some (.ref a0), some (.int x1), some (.ref a2), some (.int x3), some (.int (x4 + 1))]) C dX10_copies_22 rfl (by decide) (by decide) rfl ?_
    refine q_goto (tgt := 3) C dX10_copies_25 (by decide) ?_
    exact hT1 _ _ _ _ h
theorem sp_X10_copies {d : Nat} {sh : List qSh} {K : Option Value → qMI → qML → qMP → Prop} {a0 : Nat} {x1 : Int32} {a2 : Nat} {x3 : Int32} {I : qMI} {L : qML} {P : qMP} (T1 : Int32 → qMI → qML → qMP → Prop) (m1 : Int32 → qMI → qML → qMP → Nat) (h0 : vc_X10_copies_0 d sh K T1 a0 x1 a2 x3 I L P)
    (h1 : ∀ (x4 : Int32) (I : qMI) (L : qML) (P : qMP), T1 x4 I L P → vc_X10_copies_1 d sh K (fun w0 I' L' P' => T1 w0 I' L' P' ∧ m1 w0 I' L' P' < m1 x4 I L P) a0 x1 a2 x3 x4 I L P) : Sq (d + 1) mX10_copies sh [.ref a0, .int x1, .ref a2, .int x3] I L P K := by
  refine Sq_of (by decide +kernel) (Nat.le_of_ble_eq_true rfl) (fun X C hk hn => ?_)
  have go : ∀ N : Nat, (∀ (x4 : Int32) (I : qMI) (L : qML) (P : qMP), T1 x4 I L P → m1 x4 I L P < N → qG X 3 [some (.ref a0), some (.int x1), some (.ref a2), some (.int x3), some (.int x4)] [] sh I L P 0 0) := by
    intro N
    induction N with
    | zero => exact fun _ _ _ _ _ q => absurd q (Nat.not_lt_zero _)
    | succ N ih =>
      exact fun b0 I1 L1 P1 t q => rg_X10_copies_1 C hk (fun z0 I2 L2 P2 z => ih z0 I2 L2 P2 z.1 (Nat.lt_of_lt_of_le z.2 (Nat.le_of_lt_succ q))) (h1 b0 I1 L1 P1 t)
  exact rg_X10_copies_0 C hk (fun b0 I1 L1 P1 t => (go (m1 b0 I1 L1 P1 + 1)) b0 I1 L1 P1 t (Nat.lt_succ_self _)) h0
/-! BracketDrawsModel.clears()V -/
def vc_X10_clears_0 (d : Nat) (sh : List qSh) (K : Option Value → qMI → qML → qMP → Prop) (T1 : Int32 → qMI → qML → qMP → Prop) (a0 : Nat) (I : qMI) (L : qML) (P : qMP) : Prop :=
  ((shp sh a0).1 = 10) ∧ (((shp sh (P a0 0)).1 = 20) ∧ ((vp_in 3 (shp sh (P a0 0)).2) ∧ (∀ I4 : qMI, I4 = uI I (P a0 0) (Int32.toNatClampNeg 3) 0 → ((vp_in 4 (shp sh (P a0 0)).2) ∧ (∀ I6 : qMI, I6 = uI I4 (P a0 0) (Int32.toNatClampNeg 4) 0 → (T1 45 I6 L P))))))
set_option maxRecDepth 100000 in
set_option maxHeartbeats 4000000 in
theorem rg_X10_clears_0 {X : qCT} {d : Nat} {sh : List qSh} {K : Option Value → qMI → qML → qMP → Prop} {T1 : Int32 → qMI → qML → qMP → Prop} {a0 : Nat} {I : qMI} {L : qML} {P : qMP} (C : qCB X RX10 cX10_clears 2 (d + 1) 0 0) (hk : qCK X (none) 0 0 (fun v sh' I' L' P' => sh' = sh ∧ K v I' L' P')) (hT1 : ∀ (x1 : Int32) (I : qMI) (L : qML) (P : qMP), T1 x1 I L P → qG X 17 [some (.ref a0), some (.int x1)] [] sh I L P 0 0) (h : vc_X10_clears_0 d sh K T1 a0 I L P) : qG X 0 [some (.ref a0), none] [] sh I L P 0 0 := by
  unfold vc_X10_clears_0 at h
  refine q_aload_n C dX10_clears_0 rfl ?_
  have s1 := h.1
  replace h := h.2
  refine q_getP C fl_RX10_9 rfl s1 dX10_clears_1 ?_
  refine q_iconst (v := 3) C dX10_clears_4 (by decide) ?_
  refine q_iconst (v := 0) C dX10_clears_5 (by decide) ?_
  have s2 := h.1
  replace h := h.2
  have s3 := h.1
  replace h := h.2
  refine q_iast C s2 s3 dX10_clears_6 (fun I4 eI4 => ?_)
  replace h := h I4 eI4
  refine q_aload_n C dX10_clears_7 rfl ?_
  refine q_getP C fl_RX10_9 rfl s1 dX10_clears_8 ?_
  refine q_iconst (v := 4) C dX10_clears_11 (by decide) ?_
  refine q_iconst (v := 0) C dX10_clears_12 (by decide) ?_
  have s5 := h.1
  replace h := h.2
  refine q_iast C s2 s5 dX10_clears_13 (fun I6 eI6 => ?_)
  replace h := h I6 eI6
  refine q_bipush (v := 45) C dX10_clears_14 (by decide) ?_
  refine q_istore_n (lo1 := [some (.ref a0), some (.int 45)]) C dX10_clears_16 (by decide) rfl ?_
  exact hT1 _ _ _ _ h
def vc_X10_clears_1 (d : Nat) (sh : List qSh) (K : Option Value → qMI → qML → qMP → Prop) (T1 : Int32 → qMI → qML → qMP → Prop) (a0 : Nat) (x1 : Int32) (I : qMI) (L : qML) (P : qMP) : Prop :=
  ((84 ≤ x1) → (K none I L P)) ∧ ((¬ 84 ≤ x1) → (((shp sh a0).1 = 10) ∧ (((shp sh (P a0 0)).1 = 20) ∧ ((vp_in x1 (shp sh (P a0 0)).2) ∧ (∀ I5 : qMI, I5 = uI I (P a0 0) (Int32.toNatClampNeg x1) 0 → (T1 (x1 + 1) I5 L P))))))
set_option maxRecDepth 100000 in
set_option maxHeartbeats 4000000 in
theorem rg_X10_clears_1 {X : qCT} {d : Nat} {sh : List qSh} {K : Option Value → qMI → qML → qMP → Prop} {T1 : Int32 → qMI → qML → qMP → Prop} {a0 : Nat} {x1 : Int32} {I : qMI} {L : qML} {P : qMP} (C : qCB X RX10 cX10_clears 2 (d + 1) 0 0) (hk : qCK X (none) 0 0 (fun v sh' I' L' P' => sh' = sh ∧ K v I' L' P')) (hT1 : ∀ (x1 : Int32) (I : qMI) (L : qML) (P : qMP), T1 x1 I L P → qG X 17 [some (.ref a0), some (.int x1)] [] sh I L P 0 0) (h : vc_X10_clears_1 d sh K T1 a0 x1 I L P) : qG X 17 [some (.ref a0), some (.int x1)] [] sh I L P 0 0 := by
  unfold vc_X10_clears_1 at h
  refine q_iload_n C dX10_clears_17 rfl ?_
  refine q_bipush (v := 84) C dX10_clears_18 (by decide) ?_
  refine q_icmp_ge (tgt := 36) C dX10_clears_20 (by decide) (fun c1 => ?_) (fun c1 => ?_)
  · replace h := h.1 c1
    exact q_vret C hk dX10_clears_36 ⟨rfl, h⟩
  · replace h := h.2 c1
    refine q_aload_n C dX10_clears_23 rfl ?_
    have s2 := h.1
    replace h := h.2
    refine q_getP C fl_RX10_9 rfl s2 dX10_clears_24 ?_
    refine q_iload_n C dX10_clears_27 rfl ?_
    refine q_iconst (v := 0) C dX10_clears_28 (by decide) ?_
    have s3 := h.1
    replace h := h.2
    have s4 := h.1
    replace h := h.2
    refine q_iast C s3 s4 dX10_clears_29 (fun I5 eI5 => ?_)
    replace h := h I5 eI5
    refine q_iinc (w := 1) (lo1 := [some (.ref a0), some (.int (x1 + 1))]) C dX10_clears_30 rfl (by decide) (by decide) rfl ?_
    refine q_goto (tgt := 17) C dX10_clears_33 (by decide) ?_
    exact hT1 _ _ _ _ h
theorem sp_X10_clears {d : Nat} {sh : List qSh} {K : Option Value → qMI → qML → qMP → Prop} {a0 : Nat} {I : qMI} {L : qML} {P : qMP} (T1 : Int32 → qMI → qML → qMP → Prop) (m1 : Int32 → qMI → qML → qMP → Nat) (h0 : vc_X10_clears_0 d sh K T1 a0 I L P)
    (h1 : ∀ (x1 : Int32) (I : qMI) (L : qML) (P : qMP), T1 x1 I L P → vc_X10_clears_1 d sh K (fun w0 I' L' P' => T1 w0 I' L' P' ∧ m1 w0 I' L' P' < m1 x1 I L P) a0 x1 I L P) : Sq (d + 1) mX10_clears sh [.ref a0] I L P K := by
  refine Sq_of (by decide +kernel) (Nat.le_of_ble_eq_true rfl) (fun X C hk hn => ?_)
  have go : ∀ N : Nat, (∀ (x1 : Int32) (I : qMI) (L : qML) (P : qMP), T1 x1 I L P → m1 x1 I L P < N → qG X 17 [some (.ref a0), some (.int x1)] [] sh I L P 0 0) := by
    intro N
    induction N with
    | zero => exact fun _ _ _ _ _ q => absurd q (Nat.not_lt_zero _)
    | succ N ih =>
      exact fun b0 I1 L1 P1 t q => rg_X10_clears_1 C hk (fun z0 I2 L2 P2 z => ih z0 I2 L2 P2 z.1 (Nat.lt_of_lt_of_le z.2 (Nat.le_of_lt_succ q))) (h1 b0 I1 L1 P1 t)
  exact rg_X10_clears_0 C hk (fun b0 I1 L1 P1 t => (go (m1 b0 I1 L1 P1 + 1)) b0 I1 L1 P1 t (Nat.lt_succ_self _)) h0
/-! BracketDrawsModel.noDraw()V -/
def vc_X10_noDraw_0 (d : Nat) (sh : List qSh) (K : Option Value → qMI → qML → qMP → Prop) (a0 : Nat) (I : qMI) (L : qML) (P : qMP) : Prop :=
  ((shp sh a0).1 = 10) ∧ (Sq d mX10_clears sh [.ref a0] I L P (KV fun I2 L3 P4 => ∀ I5 : qMI, I5 = uI I2 a0 17 0 → (K none I5 L3 P4)))
set_option maxRecDepth 100000 in
set_option maxHeartbeats 4000000 in
theorem rg_X10_noDraw_0 {X : qCT} {d : Nat} {sh : List qSh} {K : Option Value → qMI → qML → qMP → Prop} {a0 : Nat} {I : qMI} {L : qML} {P : qMP} (C : qCB X RX10 cX10_noDraw 1 (d + 1) 0 0) (hk : qCK X (none) 0 0 (fun v sh' I' L' P' => sh' = sh ∧ K v I' L' P')) (h : vc_X10_noDraw_0 d sh K a0 I L P) : qG X 0 [some (.ref a0)] [] sh I L P 0 0 := by
  unfold vc_X10_noDraw_0 at h
  refine q_aload_n C dX10_noDraw_0 rfl ?_
  have s1 := h.1
  replace h := h.2
  refine q_cVv (as := []) (st := []) (r := a0) C mv_X10_clears ml_RX10_74 dX10_noDraw_1 rfl s1 rfl (Nat.le_of_ble_eq_true rfl) ⟨Nat.le_refl _, Nat.le_refl _⟩ h (fun I2 L3 P4 h => ?_)
  refine q_aload_n C dX10_noDraw_4 rfl ?_
  refine q_iconst (v := 0) C dX10_noDraw_5 (by decide) ?_
  refine q_putZ C fl_RX10_77 (fun T hT => by cases hT; rfl) rfl s1 (Or.inl rfl) dX10_noDraw_6 (fun I5 eI5 => ?_)
  replace h := h I5 eI5
  exact q_vret C hk dX10_noDraw_9 ⟨rfl, h⟩
theorem sp_X10_noDraw {d : Nat} {sh : List qSh} {K : Option Value → qMI → qML → qMP → Prop} {a0 : Nat} {I : qMI} {L : qML} {P : qMP} (h0 : vc_X10_noDraw_0 d sh K a0 I L P) : Sq (d + 1) mX10_noDraw sh [.ref a0] I L P K := by
  refine Sq_of (by decide +kernel) (Nat.le_of_ble_eq_true rfl) (fun X C hk hn => ?_)
  exact rg_X10_noDraw_0 C hk h0
/-! BracketDrawsModel.changes()V -/
def vc_X10_changes_0 (d : Nat) (sh : List qSh) (K : Option Value → qMI → qML → qMP → Prop) (T1 : Int32 → qMI → qML → qMP → Prop) (a0 : Nat) (I : qMI) (L : qML) (P : qMP) : Prop :=
  ((shp sh a0).1 = 10) ∧ (((¬ (I a0 4) = 10) → (Sq d mX10_copies sh [.ref (P a0 0), .int 0, .ref (P a0 2), .int ((I a0 4) * 84)] I L P (KV fun I3 L4 P5 => ∀ I6 : qMI, I6 = uI I3 a0 4 ((I3 a0 4) + 1) → (∀ I7 : qMI, I7 = uI I6 a0 5 0 → (K none I7 L4 P5))))) ∧ (((I a0 4) = 10) → (∀ I8 : qMI, I8 = uI I a0 4 ((I a0 4) - 1) → (T1 0 I8 L P))))
set_option maxRecDepth 100000 in
set_option maxHeartbeats 4000000 in
theorem rg_X10_changes_0 {X : qCT} {d : Nat} {sh : List qSh} {K : Option Value → qMI → qML → qMP → Prop} {T1 : Int32 → qMI → qML → qMP → Prop} {a0 : Nat} {I : qMI} {L : qML} {P : qMP} (C : qCB X RX10 cX10_changes 2 (d + 1) 0 0) (hk : qCK X (none) 0 0 (fun v sh' I' L' P' => sh' = sh ∧ K v I' L' P')) (hT1 : ∀ (x1 : Int32) (I : qMI) (L : qML) (P : qMP), T1 x1 I L P → qG X 21 [some (.ref a0), some (.int x1)] [] sh I L P 0 0) (h : vc_X10_changes_0 d sh K T1 a0 I L P) : qG X 0 [some (.ref a0), none] [] sh I L P 0 0 := by
  unfold vc_X10_changes_0 at h
  refine q_aload_n C dX10_changes_0 rfl ?_
  have s1 := h.1
  replace h := h.2
  refine q_getI C fl_RX10_81 rfl s1 dX10_changes_1 ?_
  refine q_bipush (v := 10) C dX10_changes_4 (by decide) ?_
  refine q_icmp_ne (tgt := 53) C dX10_changes_6 (by decide) (fun c2 => ?_) (fun c2 => ?_)
  · replace h := h.1 c2
    refine q_aload_n C dX10_changes_53 rfl ?_
    refine q_getP C fl_RX10_9 rfl s1 dX10_changes_54 ?_
    refine q_iconst (v := 0) C dX10_changes_57 (by decide) ?_
    refine q_aload_n C dX10_changes_58 rfl ?_
    refine q_getP C fl_RX10_16 rfl s1 dX10_changes_59 ?_
    refine q_aload_n C dX10_changes_62 rfl ?_
    refine q_getI C fl_RX10_81 rfl s1 dX10_changes_63 ?_
    refine q_bipush (v := 84) C dX10_changes_66 (by decide) ?_
    refine q_imul C dX10_changes_68 ?_
    refine q_cSv (as := [.ref (P a0 0), .int 0, .ref (P a0 2), .int ((I a0 4) * 84)]) (st := []) C ms_X10_copies ml_RX10_85 dX10_changes_69 rfl rfl (Nat.le_of_ble_eq_true rfl) ⟨Nat.le_refl _, Nat.le_refl _⟩ h (fun I3 L4 P5 h => ?_)
    refine q_aload_n C dX10_changes_72 rfl ?_
    refine q_dup C dX10_changes_73 rfl ?_
    refine q_getI C fl_RX10_81 rfl s1 dX10_changes_74 ?_
    refine q_iconst (v := 1) C dX10_changes_77 (by decide) ?_
    refine q_iadd C dX10_changes_78 ?_
    refine q_putI C fl_RX10_81 (fun T hT => by cases hT; rfl) rfl s1 dX10_changes_79 (fun I6 eI6 => ?_)
    replace h := h I6 eI6
    refine q_aload_n C dX10_changes_82 rfl ?_
    refine q_iconst (v := 0) C dX10_changes_83 (by decide) ?_
    refine q_putI C fl_RX10_89 (fun T hT => by cases hT; rfl) rfl s1 dX10_changes_84 (fun I7 eI7 => ?_)
    replace h := h I7 eI7
    exact q_vret C hk dX10_changes_87 ⟨rfl, h⟩
  · replace h := h.2 c2
    refine q_aload_n C dX10_changes_9 rfl ?_
    refine q_dup C dX10_changes_10 rfl ?_
    refine q_getI C fl_RX10_81 rfl s1 dX10_changes_11 ?_
    refine q_iconst (v := 1) C dX10_changes_14 (by decide) ?_
    refine q_isub C dX10_changes_15 ?_
    refine q_putI C fl_RX10_81 (fun T hT => by cases hT; rfl) rfl s1 dX10_changes_16 (fun I8 eI8 => ?_)
    replace h := h I8 eI8
    refine q_iconst (v := 0) C dX10_changes_19 (by decide) ?_
    refine q_istore_n (lo1 := [some (.ref a0), some (.int 0)]) C dX10_changes_20 (by decide) rfl ?_
    exact hT1 _ _ _ _ h
def vc_X10_changes_1 (d : Nat) (sh : List qSh) (K : Option Value → qMI → qML → qMP → Prop) (T1 : Int32 → qMI → qML → qMP → Prop) (a0 : Nat) (x1 : Int32) (I : qMI) (L : qML) (P : qMP) : Prop :=
  ((shp sh a0).1 = 10) ∧ (((((I a0 4) * 84) ≤ x1) → (Sq d mX10_copies sh [.ref (P a0 0), .int 0, .ref (P a0 2), .int ((I a0 4) * 84)] I L P (KV fun I3 L4 P5 => ∀ I6 : qMI, I6 = uI I3 a0 4 ((I3 a0 4) + 1) → (∀ I7 : qMI, I7 = uI I6 a0 5 0 → (K none I7 L4 P5))))) ∧ ((¬ ((I a0 4) * 84) ≤ x1) → (((shp sh (P a0 2)).1 = 20) ∧ ((vp_in (x1 + 84) (shp sh (P a0 2)).2) ∧ ((vp_in x1 (shp sh (P a0 2)).2) ∧ (∀ I11 : qMI, I11 = uI I (P a0 2) (Int32.toNatClampNeg x1) (I (P a0 2) (Int32.toNatClampNeg (x1 + 84))) → (T1 (x1 + 1) I11 L P)))))))
set_option maxRecDepth 100000 in
set_option maxHeartbeats 4000000 in
theorem rg_X10_changes_1 {X : qCT} {d : Nat} {sh : List qSh} {K : Option Value → qMI → qML → qMP → Prop} {T1 : Int32 → qMI → qML → qMP → Prop} {a0 : Nat} {x1 : Int32} {I : qMI} {L : qML} {P : qMP} (C : qCB X RX10 cX10_changes 2 (d + 1) 0 0) (hk : qCK X (none) 0 0 (fun v sh' I' L' P' => sh' = sh ∧ K v I' L' P')) (hT1 : ∀ (x1 : Int32) (I : qMI) (L : qML) (P : qMP), T1 x1 I L P → qG X 21 [some (.ref a0), some (.int x1)] [] sh I L P 0 0) (h : vc_X10_changes_1 d sh K T1 a0 x1 I L P) : qG X 21 [some (.ref a0), some (.int x1)] [] sh I L P 0 0 := by
  unfold vc_X10_changes_1 at h
  refine q_iload_n C dX10_changes_21 rfl ?_
  refine q_aload_n C dX10_changes_22 rfl ?_
  have s1 := h.1
  replace h := h.2
  refine q_getI C fl_RX10_81 rfl s1 dX10_changes_23 ?_
  refine q_bipush (v := 84) C dX10_changes_26 (by decide) ?_
  refine q_imul C dX10_changes_28 ?_
  refine q_icmp_ge (tgt := 53) C dX10_changes_29 (by decide) (fun c2 => ?_) (fun c2 => ?_)
  · replace h := h.1 c2
    refine q_aload_n C dX10_changes_53 rfl ?_
    refine q_getP C fl_RX10_9 rfl s1 dX10_changes_54 ?_
    refine q_iconst (v := 0) C dX10_changes_57 (by decide) ?_
    refine q_aload_n C dX10_changes_58 rfl ?_
    refine q_getP C fl_RX10_16 rfl s1 dX10_changes_59 ?_
    refine q_aload_n C dX10_changes_62 rfl ?_
    refine q_getI C fl_RX10_81 rfl s1 dX10_changes_63 ?_
    refine q_bipush (v := 84) C dX10_changes_66 (by decide) ?_
    refine q_imul C dX10_changes_68 ?_
    refine q_cSv (as := [.ref (P a0 0), .int 0, .ref (P a0 2), .int ((I a0 4) * 84)]) (st := []) C ms_X10_copies ml_RX10_85 dX10_changes_69 rfl rfl (Nat.le_of_ble_eq_true rfl) ⟨Nat.le_refl _, Nat.le_refl _⟩ h (fun I3 L4 P5 h => ?_)
    refine q_aload_n C dX10_changes_72 rfl ?_
    refine q_dup C dX10_changes_73 rfl ?_
    refine q_getI C fl_RX10_81 rfl s1 dX10_changes_74 ?_
    refine q_iconst (v := 1) C dX10_changes_77 (by decide) ?_
    refine q_iadd C dX10_changes_78 ?_
    refine q_putI C fl_RX10_81 (fun T hT => by cases hT; rfl) rfl s1 dX10_changes_79 (fun I6 eI6 => ?_)
    replace h := h I6 eI6
    refine q_aload_n C dX10_changes_82 rfl ?_
    refine q_iconst (v := 0) C dX10_changes_83 (by decide) ?_
    refine q_putI C fl_RX10_89 (fun T hT => by cases hT; rfl) rfl s1 dX10_changes_84 (fun I7 eI7 => ?_)
    replace h := h I7 eI7
    exact q_vret C hk dX10_changes_87 ⟨rfl, h⟩
  · replace h := h.2 c2
    refine q_aload_n C dX10_changes_32 rfl ?_
    refine q_getP C fl_RX10_16 rfl s1 dX10_changes_33 ?_
    refine q_iload_n C dX10_changes_36 rfl ?_
    refine q_aload_n C dX10_changes_37 rfl ?_
    refine q_getP C fl_RX10_16 rfl s1 dX10_changes_38 ?_
    refine q_iload_n C dX10_changes_41 rfl ?_
    refine q_bipush (v := 84) C dX10_changes_42 (by decide) ?_
    refine q_iadd C dX10_changes_44 ?_
    have s8 := h.1
    replace h := h.2
    have s9 := h.1
    replace h := h.2
    refine q_iald C s8 s9 dX10_changes_45 ?_
    have s10 := h.1
    replace h := h.2
    refine q_iast C s8 s10 dX10_changes_46 (fun I11 eI11 => ?_)
    replace h := h I11 eI11
    refine q_iinc (w := 1) (lo1 := [some (.ref a0), some (.int (x1 + 1))]) C dX10_changes_47 rfl (by decide) (by decide) rfl ?_
    refine q_goto (tgt := 21) C dX10_changes_50 (by decide) ?_
    exact hT1 _ _ _ _ h
theorem sp_X10_changes {d : Nat} {sh : List qSh} {K : Option Value → qMI → qML → qMP → Prop} {a0 : Nat} {I : qMI} {L : qML} {P : qMP} (T1 : Int32 → qMI → qML → qMP → Prop) (m1 : Int32 → qMI → qML → qMP → Nat) (h0 : vc_X10_changes_0 d sh K T1 a0 I L P)
    (h1 : ∀ (x1 : Int32) (I : qMI) (L : qML) (P : qMP), T1 x1 I L P → vc_X10_changes_1 d sh K (fun w0 I' L' P' => T1 w0 I' L' P' ∧ m1 w0 I' L' P' < m1 x1 I L P) a0 x1 I L P) : Sq (d + 1) mX10_changes sh [.ref a0] I L P K := by
  refine Sq_of (by decide +kernel) (Nat.le_of_ble_eq_true rfl) (fun X C hk hn => ?_)
  have go : ∀ N : Nat, (∀ (x1 : Int32) (I : qMI) (L : qML) (P : qMP), T1 x1 I L P → m1 x1 I L P < N → qG X 21 [some (.ref a0), some (.int x1)] [] sh I L P 0 0) := by
    intro N
    induction N with
    | zero => exact fun _ _ _ _ _ q => absurd q (Nat.not_lt_zero _)
    | succ N ih =>
      exact fun b0 I1 L1 P1 t q => rg_X10_changes_1 C hk (fun z0 I2 L2 P2 z => ih z0 I2 L2 P2 z.1 (Nat.lt_of_lt_of_le z.2 (Nat.le_of_lt_succ q))) (h1 b0 I1 L1 P1 t)
  exact rg_X10_changes_0 C hk (fun b0 I1 L1 P1 t => (go (m1 b0 I1 L1 P1 + 1)) b0 I1 L1 P1 t (Nat.lt_succ_self _)) h0
/-! BracketDrawsModel.undo()I -/
def vc_X10_undo_0 (d : Nat) (sh : List qSh) (K : Option Value → qMI → qML → qMP → Prop) (a0 : Nat) (I : qMI) (L : qML) (P : qMP) : Prop :=
  ((shp sh a0).1 = 10) ∧ (((¬ (I a0 4) = 0) → (Sq d mX10_copies sh [.ref (P a0 0), .int 0, .ref (P a0 3), .int ((I a0 5) * 84)] I L P (KV fun I3 L4 P5 => ∀ I6 : qMI, I6 = uI I3 a0 5 ((I3 a0 5) + 1) → (∀ I7 : qMI, I7 = uI I6 a0 4 ((I6 a0 4) - 1) → (Sq d mX10_copies sh [.ref (P5 a0 2), .int ((I7 a0 4) * 84), .ref (P5 a0 0), .int 0] I7 L4 P5 (KV fun I8 L9 P10 => ∀ I11 : qMI, I11 = uI I8 a0 17 0 → (K (some (.int (I11 a0 4))) I11 L9 P10))))))) ∧ (((I a0 4) = 0) → (K (some (.int ((-5)))) I L P)))
set_option maxRecDepth 100000 in
set_option maxHeartbeats 4000000 in
theorem rg_X10_undo_0 {X : qCT} {d : Nat} {sh : List qSh} {K : Option Value → qMI → qML → qMP → Prop} {a0 : Nat} {I : qMI} {L : qML} {P : qMP} (C : qCB X RX10 cX10_undo 1 (d + 1) 0 0) (hk : qCK X (some .int) 0 0 (fun v sh' I' L' P' => sh' = sh ∧ K v I' L' P')) (h : vc_X10_undo_0 d sh K a0 I L P) : qG X 0 [some (.ref a0)] [] sh I L P 0 0 := by
  unfold vc_X10_undo_0 at h
  refine q_aload_n C dX10_undo_0 rfl ?_
  have s1 := h.1
  replace h := h.2
  refine q_getI C fl_RX10_81 rfl s1 dX10_undo_1 ?_
  refine q_if_ne (tgt := 10) C dX10_undo_4 (by decide) (fun c2 => ?_) (fun c2 => ?_)
  · replace h := h.1 c2
    refine q_aload_n C dX10_undo_10 rfl ?_
    refine q_getP C fl_RX10_9 rfl s1 dX10_undo_11 ?_
    refine q_iconst (v := 0) C dX10_undo_14 (by decide) ?_
    refine q_aload_n C dX10_undo_15 rfl ?_
    refine q_getP C fl_RX10_19 rfl s1 dX10_undo_16 ?_
    refine q_aload_n C dX10_undo_19 rfl ?_
    refine q_getI C fl_RX10_89 rfl s1 dX10_undo_20 ?_
    refine q_bipush (v := 84) C dX10_undo_23 (by decide) ?_
    refine q_imul C dX10_undo_25 ?_
    refine q_cSv (as := [.ref (P a0 0), .int 0, .ref (P a0 3), .int ((I a0 5) * 84)]) (st := []) C ms_X10_copies ml_RX10_85 dX10_undo_26 rfl rfl (Nat.le_of_ble_eq_true rfl) ⟨Nat.le_refl _, Nat.le_refl _⟩ h (fun I3 L4 P5 h => ?_)
    refine q_aload_n C dX10_undo_29 rfl ?_
    refine q_dup C dX10_undo_30 rfl ?_
    refine q_getI C fl_RX10_89 rfl s1 dX10_undo_31 ?_
    refine q_iconst (v := 1) C dX10_undo_34 (by decide) ?_
    refine q_iadd C dX10_undo_35 ?_
    refine q_putI C fl_RX10_89 (fun T hT => by cases hT; rfl) rfl s1 dX10_undo_36 (fun I6 eI6 => ?_)
    replace h := h I6 eI6
    refine q_aload_n C dX10_undo_39 rfl ?_
    refine q_dup C dX10_undo_40 rfl ?_
    refine q_getI C fl_RX10_81 rfl s1 dX10_undo_41 ?_
    refine q_iconst (v := 1) C dX10_undo_44 (by decide) ?_
    refine q_isub C dX10_undo_45 ?_
    refine q_putI C fl_RX10_81 (fun T hT => by cases hT; rfl) rfl s1 dX10_undo_46 (fun I7 eI7 => ?_)
    replace h := h I7 eI7
    refine q_aload_n C dX10_undo_49 rfl ?_
    refine q_getP C fl_RX10_16 rfl s1 dX10_undo_50 ?_
    refine q_aload_n C dX10_undo_53 rfl ?_
    refine q_getI C fl_RX10_81 rfl s1 dX10_undo_54 ?_
    refine q_bipush (v := 84) C dX10_undo_57 (by decide) ?_
    refine q_imul C dX10_undo_59 ?_
    refine q_aload_n C dX10_undo_60 rfl ?_
    refine q_getP C fl_RX10_9 rfl s1 dX10_undo_61 ?_
    refine q_iconst (v := 0) C dX10_undo_64 (by decide) ?_
    refine q_cSv (as := [.ref (P5 a0 2), .int ((I7 a0 4) * 84), .ref (P5 a0 0), .int 0]) (st := []) C ms_X10_copies ml_RX10_85 dX10_undo_65 rfl rfl (Nat.le_of_ble_eq_true rfl) ⟨Nat.le_refl _, Nat.le_refl _⟩ h (fun I8 L9 P10 h => ?_)
    refine q_aload_n C dX10_undo_68 rfl ?_
    refine q_iconst (v := 0) C dX10_undo_69 (by decide) ?_
    refine q_putZ C fl_RX10_77 (fun T hT => by cases hT; rfl) rfl s1 (Or.inl rfl) dX10_undo_70 (fun I11 eI11 => ?_)
    replace h := h I11 eI11
    refine q_aload_n C dX10_undo_73 rfl ?_
    refine q_getI C fl_RX10_81 rfl s1 dX10_undo_74 ?_
    exact q_iret C hk dX10_undo_77 ⟨rfl, h⟩
  · replace h := h.2 c2
    refine q_bipush (v := (-5)) C dX10_undo_7 (by decide) ?_
    exact q_iret C hk dX10_undo_9 ⟨rfl, h⟩
theorem sp_X10_undo {d : Nat} {sh : List qSh} {K : Option Value → qMI → qML → qMP → Prop} {a0 : Nat} {I : qMI} {L : qML} {P : qMP} (h0 : vc_X10_undo_0 d sh K a0 I L P) : Sq (d + 1) mX10_undo sh [.ref a0] I L P K := by
  refine Sq_of (by decide +kernel) (Nat.le_of_ble_eq_true rfl) (fun X C hk hn => ?_)
  exact rg_X10_undo_0 C hk h0
/-! BracketDrawsModel.redo()I -/
def vc_X10_redo_0 (d : Nat) (sh : List qSh) (K : Option Value → qMI → qML → qMP → Prop) (a0 : Nat) (I : qMI) (L : qML) (P : qMP) : Prop :=
  ((shp sh a0).1 = 10) ∧ (((¬ (I a0 5) = 0) → (Sq d mX10_copies sh [.ref (P a0 0), .int 0, .ref (P a0 2), .int ((I a0 4) * 84)] I L P (KV fun I3 L4 P5 => ∀ I6 : qMI, I6 = uI I3 a0 4 ((I3 a0 4) + 1) → (∀ I7 : qMI, I7 = uI I6 a0 5 ((I6 a0 5) - 1) → (Sq d mX10_copies sh [.ref (P5 a0 3), .int ((I7 a0 5) * 84), .ref (P5 a0 0), .int 0] I7 L4 P5 (KV fun I8 L9 P10 => ∀ I11 : qMI, I11 = uI I8 a0 17 0 → (K (some (.int (I11 a0 5))) I11 L9 P10))))))) ∧ (((I a0 5) = 0) → (K (some (.int ((-5)))) I L P)))
set_option maxRecDepth 100000 in
set_option maxHeartbeats 4000000 in
theorem rg_X10_redo_0 {X : qCT} {d : Nat} {sh : List qSh} {K : Option Value → qMI → qML → qMP → Prop} {a0 : Nat} {I : qMI} {L : qML} {P : qMP} (C : qCB X RX10 cX10_redo 1 (d + 1) 0 0) (hk : qCK X (some .int) 0 0 (fun v sh' I' L' P' => sh' = sh ∧ K v I' L' P')) (h : vc_X10_redo_0 d sh K a0 I L P) : qG X 0 [some (.ref a0)] [] sh I L P 0 0 := by
  unfold vc_X10_redo_0 at h
  refine q_aload_n C dX10_redo_0 rfl ?_
  have s1 := h.1
  replace h := h.2
  refine q_getI C fl_RX10_89 rfl s1 dX10_redo_1 ?_
  refine q_if_ne (tgt := 10) C dX10_redo_4 (by decide) (fun c2 => ?_) (fun c2 => ?_)
  · replace h := h.1 c2
    refine q_aload_n C dX10_redo_10 rfl ?_
    refine q_getP C fl_RX10_9 rfl s1 dX10_redo_11 ?_
    refine q_iconst (v := 0) C dX10_redo_14 (by decide) ?_
    refine q_aload_n C dX10_redo_15 rfl ?_
    refine q_getP C fl_RX10_16 rfl s1 dX10_redo_16 ?_
    refine q_aload_n C dX10_redo_19 rfl ?_
    refine q_getI C fl_RX10_81 rfl s1 dX10_redo_20 ?_
    refine q_bipush (v := 84) C dX10_redo_23 (by decide) ?_
    refine q_imul C dX10_redo_25 ?_
    refine q_cSv (as := [.ref (P a0 0), .int 0, .ref (P a0 2), .int ((I a0 4) * 84)]) (st := []) C ms_X10_copies ml_RX10_85 dX10_redo_26 rfl rfl (Nat.le_of_ble_eq_true rfl) ⟨Nat.le_refl _, Nat.le_refl _⟩ h (fun I3 L4 P5 h => ?_)
    refine q_aload_n C dX10_redo_29 rfl ?_
    refine q_dup C dX10_redo_30 rfl ?_
    refine q_getI C fl_RX10_81 rfl s1 dX10_redo_31 ?_
    refine q_iconst (v := 1) C dX10_redo_34 (by decide) ?_
    refine q_iadd C dX10_redo_35 ?_
    refine q_putI C fl_RX10_81 (fun T hT => by cases hT; rfl) rfl s1 dX10_redo_36 (fun I6 eI6 => ?_)
    replace h := h I6 eI6
    refine q_aload_n C dX10_redo_39 rfl ?_
    refine q_dup C dX10_redo_40 rfl ?_
    refine q_getI C fl_RX10_89 rfl s1 dX10_redo_41 ?_
    refine q_iconst (v := 1) C dX10_redo_44 (by decide) ?_
    refine q_isub C dX10_redo_45 ?_
    refine q_putI C fl_RX10_89 (fun T hT => by cases hT; rfl) rfl s1 dX10_redo_46 (fun I7 eI7 => ?_)
    replace h := h I7 eI7
    refine q_aload_n C dX10_redo_49 rfl ?_
    refine q_getP C fl_RX10_19 rfl s1 dX10_redo_50 ?_
    refine q_aload_n C dX10_redo_53 rfl ?_
    refine q_getI C fl_RX10_89 rfl s1 dX10_redo_54 ?_
    refine q_bipush (v := 84) C dX10_redo_57 (by decide) ?_
    refine q_imul C dX10_redo_59 ?_
    refine q_aload_n C dX10_redo_60 rfl ?_
    refine q_getP C fl_RX10_9 rfl s1 dX10_redo_61 ?_
    refine q_iconst (v := 0) C dX10_redo_64 (by decide) ?_
    refine q_cSv (as := [.ref (P5 a0 3), .int ((I7 a0 5) * 84), .ref (P5 a0 0), .int 0]) (st := []) C ms_X10_copies ml_RX10_85 dX10_redo_65 rfl rfl (Nat.le_of_ble_eq_true rfl) ⟨Nat.le_refl _, Nat.le_refl _⟩ h (fun I8 L9 P10 h => ?_)
    refine q_aload_n C dX10_redo_68 rfl ?_
    refine q_iconst (v := 0) C dX10_redo_69 (by decide) ?_
    refine q_putZ C fl_RX10_77 (fun T hT => by cases hT; rfl) rfl s1 (Or.inl rfl) dX10_redo_70 (fun I11 eI11 => ?_)
    replace h := h I11 eI11
    refine q_aload_n C dX10_redo_73 rfl ?_
    refine q_getI C fl_RX10_89 rfl s1 dX10_redo_74 ?_
    exact q_iret C hk dX10_redo_77 ⟨rfl, h⟩
  · replace h := h.2 c2
    refine q_bipush (v := (-5)) C dX10_redo_7 (by decide) ?_
    exact q_iret C hk dX10_redo_9 ⟨rfl, h⟩
theorem sp_X10_redo {d : Nat} {sh : List qSh} {K : Option Value → qMI → qML → qMP → Prop} {a0 : Nat} {I : qMI} {L : qML} {P : qMP} (h0 : vc_X10_redo_0 d sh K a0 I L P) : Sq (d + 1) mX10_redo sh [.ref a0] I L P K := by
  refine Sq_of (by decide +kernel) (Nat.le_of_ble_eq_true rfl) (fun X C hk hn => ?_)
  exact rg_X10_redo_0 C hk h0
/-! BracketDrawsModel.image()I -/
def vc_X10_image_0 (d : Nat) (sh : List qSh) (K : Option Value → qMI → qML → qMP → Prop) (a0 : Nat) (I : qMI) (L : qML) (P : qMP) : Prop :=
  ((shp sh a0).1 = 10) ∧ (Sq d mX10_copies sh [.ref (P a0 0), .int 0, .ref (P a0 1), .int 0] I L P (KV fun I2 L3 P4 => ∀ I5 : qMI, I5 = uI I2 a0 6 1 → (((shp sh (P4 a0 0)).1 = 20) ∧ ((vp_in 0 (shp sh (P4 a0 0)).2) ∧ (K (some (.int (I5 (P4 a0 0) (Int32.toNatClampNeg 0)))) I5 L3 P4)))))
set_option maxRecDepth 100000 in
set_option maxHeartbeats 4000000 in
theorem rg_X10_image_0 {X : qCT} {d : Nat} {sh : List qSh} {K : Option Value → qMI → qML → qMP → Prop} {a0 : Nat} {I : qMI} {L : qML} {P : qMP} (C : qCB X RX10 cX10_image 1 (d + 1) 0 0) (hk : qCK X (some .int) 0 0 (fun v sh' I' L' P' => sh' = sh ∧ K v I' L' P')) (h : vc_X10_image_0 d sh K a0 I L P) : qG X 0 [some (.ref a0)] [] sh I L P 0 0 := by
  unfold vc_X10_image_0 at h
  refine q_aload_n C dX10_image_0 rfl ?_
  have s1 := h.1
  replace h := h.2
  refine q_getP C fl_RX10_9 rfl s1 dX10_image_1 ?_
  refine q_iconst (v := 0) C dX10_image_4 (by decide) ?_
  refine q_aload_n C dX10_image_5 rfl ?_
  refine q_getP C fl_RX10_13 rfl s1 dX10_image_6 ?_
  refine q_iconst (v := 0) C dX10_image_9 (by decide) ?_
  refine q_cSv (as := [.ref (P a0 0), .int 0, .ref (P a0 1), .int 0]) (st := []) C ms_X10_copies ml_RX10_85 dX10_image_10 rfl rfl (Nat.le_of_ble_eq_true rfl) ⟨Nat.le_refl _, Nat.le_refl _⟩ h (fun I2 L3 P4 h => ?_)
  refine q_aload_n C dX10_image_13 rfl ?_
  refine q_iconst (v := 1) C dX10_image_14 (by decide) ?_
  refine q_putZ C fl_RX10_92 (fun T hT => by cases hT; rfl) rfl s1 (Or.inr rfl) dX10_image_15 (fun I5 eI5 => ?_)
  replace h := h I5 eI5
  refine q_aload_n C dX10_image_18 rfl ?_
  refine q_getP C fl_RX10_9 rfl s1 dX10_image_19 ?_
  refine q_iconst (v := 0) C dX10_image_22 (by decide) ?_
  have s6 := h.1
  replace h := h.2
  have s7 := h.1
  replace h := h.2
  refine q_iald C s6 s7 dX10_image_23 ?_
  exact q_iret C hk dX10_image_24 ⟨rfl, h⟩
theorem sp_X10_image {d : Nat} {sh : List qSh} {K : Option Value → qMI → qML → qMP → Prop} {a0 : Nat} {I : qMI} {L : qML} {P : qMP} (h0 : vc_X10_image_0 d sh K a0 I L P) : Sq (d + 1) mX10_image sh [.ref a0] I L P K := by
  refine Sq_of (by decide +kernel) (Nat.le_of_ble_eq_true rfl) (fun X C hk hn => ?_)
  exact rg_X10_image_0 C hk h0
/-! BracketDrawsModel.back()I -/
def vc_X10_back_0 (d : Nat) (sh : List qSh) (K : Option Value → qMI → qML → qMP → Prop) (a0 : Nat) (I : qMI) (L : qML) (P : qMP) : Prop :=
  ((shp sh a0).1 = 10) ∧ (((¬ (I a0 6) = 0) → (Sq d mX10_copies sh [.ref (P a0 1), .int 0, .ref (P a0 0), .int 0] I L P (KV fun I3 L4 P5 => ∀ I6 : qMI, I6 = uI I3 a0 4 0 → (∀ I7 : qMI, I7 = uI I6 a0 5 0 → (∀ I8 : qMI, I8 = uI I7 a0 17 0 → (((shp sh (P5 a0 0)).1 = 20) ∧ ((vp_in 0 (shp sh (P5 a0 0)).2) ∧ (K (some (.int (I8 (P5 a0 0) (Int32.toNatClampNeg 0)))) I8 L4 P5)))))))) ∧ (((I a0 6) = 0) → (K (some (.int ((-5)))) I L P)))
set_option maxRecDepth 100000 in
set_option maxHeartbeats 4000000 in
theorem rg_X10_back_0 {X : qCT} {d : Nat} {sh : List qSh} {K : Option Value → qMI → qML → qMP → Prop} {a0 : Nat} {I : qMI} {L : qML} {P : qMP} (C : qCB X RX10 cX10_back 1 (d + 1) 0 0) (hk : qCK X (some .int) 0 0 (fun v sh' I' L' P' => sh' = sh ∧ K v I' L' P')) (h : vc_X10_back_0 d sh K a0 I L P) : qG X 0 [some (.ref a0)] [] sh I L P 0 0 := by
  unfold vc_X10_back_0 at h
  refine q_aload_n C dX10_back_0 rfl ?_
  have s1 := h.1
  replace h := h.2
  refine q_getI C fl_RX10_92 rfl s1 dX10_back_1 ?_
  refine q_if_ne (tgt := 10) C dX10_back_4 (by decide) (fun c2 => ?_) (fun c2 => ?_)
  · replace h := h.1 c2
    refine q_aload_n C dX10_back_10 rfl ?_
    refine q_getP C fl_RX10_13 rfl s1 dX10_back_11 ?_
    refine q_iconst (v := 0) C dX10_back_14 (by decide) ?_
    refine q_aload_n C dX10_back_15 rfl ?_
    refine q_getP C fl_RX10_9 rfl s1 dX10_back_16 ?_
    refine q_iconst (v := 0) C dX10_back_19 (by decide) ?_
    refine q_cSv (as := [.ref (P a0 1), .int 0, .ref (P a0 0), .int 0]) (st := []) C ms_X10_copies ml_RX10_85 dX10_back_20 rfl rfl (Nat.le_of_ble_eq_true rfl) ⟨Nat.le_refl _, Nat.le_refl _⟩ h (fun I3 L4 P5 h => ?_)
    refine q_aload_n C dX10_back_23 rfl ?_
    refine q_iconst (v := 0) C dX10_back_24 (by decide) ?_
    refine q_putI C fl_RX10_81 (fun T hT => by cases hT; rfl) rfl s1 dX10_back_25 (fun I6 eI6 => ?_)
    replace h := h I6 eI6
    refine q_aload_n C dX10_back_28 rfl ?_
    refine q_iconst (v := 0) C dX10_back_29 (by decide) ?_
    refine q_putI C fl_RX10_89 (fun T hT => by cases hT; rfl) rfl s1 dX10_back_30 (fun I7 eI7 => ?_)
    replace h := h I7 eI7
    refine q_aload_n C dX10_back_33 rfl ?_
    refine q_iconst (v := 0) C dX10_back_34 (by decide) ?_
    refine q_putZ C fl_RX10_77 (fun T hT => by cases hT; rfl) rfl s1 (Or.inl rfl) dX10_back_35 (fun I8 eI8 => ?_)
    replace h := h I8 eI8
    refine q_aload_n C dX10_back_38 rfl ?_
    refine q_getP C fl_RX10_9 rfl s1 dX10_back_39 ?_
    refine q_iconst (v := 0) C dX10_back_42 (by decide) ?_
    have s9 := h.1
    replace h := h.2
    have s10 := h.1
    replace h := h.2
    refine q_iald C s9 s10 dX10_back_43 ?_
    exact q_iret C hk dX10_back_44 ⟨rfl, h⟩
  · replace h := h.2 c2
    refine q_bipush (v := (-5)) C dX10_back_7 (by decide) ?_
    exact q_iret C hk dX10_back_9 ⟨rfl, h⟩
theorem sp_X10_back {d : Nat} {sh : List qSh} {K : Option Value → qMI → qML → qMP → Prop} {a0 : Nat} {I : qMI} {L : qML} {P : qMP} (h0 : vc_X10_back_0 d sh K a0 I L P) : Sq (d + 1) mX10_back sh [.ref a0] I L P K := by
  refine Sq_of (by decide +kernel) (Nat.le_of_ble_eq_true rfl) (fun X C hk hn => ?_)
  exact rg_X10_back_0 C hk h0
/-! BracketDrawsModel.hasSeed(II)Z -/
def vc_X10_hasSeed_0 (d : Nat) (sh : List qSh) (K : Option Value → qMI → qML → qMP → Prop) (T1 : Int32 → Int32 → qMI → qML → qMP → Prop) (a0 : Nat) (x1 : Int32) (x2 : Int32) (I : qMI) (L : qML) (P : qMP) : Prop :=
  T1 0 0 I L P
set_option maxRecDepth 100000 in
set_option maxHeartbeats 4000000 in
theorem rg_X10_hasSeed_0 {X : qCT} {d : Nat} {sh : List qSh} {K : Option Value → qMI → qML → qMP → Prop} {T1 : Int32 → Int32 → qMI → qML → qMP → Prop} {a0 : Nat} {x1 : Int32} {x2 : Int32} {I : qMI} {L : qML} {P : qMP} (C : qCB X RX10 cX10_hasSeed 5 (d + 1) 0 0) (hk : qCK X (some .boolean) 0 0 (fun v sh' I' L' P' => sh' = sh ∧ K v I' L' P')) (hT1 : ∀ (x3 : Int32) (x4 : Int32) (I : qMI) (L : qML) (P : qMP), T1 x3 x4 I L P → qG X 5 [some (.ref a0), some (.int x1), some (.int x2), some (.int x3), some (.int x4)] [] sh I L P 0 0) (h : vc_X10_hasSeed_0 d sh K T1 a0 x1 x2 I L P) : qG X 0 [some (.ref a0), some (.int x1), some (.int x2), none, none] [] sh I L P 0 0 := by
  unfold vc_X10_hasSeed_0 at h
  refine q_iconst (v := 0) C dX10_hasSeed_0 (by decide) ?_
  refine q_istore_n (lo1 := [some (.ref a0), some (.int x1), some (.int x2), some (.int 0), none]) C dX10_hasSeed_1 (by decide) rfl ?_
  refine q_iconst (v := 0) C dX10_hasSeed_2 (by decide) ?_
  refine q_istore (lo1 := [some (.ref a0), some (.int x1), some (.int x2), some (.int 0), some (.int 0)]) C dX10_hasSeed_3 (by decide) rfl ?_
  exact hT1 _ _ _ _ _ h
def vc_X10_hasSeed_1 (d : Nat) (sh : List qSh) (K : Option Value → qMI → qML → qMP → Prop) (T1 : Int32 → Int32 → qMI → qML → qMP → Prop) (a0 : Nat) (x1 : Int32) (x2 : Int32) (x3 : Int32) (x4 : Int32) (I : qMI) (L : qML) (P : qMP) : Prop :=
  ((shp sh a0).1 = 10) ∧ (((shp sh (P a0 0)).1 = 20) ∧ ((vp_in 0 (shp sh (P a0 0)).2) ∧ ((((I (P a0 0) (Int32.toNatClampNeg 0)) ≤ x4) → (((x3 = 0) → (K (some (.int 0)) I L P)) ∧ ((¬ x3 = 0) → (((x1 ≤ 0) → (K (some (.int 0)) I L P)) ∧ ((¬ x1 ≤ 0) → (K (some (.int 1)) I L P)))))) ∧ ((¬ (I (P a0 0) (Int32.toNatClampNeg 0)) ≤ x4) → (((¬ x3 = 0) → (T1 1 (x4 + 1) I L P)) ∧ ((x3 = 0) → (((x4 = x2) → (T1 0 (x4 + 1) I L P)) ∧ ((¬ x4 = x2) → ((vp_in (25 + x4) (shp sh (P a0 0)).2) ∧ (((¬ (I (P a0 0) (Int32.toNatClampNeg (25 + x4))) = x1) → (T1 0 (x4 + 1) I L P)) ∧ (((I (P a0 0) (Int32.toNatClampNeg (25 + x4))) = x1) → (T1 1 (x4 + 1) I L P))))))))))))
set_option maxRecDepth 100000 in
set_option maxHeartbeats 4000000 in
theorem rg_X10_hasSeed_1 {X : qCT} {d : Nat} {sh : List qSh} {K : Option Value → qMI → qML → qMP → Prop} {T1 : Int32 → Int32 → qMI → qML → qMP → Prop} {a0 : Nat} {x1 : Int32} {x2 : Int32} {x3 : Int32} {x4 : Int32} {I : qMI} {L : qML} {P : qMP} (C : qCB X RX10 cX10_hasSeed 5 (d + 1) 0 0) (hk : qCK X (some .boolean) 0 0 (fun v sh' I' L' P' => sh' = sh ∧ K v I' L' P')) (hT1 : ∀ (x3 : Int32) (x4 : Int32) (I : qMI) (L : qML) (P : qMP), T1 x3 x4 I L P → qG X 5 [some (.ref a0), some (.int x1), some (.int x2), some (.int x3), some (.int x4)] [] sh I L P 0 0) (h : vc_X10_hasSeed_1 d sh K T1 a0 x1 x2 x3 x4 I L P) : qG X 5 [some (.ref a0), some (.int x1), some (.int x2), some (.int x3), some (.int x4)] [] sh I L P 0 0 := by
  unfold vc_X10_hasSeed_1 at h
  refine q_iload C dX10_hasSeed_5 rfl ?_
  refine q_aload_n C dX10_hasSeed_7 rfl ?_
  have s1 := h.1
  replace h := h.2
  refine q_getP C fl_RX10_9 rfl s1 dX10_hasSeed_8 ?_
  refine q_iconst (v := 0) C dX10_hasSeed_11 (by decide) ?_
  have s2 := h.1
  replace h := h.2
  have s3 := h.1
  replace h := h.2
  refine q_iald C s2 s3 dX10_hasSeed_12 ?_
  refine q_icmp_ge (tgt := 52) C dX10_hasSeed_13 (by decide) (fun c4 => ?_) (fun c4 => ?_)
  · replace h := h.1 c4
    refine q_iload_n C dX10_hasSeed_52 rfl ?_
    refine q_if_eq (tgt := 64) C dX10_hasSeed_53 (by decide) (fun c5 => ?_) (fun c5 => ?_)
    · replace h := h.1 c5
      refine q_iconst (v := 0) C dX10_hasSeed_64 (by decide) ?_
      exact q_zret C hk (Or.inl rfl) dX10_hasSeed_65 ⟨rfl, h⟩
    · replace h := h.2 c5
      refine q_iload_n C dX10_hasSeed_56 rfl ?_
      refine q_if_le (tgt := 64) C dX10_hasSeed_57 (by decide) (fun c6 => ?_) (fun c6 => ?_)
      · replace h := h.1 c6
        refine q_iconst (v := 0) C dX10_hasSeed_64 (by decide) ?_
        exact q_zret C hk (Or.inl rfl) dX10_hasSeed_65 ⟨rfl, h⟩
      · replace h := h.2 c6
        refine q_iconst (v := 1) C dX10_hasSeed_60 (by decide) ?_
        refine q_goto (tgt := 65) C dX10_hasSeed_61 (by decide) ?_
        exact q_zret C hk (Or.inr rfl) dX10_hasSeed_65 ⟨rfl, h⟩
  · replace h := h.2 c4
    refine q_iload_n C dX10_hasSeed_16 rfl ?_
    refine q_if_ne (tgt := 40) C dX10_hasSeed_17 (by decide) (fun c7 => ?_) (fun c7 => ?_)
    · replace h := h.1 c7
      refine q_iconst (v := 1) C dX10_hasSeed_40 (by decide) ?_
      refine q_goto (tgt := 45) C dX10_hasSeed_41 (by decide) ?_
      refine q_istore_n (lo1 := [some (.ref a0), some (.int x1), some (.int x2), some (.int 1), some (.int x4)]) C dX10_hasSeed_45 (by decide) rfl ?_
      refine q_iinc (w := 1) (lo1 := [some (.ref a0), some (.int x1), some (.int x2), some (.int 1), some (.int (x4 + 1))]) C dX10_hasSeed_46 rfl (by decide) (by decide) rfl ?_
      refine q_goto (tgt := 5) C dX10_hasSeed_49 (by decide) ?_
      exact hT1 _ _ _ _ _ h
    · replace h := h.2 c7
      refine q_iload C dX10_hasSeed_20 rfl ?_
      refine q_iload_n C dX10_hasSeed_22 rfl ?_
      refine q_icmp_eq (tgt := 44) C dX10_hasSeed_23 (by decide) (fun c8 => ?_) (fun c8 => ?_)
      · replace h := h.1 c8
        refine q_iconst (v := 0) C dX10_hasSeed_44 (by decide) ?_
        refine q_istore_n (lo1 := [some (.ref a0), some (.int x1), some (.int x2), some (.int 0), some (.int x4)]) C dX10_hasSeed_45 (by decide) rfl ?_
        refine q_iinc (w := 1) (lo1 := [some (.ref a0), some (.int x1), some (.int x2), some (.int 0), some (.int (x4 + 1))]) C dX10_hasSeed_46 rfl (by decide) (by decide) rfl ?_
        refine q_goto (tgt := 5) C dX10_hasSeed_49 (by decide) ?_
        exact hT1 _ _ _ _ _ h
      · replace h := h.2 c8
        refine q_aload_n C dX10_hasSeed_26 rfl ?_
        refine q_getP C fl_RX10_9 rfl s1 dX10_hasSeed_27 ?_
        refine q_bipush (v := 25) C dX10_hasSeed_30 (by decide) ?_
        refine q_iload C dX10_hasSeed_32 rfl ?_
        refine q_iadd C dX10_hasSeed_34 ?_
        have s9 := h.1
        replace h := h.2
        refine q_iald C s2 s9 dX10_hasSeed_35 ?_
        refine q_iload_n C dX10_hasSeed_36 rfl ?_
        refine q_icmp_ne (tgt := 44) C dX10_hasSeed_37 (by decide) (fun c10 => ?_) (fun c10 => ?_)
        · replace h := h.1 c10
          refine q_iconst (v := 0) C dX10_hasSeed_44 (by decide) ?_
          refine q_istore_n (lo1 := [some (.ref a0), some (.int x1), some (.int x2), some (.int 0), some (.int x4)]) C dX10_hasSeed_45 (by decide) rfl ?_
          refine q_iinc (w := 1) (lo1 := [some (.ref a0), some (.int x1), some (.int x2), some (.int 0), some (.int (x4 + 1))]) C dX10_hasSeed_46 rfl (by decide) (by decide) rfl ?_
          refine q_goto (tgt := 5) C dX10_hasSeed_49 (by decide) ?_
          exact hT1 _ _ _ _ _ h
        · replace h := h.2 c10
          refine q_iconst (v := 1) C dX10_hasSeed_40 (by decide) ?_
          refine q_goto (tgt := 45) C dX10_hasSeed_41 (by decide) ?_
          refine q_istore_n (lo1 := [some (.ref a0), some (.int x1), some (.int x2), some (.int 1), some (.int x4)]) C dX10_hasSeed_45 (by decide) rfl ?_
          refine q_iinc (w := 1) (lo1 := [some (.ref a0), some (.int x1), some (.int x2), some (.int 1), some (.int (x4 + 1))]) C dX10_hasSeed_46 rfl (by decide) (by decide) rfl ?_
          refine q_goto (tgt := 5) C dX10_hasSeed_49 (by decide) ?_
          exact hT1 _ _ _ _ _ h
theorem sp_X10_hasSeed {d : Nat} {sh : List qSh} {K : Option Value → qMI → qML → qMP → Prop} {a0 : Nat} {x1 : Int32} {x2 : Int32} {I : qMI} {L : qML} {P : qMP} (T1 : Int32 → Int32 → qMI → qML → qMP → Prop) (m1 : Int32 → Int32 → qMI → qML → qMP → Nat) (h0 : vc_X10_hasSeed_0 d sh K T1 a0 x1 x2 I L P)
    (h1 : ∀ (x3 : Int32) (x4 : Int32) (I : qMI) (L : qML) (P : qMP), T1 x3 x4 I L P → vc_X10_hasSeed_1 d sh K (fun w0 w1 I' L' P' => T1 w0 w1 I' L' P' ∧ m1 w0 w1 I' L' P' < m1 x3 x4 I L P) a0 x1 x2 x3 x4 I L P) : Sq (d + 1) mX10_hasSeed sh [.ref a0, .int x1, .int x2] I L P K := by
  refine Sq_of (by decide +kernel) (Nat.le_of_ble_eq_true rfl) (fun X C hk hn => ?_)
  have go : ∀ N : Nat, (∀ (x3 : Int32) (x4 : Int32) (I : qMI) (L : qML) (P : qMP), T1 x3 x4 I L P → m1 x3 x4 I L P < N → qG X 5 [some (.ref a0), some (.int x1), some (.int x2), some (.int x3), some (.int x4)] [] sh I L P 0 0) := by
    intro N
    induction N with
    | zero => exact fun _ _ _ _ _ _ q => absurd q (Nat.not_lt_zero _)
    | succ N ih =>
      exact fun b0 b1 I1 L1 P1 t q => rg_X10_hasSeed_1 C hk (fun z0 z1 I2 L2 P2 z => ih z0 z1 I2 L2 P2 z.1 (Nat.lt_of_lt_of_le z.2 (Nat.le_of_lt_succ q))) (h1 b0 b1 I1 L1 P1 t)
  exact rg_X10_hasSeed_0 C hk (fun b0 b1 I1 L1 P1 t => (go (m1 b0 b1 I1 L1 P1 + 1)) b0 b1 I1 L1 P1 t (Nat.lt_succ_self _)) h0
/-! BracketDrawsModel.comes(IIII)V -/
def vc_X10_comes_0 (d : Nat) (sh : List qSh) (K : Option Value → qMI → qML → qMP → Prop) (a0 : Nat) (x1 : Int32) (x2 : Int32) (x3 : Int32) (x4 : Int32) (I : qMI) (L : qML) (P : qMP) : Prop :=
  ((shp sh a0).1 = 10) ∧ (((shp sh (P a0 0)).1 = 20) ∧ ((vp_in 0 (shp sh (P a0 0)).2) ∧ ((vp_in (5 + (I (P a0 0) (Int32.toNatClampNeg 0))) (shp sh (P a0 0)).2) ∧ (∀ I5 : qMI, I5 = uI I (P a0 0) (Int32.toNatClampNeg (5 + (I (P a0 0) (Int32.toNatClampNeg 0)))) x1 → ((vp_in (15 + (I (P a0 0) (Int32.toNatClampNeg 0))) (shp sh (P a0 0)).2) ∧ (∀ I7 : qMI, I7 = uI I5 (P a0 0) (Int32.toNatClampNeg (15 + (I (P a0 0) (Int32.toNatClampNeg 0)))) x2 → ((vp_in (25 + (I (P a0 0) (Int32.toNatClampNeg 0))) (shp sh (P a0 0)).2) ∧ (∀ I9 : qMI, I9 = uI I7 (P a0 0) (Int32.toNatClampNeg (25 + (I (P a0 0) (Int32.toNatClampNeg 0)))) x3 → ((vp_in (35 + (I (P a0 0) (Int32.toNatClampNeg 0))) (shp sh (P a0 0)).2) ∧ (∀ I11 : qMI, I11 = uI I9 (P a0 0) (Int32.toNatClampNeg (35 + (I (P a0 0) (Int32.toNatClampNeg 0)))) x4 → (∀ I12 : qMI, I12 = uI I11 (P a0 0) (Int32.toNatClampNeg 0) ((I11 (P a0 0) (Int32.toNatClampNeg 0)) + 1) → (Sq d mX10_noDraw sh [.ref a0] I12 L P (KV fun I13 L14 P15 => ∀ I16 : qMI, I16 = uI I13 a0 4 0 → (∀ I17 : qMI, I17 = uI I16 a0 5 0 → (K none I17 L14 P15)))))))))))))))
set_option maxRecDepth 100000 in
set_option maxHeartbeats 4000000 in
theorem rg_X10_comes_0 {X : qCT} {d : Nat} {sh : List qSh} {K : Option Value → qMI → qML → qMP → Prop} {a0 : Nat} {x1 : Int32} {x2 : Int32} {x3 : Int32} {x4 : Int32} {I : qMI} {L : qML} {P : qMP} (C : qCB X RX10 cX10_comes 6 (d + 1) 0 0) (hk : qCK X (none) 0 0 (fun v sh' I' L' P' => sh' = sh ∧ K v I' L' P')) (h : vc_X10_comes_0 d sh K a0 x1 x2 x3 x4 I L P) : qG X 0 [some (.ref a0), some (.int x1), some (.int x2), some (.int x3), some (.int x4), none] [] sh I L P 0 0 := by
  unfold vc_X10_comes_0 at h
  refine q_aload_n C dX10_comes_0 rfl ?_
  have s1 := h.1
  replace h := h.2
  refine q_getP C fl_RX10_9 rfl s1 dX10_comes_1 ?_
  refine q_iconst (v := 0) C dX10_comes_4 (by decide) ?_
  have s2 := h.1
  replace h := h.2
  have s3 := h.1
  replace h := h.2
  refine q_iald C s2 s3 dX10_comes_5 ?_
  refine q_istore (lo1 := [some (.ref a0), some (.int x1), some (.int x2), some (.int x3), some (.int x4), some (.int (I (P a0 0) (Int32.toNatClampNeg 0)))]) C dX10_comes_6 (by decide) rfl ?_
  refine q_aload_n C dX10_comes_8 rfl ?_
  refine q_getP C fl_RX10_9 rfl s1 dX10_comes_9 ?_
  refine q_iconst (v := 5) C dX10_comes_12 (by decide) ?_
  refine q_iload C dX10_comes_13 rfl ?_
  refine q_iadd C dX10_comes_15 ?_
  refine q_iload_n C dX10_comes_16 rfl ?_
  have s4 := h.1
  replace h := h.2
  refine q_iast C s2 s4 dX10_comes_17 (fun I5 eI5 => ?_)
  replace h := h I5 eI5
  refine q_aload_n C dX10_comes_18 rfl ?_
  refine q_getP C fl_RX10_9 rfl s1 dX10_comes_19 ?_
  refine q_bipush (v := 15) C dX10_comes_22 (by decide) ?_
  refine q_iload C dX10_comes_24 rfl ?_
  refine q_iadd C dX10_comes_26 ?_
  refine q_iload_n C dX10_comes_27 rfl ?_
  have s6 := h.1
  replace h := h.2
  refine q_iast C s2 s6 dX10_comes_28 (fun I7 eI7 => ?_)
  replace h := h I7 eI7
  refine q_aload_n C dX10_comes_29 rfl ?_
  refine q_getP C fl_RX10_9 rfl s1 dX10_comes_30 ?_
  refine q_bipush (v := 25) C dX10_comes_33 (by decide) ?_
  refine q_iload C dX10_comes_35 rfl ?_
  refine q_iadd C dX10_comes_37 ?_
  refine q_iload_n C dX10_comes_38 rfl ?_
  have s8 := h.1
  replace h := h.2
  refine q_iast C s2 s8 dX10_comes_39 (fun I9 eI9 => ?_)
  replace h := h I9 eI9
  refine q_aload_n C dX10_comes_40 rfl ?_
  refine q_getP C fl_RX10_9 rfl s1 dX10_comes_41 ?_
  refine q_bipush (v := 35) C dX10_comes_44 (by decide) ?_
  refine q_iload C dX10_comes_46 rfl ?_
  refine q_iadd C dX10_comes_48 ?_
  refine q_iload C dX10_comes_49 rfl ?_
  have s10 := h.1
  replace h := h.2
  refine q_iast C s2 s10 dX10_comes_51 (fun I11 eI11 => ?_)
  replace h := h I11 eI11
  refine q_aload_n C dX10_comes_52 rfl ?_
  refine q_getP C fl_RX10_9 rfl s1 dX10_comes_53 ?_
  refine q_iconst (v := 0) C dX10_comes_56 (by decide) ?_
  refine q_dup2 C dX10_comes_57 rfl rfl ?_
  refine q_iald C s2 s3 dX10_comes_58 ?_
  refine q_iconst (v := 1) C dX10_comes_59 (by decide) ?_
  refine q_iadd C dX10_comes_60 ?_
  refine q_iast C s2 s3 dX10_comes_61 (fun I12 eI12 => ?_)
  replace h := h I12 eI12
  refine q_aload_n C dX10_comes_62 rfl ?_
  refine q_cVv (as := []) (st := []) (r := a0) C mv_X10_noDraw ml_RX10_95 dX10_comes_63 rfl s1 rfl (Nat.le_of_ble_eq_true rfl) ⟨Nat.le_refl _, Nat.le_refl _⟩ h (fun I13 L14 P15 h => ?_)
  refine q_aload_n C dX10_comes_66 rfl ?_
  refine q_iconst (v := 0) C dX10_comes_67 (by decide) ?_
  refine q_putI C fl_RX10_81 (fun T hT => by cases hT; rfl) rfl s1 dX10_comes_68 (fun I16 eI16 => ?_)
  replace h := h I16 eI16
  refine q_aload_n C dX10_comes_71 rfl ?_
  refine q_iconst (v := 0) C dX10_comes_72 (by decide) ?_
  refine q_putI C fl_RX10_89 (fun T hT => by cases hT; rfl) rfl s1 dX10_comes_73 (fun I17 eI17 => ?_)
  replace h := h I17 eI17
  exact q_vret C hk dX10_comes_76 ⟨rfl, h⟩
theorem sp_X10_comes {d : Nat} {sh : List qSh} {K : Option Value → qMI → qML → qMP → Prop} {a0 : Nat} {x1 : Int32} {x2 : Int32} {x3 : Int32} {x4 : Int32} {I : qMI} {L : qML} {P : qMP} (h0 : vc_X10_comes_0 d sh K a0 x1 x2 x3 x4 I L P) : Sq (d + 1) mX10_comes sh [.ref a0, .int x1, .int x2, .int x3, .int x4] I L P K := by
  refine Sq_of (by decide +kernel) (Nat.le_of_ble_eq_true rfl) (fun X C hk hn => ?_)
  exact rg_X10_comes_0 C hk h0
/-! BracketDrawsModel.player(IIII)I -/
def vc_X10_player_0 (d : Nat) (sh : List qSh) (K : Option Value → qMI → qML → qMP → Prop) (a0 : Nat) (x1 : Int32) (x2 : Int32) (x3 : Int32) (x4 : Int32) (I : qMI) (L : qML) (P : qMP) : Prop :=
  Sq d mX10_in sh [.long (Int32.toInt64 x1), .long 0, .long 5] I L P (KI fun r1 I2 L3 P4 => ((r1 = 0) → (K (some (.int ((-1)))) I2 L3 P4)) ∧ ((¬ r1 = 0) → (Sq d mX10_in sh [.long (Int32.toInt64 x2), .long 0, .long 3] I2 L3 P4 (KI fun r6 I7 L8 P9 => ((r6 = 0) → (K (some (.int ((-1)))) I7 L8 P9)) ∧ ((¬ r6 = 0) → (Sq d mX10_in sh [.long (Int32.toInt64 x3), .long 0, .long 8] I7 L8 P9 (KI fun r11 I12 L13 P14 => ((r11 = 0) → (K (some (.int ((-1)))) I12 L13 P14)) ∧ ((¬ r11 = 0) → (Sq d mX10_in sh [.long (Int32.toInt64 x4), .long 0, .long 99] I12 L13 P14 (KI fun r16 I17 L18 P19 => ((r16 = 0) → (K (some (.int ((-1)))) I17 L18 P19)) ∧ ((¬ r16 = 0) → (((shp sh a0).1 = 10) ∧ (Sq d mX10_hasSeed sh [.ref a0, .int x3, .int ((-2))] I17 L18 P19 (KI fun r22 I23 L24 P25 => ((r22 = 0) → (((shp sh (P25 a0 0)).1 = 20) ∧ ((vp_in 0 (shp sh (P25 a0 0)).2) ∧ (((¬ (I23 (P25 a0 0) (Int32.toNatClampNeg 0)) = 10) → (Sq d mX10_comes sh [.ref a0, .int x1, .int x2, .int x3, .int x4] I23 L24 P25 (KV fun I30 L31 P32 => ((shp sh (P32 a0 0)).1 = 20) ∧ ((vp_in 0 (shp sh (P32 a0 0)).2) ∧ (K (some (.int ((I30 (P32 a0 0) (Int32.toNatClampNeg 0)) - 1))) I30 L31 P32))))) ∧ (((I23 (P25 a0 0) (Int32.toNatClampNeg 0)) = 10) → (K (some (.int ((-3)))) I23 L24 P25)))))) ∧ ((¬ r22 = 0) → (K (some (.int ((-1)))) I23 L24 P25))))))))))))))))
set_option maxRecDepth 100000 in
set_option maxHeartbeats 4000000 in
theorem rg_X10_player_0 {X : qCT} {d : Nat} {sh : List qSh} {K : Option Value → qMI → qML → qMP → Prop} {a0 : Nat} {x1 : Int32} {x2 : Int32} {x3 : Int32} {x4 : Int32} {I : qMI} {L : qML} {P : qMP} (C : qCB X RX10 cX10_player 5 (d + 1) 0 0) (hk : qCK X (some .int) 0 0 (fun v sh' I' L' P' => sh' = sh ∧ K v I' L' P')) (h : vc_X10_player_0 d sh K a0 x1 x2 x3 x4 I L P) : qG X 0 [some (.ref a0), some (.int x1), some (.int x2), some (.int x3), some (.int x4)] [] sh I L P 0 0 := by
  unfold vc_X10_player_0 at h
  refine q_iload_n C dX10_player_0 rfl ?_
  refine q_i2l C dX10_player_1 ?_
  refine q_lconst (v := 0) C dX10_player_2 (by decide) ?_
  refine q_ldc2 C kl_RX10_98 dX10_player_3 ?_
  refine q_cSi (as := [.long (Int32.toInt64 x1), .long 0, .long 5]) (st := []) C ms_X10_in ml_RX10_63 dX10_player_6 rfl rfl (Nat.le_of_ble_eq_true rfl) ⟨Nat.le_refl _, Nat.le_refl _⟩ h (fun r1 I2 L3 P4 h => ?_)
  refine q_if_eq (tgt := 59) C dX10_player_9 (by decide) (fun c5 => ?_) (fun c5 => ?_)
  · replace h := h.1 c5
    refine q_iconst (v := (-1)) C dX10_player_59 (by decide) ?_
    exact q_iret C hk dX10_player_60 ⟨rfl, h⟩
  · replace h := h.2 c5
    refine q_iload_n C dX10_player_12 rfl ?_
    refine q_i2l C dX10_player_13 ?_
    refine q_lconst (v := 0) C dX10_player_14 (by decide) ?_
    refine q_ldc2 C kl_RX10_100 dX10_player_15 ?_
    refine q_cSi (as := [.long (Int32.toInt64 x2), .long 0, .long 3]) (st := []) C ms_X10_in ml_RX10_63 dX10_player_18 rfl rfl (Nat.le_of_ble_eq_true rfl) ⟨Nat.le_refl _, Nat.le_refl _⟩ h (fun r6 I7 L8 P9 h => ?_)
    refine q_if_eq (tgt := 59) C dX10_player_21 (by decide) (fun c10 => ?_) (fun c10 => ?_)
    · replace h := h.1 c10
      refine q_iconst (v := (-1)) C dX10_player_59 (by decide) ?_
      exact q_iret C hk dX10_player_60 ⟨rfl, h⟩
    · replace h := h.2 c10
      refine q_iload_n C dX10_player_24 rfl ?_
      refine q_i2l C dX10_player_25 ?_
      refine q_lconst (v := 0) C dX10_player_26 (by decide) ?_
      refine q_ldc2 C kl_RX10_102 dX10_player_27 ?_
      refine q_cSi (as := [.long (Int32.toInt64 x3), .long 0, .long 8]) (st := []) C ms_X10_in ml_RX10_63 dX10_player_30 rfl rfl (Nat.le_of_ble_eq_true rfl) ⟨Nat.le_refl _, Nat.le_refl _⟩ h (fun r11 I12 L13 P14 h => ?_)
      refine q_if_eq (tgt := 59) C dX10_player_33 (by decide) (fun c15 => ?_) (fun c15 => ?_)
      · replace h := h.1 c15
        refine q_iconst (v := (-1)) C dX10_player_59 (by decide) ?_
        exact q_iret C hk dX10_player_60 ⟨rfl, h⟩
      · replace h := h.2 c15
        refine q_iload C dX10_player_36 rfl ?_
        refine q_i2l C dX10_player_38 ?_
        refine q_lconst (v := 0) C dX10_player_39 (by decide) ?_
        refine q_ldc2 C kl_RX10_104 dX10_player_40 ?_
        refine q_cSi (as := [.long (Int32.toInt64 x4), .long 0, .long 99]) (st := []) C ms_X10_in ml_RX10_63 dX10_player_43 rfl rfl (Nat.le_of_ble_eq_true rfl) ⟨Nat.le_refl _, Nat.le_refl _⟩ h (fun r16 I17 L18 P19 h => ?_)
        refine q_if_eq (tgt := 59) C dX10_player_46 (by decide) (fun c20 => ?_) (fun c20 => ?_)
        · replace h := h.1 c20
          refine q_iconst (v := (-1)) C dX10_player_59 (by decide) ?_
          exact q_iret C hk dX10_player_60 ⟨rfl, h⟩
        · replace h := h.2 c20
          refine q_aload_n C dX10_player_49 rfl ?_
          refine q_iload_n C dX10_player_50 rfl ?_
          refine q_bipush (v := (-2)) C dX10_player_51 (by decide) ?_
          have s21 := h.1
          replace h := h.2
          refine q_cVi (as := [.int x3, .int ((-2))]) (st := []) (r := a0) C mv_X10_hasSeed ml_RX10_106 dX10_player_53 rfl s21 rfl (Nat.le_of_ble_eq_true rfl) ⟨Nat.le_refl _, Nat.le_refl _⟩ h (fun r22 I23 L24 P25 h => ?_)
          refine q_if_eq (tgt := 61) C dX10_player_56 (by decide) (fun c26 => ?_) (fun c26 => ?_)
          · replace h := h.1 c26
            refine q_aload_n C dX10_player_61 rfl ?_
            refine q_getP C fl_RX10_9 rfl s21 dX10_player_62 ?_
            refine q_iconst (v := 0) C dX10_player_65 (by decide) ?_
            have s27 := h.1
            replace h := h.2
            have s28 := h.1
            replace h := h.2
            refine q_iald C s27 s28 dX10_player_66 ?_
            refine q_bipush (v := 10) C dX10_player_67 (by decide) ?_
            refine q_icmp_ne (tgt := 75) C dX10_player_69 (by decide) (fun c29 => ?_) (fun c29 => ?_)
            · replace h := h.1 c29
              refine q_aload_n C dX10_player_75 rfl ?_
              refine q_iload_n C dX10_player_76 rfl ?_
              refine q_iload_n C dX10_player_77 rfl ?_
              refine q_iload_n C dX10_player_78 rfl ?_
              refine q_iload C dX10_player_79 rfl ?_
              refine q_cVv (as := [.int x1, .int x2, .int x3, .int x4]) (st := []) (r := a0) C mv_X10_comes ml_RX10_110 dX10_player_81 rfl s21 rfl (Nat.le_of_ble_eq_true rfl) ⟨Nat.le_refl _, Nat.le_refl _⟩ h (fun I30 L31 P32 h => ?_)
              refine q_aload_n C dX10_player_84 rfl ?_
              refine q_getP C fl_RX10_9 rfl s21 dX10_player_85 ?_
              refine q_iconst (v := 0) C dX10_player_88 (by decide) ?_
              have s33 := h.1
              replace h := h.2
              have s34 := h.1
              replace h := h.2
              refine q_iald C s33 s34 dX10_player_89 ?_
              refine q_iconst (v := 1) C dX10_player_90 (by decide) ?_
              refine q_isub C dX10_player_91 ?_
              exact q_iret C hk dX10_player_92 ⟨rfl, h⟩
            · replace h := h.2 c29
              refine q_bipush (v := (-3)) C dX10_player_72 (by decide) ?_
              exact q_iret C hk dX10_player_74 ⟨rfl, h⟩
          · replace h := h.2 c26
            refine q_iconst (v := (-1)) C dX10_player_59 (by decide) ?_
            exact q_iret C hk dX10_player_60 ⟨rfl, h⟩
theorem sp_X10_player {d : Nat} {sh : List qSh} {K : Option Value → qMI → qML → qMP → Prop} {a0 : Nat} {x1 : Int32} {x2 : Int32} {x3 : Int32} {x4 : Int32} {I : qMI} {L : qML} {P : qMP} (h0 : vc_X10_player_0 d sh K a0 x1 x2 x3 x4 I L P) : Sq (d + 1) mX10_player sh [.ref a0, .int x1, .int x2, .int x3, .int x4] I L P K := by
  refine Sq_of (by decide +kernel) (Nat.le_of_ble_eq_true rfl) (fun X C hk hn => ?_)
  exact rg_X10_player_0 C hk h0
/-! BracketDrawsModel.placeOf(I)I -/
def vc_X10_placeOf_0 (d : Nat) (sh : List qSh) (K : Option Value → qMI → qML → qMP → Prop) (x0 : Int32) (I : qMI) (L : qML) (P : qMP) : Prop :=
  ((¬ x0 = 0) → (((¬ x0 = 1) → (((¬ x0 = 2) → (K (some (.int 35)) I L P)) ∧ ((x0 = 2) → (K (some (.int 25)) I L P)))) ∧ ((x0 = 1) → (K (some (.int 15)) I L P)))) ∧ ((x0 = 0) → (K (some (.int 5)) I L P))
set_option maxRecDepth 100000 in
set_option maxHeartbeats 4000000 in
theorem rg_X10_placeOf_0 {X : qCT} {d : Nat} {sh : List qSh} {K : Option Value → qMI → qML → qMP → Prop} {x0 : Int32} {I : qMI} {L : qML} {P : qMP} (C : qCB X RX10 cX10_placeOf 1 (d + 1) 0 0) (hk : qCK X (some .int) 0 0 (fun v sh' I' L' P' => sh' = sh ∧ K v I' L' P')) (h : vc_X10_placeOf_0 d sh K x0 I L P) : qG X 0 [some (.int x0)] [] sh I L P 0 0 := by
  unfold vc_X10_placeOf_0 at h
  refine q_iload_n C dX10_placeOf_0 rfl ?_
  refine q_if_ne (tgt := 8) C dX10_placeOf_1 (by decide) (fun c1 => ?_) (fun c1 => ?_)
  · replace h := h.1 c1
    refine q_iload_n C dX10_placeOf_8 rfl ?_
    refine q_iconst (v := 1) C dX10_placeOf_9 (by decide) ?_
    refine q_icmp_ne (tgt := 18) C dX10_placeOf_10 (by decide) (fun c2 => ?_) (fun c2 => ?_)
    · replace h := h.1 c2
      refine q_iload_n C dX10_placeOf_18 rfl ?_
      refine q_iconst (v := 2) C dX10_placeOf_19 (by decide) ?_
      refine q_icmp_ne (tgt := 28) C dX10_placeOf_20 (by decide) (fun c3 => ?_) (fun c3 => ?_)
      · replace h := h.1 c3
        refine q_bipush (v := 35) C dX10_placeOf_28 (by decide) ?_
        exact q_iret C hk dX10_placeOf_30 ⟨rfl, h⟩
      · replace h := h.2 c3
        refine q_bipush (v := 25) C dX10_placeOf_23 (by decide) ?_
        refine q_goto (tgt := 30) C dX10_placeOf_25 (by decide) ?_
        exact q_iret C hk dX10_placeOf_30 ⟨rfl, h⟩
    · replace h := h.2 c2
      refine q_bipush (v := 15) C dX10_placeOf_13 (by decide) ?_
      refine q_goto (tgt := 30) C dX10_placeOf_15 (by decide) ?_
      exact q_iret C hk dX10_placeOf_30 ⟨rfl, h⟩
  · replace h := h.2 c1
    refine q_iconst (v := 5) C dX10_placeOf_4 (by decide) ?_
    refine q_goto (tgt := 30) C dX10_placeOf_5 (by decide) ?_
    exact q_iret C hk dX10_placeOf_30 ⟨rfl, h⟩
theorem sp_X10_placeOf {d : Nat} {sh : List qSh} {K : Option Value → qMI → qML → qMP → Prop} {x0 : Int32} {I : qMI} {L : qML} {P : qMP} (h0 : vc_X10_placeOf_0 d sh K x0 I L P) : Sq (d + 1) mX10_placeOf sh [.int x0] I L P K := by
  refine Sq_of (by decide +kernel) (Nat.le_of_ble_eq_true rfl) (fun X C hk hn => ?_)
  exact rg_X10_placeOf_0 C hk h0
/-! BracketDrawsModel.mostOf(I)I -/
def vc_X10_mostOf_0 (d : Nat) (sh : List qSh) (K : Option Value → qMI → qML → qMP → Prop) (x0 : Int32) (I : qMI) (L : qML) (P : qMP) : Prop :=
  ((¬ x0 = 0) → (((¬ x0 = 1) → (((¬ x0 = 2) → (K (some (.int 99)) I L P)) ∧ ((x0 = 2) → (K (some (.int 8)) I L P)))) ∧ ((x0 = 1) → (K (some (.int 3)) I L P)))) ∧ ((x0 = 0) → (K (some (.int 5)) I L P))
set_option maxRecDepth 100000 in
set_option maxHeartbeats 4000000 in
theorem rg_X10_mostOf_0 {X : qCT} {d : Nat} {sh : List qSh} {K : Option Value → qMI → qML → qMP → Prop} {x0 : Int32} {I : qMI} {L : qML} {P : qMP} (C : qCB X RX10 cX10_mostOf 1 (d + 1) 0 0) (hk : qCK X (some .int) 0 0 (fun v sh' I' L' P' => sh' = sh ∧ K v I' L' P')) (h : vc_X10_mostOf_0 d sh K x0 I L P) : qG X 0 [some (.int x0)] [] sh I L P 0 0 := by
  unfold vc_X10_mostOf_0 at h
  refine q_iload_n C dX10_mostOf_0 rfl ?_
  refine q_if_ne (tgt := 8) C dX10_mostOf_1 (by decide) (fun c1 => ?_) (fun c1 => ?_)
  · replace h := h.1 c1
    refine q_iload_n C dX10_mostOf_8 rfl ?_
    refine q_iconst (v := 1) C dX10_mostOf_9 (by decide) ?_
    refine q_icmp_ne (tgt := 17) C dX10_mostOf_10 (by decide) (fun c2 => ?_) (fun c2 => ?_)
    · replace h := h.1 c2
      refine q_iload_n C dX10_mostOf_17 rfl ?_
      refine q_iconst (v := 2) C dX10_mostOf_18 (by decide) ?_
      refine q_icmp_ne (tgt := 27) C dX10_mostOf_19 (by decide) (fun c3 => ?_) (fun c3 => ?_)
      · replace h := h.1 c3
        refine q_bipush (v := 99) C dX10_mostOf_27 (by decide) ?_
        exact q_iret C hk dX10_mostOf_29 ⟨rfl, h⟩
      · replace h := h.2 c3
        refine q_bipush (v := 8) C dX10_mostOf_22 (by decide) ?_
        refine q_goto (tgt := 29) C dX10_mostOf_24 (by decide) ?_
        exact q_iret C hk dX10_mostOf_29 ⟨rfl, h⟩
    · replace h := h.2 c2
      refine q_iconst (v := 3) C dX10_mostOf_13 (by decide) ?_
      refine q_goto (tgt := 29) C dX10_mostOf_14 (by decide) ?_
      exact q_iret C hk dX10_mostOf_29 ⟨rfl, h⟩
  · replace h := h.2 c1
    refine q_iconst (v := 5) C dX10_mostOf_4 (by decide) ?_
    refine q_goto (tgt := 29) C dX10_mostOf_5 (by decide) ?_
    exact q_iret C hk dX10_mostOf_29 ⟨rfl, h⟩
theorem sp_X10_mostOf {d : Nat} {sh : List qSh} {K : Option Value → qMI → qML → qMP → Prop} {x0 : Int32} {I : qMI} {L : qML} {P : qMP} (h0 : vc_X10_mostOf_0 d sh K x0 I L P) : Sq (d + 1) mX10_mostOf sh [.int x0] I L P K := by
  refine Sq_of (by decide +kernel) (Nat.le_of_ble_eq_true rfl) (fun X C hk hn => ?_)
  exact rg_X10_mostOf_0 C hk h0
/-! BracketDrawsModel.tell(III)I -/
def vc_X10_tell_0 (d : Nat) (sh : List qSh) (K : Option Value → qMI → qML → qMP → Prop) (a0 : Nat) (x1 : Int32) (x2 : Int32) (x3 : Int32) (I : qMI) (L : qML) (P : qMP) : Prop :=
  ((shp sh a0).1 = 10) ∧ (Sq d mX10_isPlayer sh [.ref a0, .int x1] I L P (KI fun r2 I3 L4 P5 => ((r2 = 0) → (K (some (.int ((-1)))) I3 L4 P5)) ∧ ((¬ r2 = 0) → (Sq d mX10_in sh [.long (Int32.toInt64 x2), .long 0, .long 3] I3 L4 P5 (KI fun r7 I8 L9 P10 => ((r7 = 0) → (K (some (.int ((-1)))) I8 L9 P10)) ∧ ((¬ r7 = 0) → (Sq d mX10_mostOf sh [.int x2] I8 L9 P10 (KI fun r12 I13 L14 P15 => Sq d mX10_in sh [.long (Int32.toInt64 x3), .long 0, .long (Int32.toInt64 r12)] I13 L14 P15 (KI fun r16 I17 L18 P19 => ((r16 = 0) → (K (some (.int ((-1)))) I17 L18 P19)) ∧ ((¬ r16 = 0) → (((¬ x2 = 2) → (Sq d mX10_changes sh [.ref a0] I17 L18 P19 (KV fun I22 L23 P24 => Sq d mX10_placeOf sh [.int x2] I22 L23 P24 (KI fun r25 I26 L27 P28 => ((shp sh (P28 a0 0)).1 = 20) ∧ ((vp_in (r25 + x1) (shp sh (P28 a0 0)).2) ∧ (∀ I31 : qMI, I31 = uI I26 (P28 a0 0) (Int32.toNatClampNeg (r25 + x1)) x3 → (((3 ≤ x2) → (K (some (.int (I26 (P28 a0 0) (Int32.toNatClampNeg (r25 + x1))))) I31 L27 P28)) ∧ ((¬ 3 ≤ x2) → (Sq d mX10_noDraw sh [.ref a0] I31 L27 P28 (KV fun I33 L34 P35 => K (some (.int (I26 (P28 a0 0) (Int32.toNatClampNeg (r25 + x1))))) I33 L34 P35)))))))))) ∧ ((x2 = 2) → (Sq d mX10_hasSeed sh [.ref a0, .int x3, .int x1] I17 L18 P19 (KI fun r36 I37 L38 P39 => ((r36 = 0) → (Sq d mX10_changes sh [.ref a0] I37 L38 P39 (KV fun I41 L42 P43 => Sq d mX10_placeOf sh [.int x2] I41 L42 P43 (KI fun r44 I45 L46 P47 => ((shp sh (P47 a0 0)).1 = 20) ∧ ((vp_in (r44 + x1) (shp sh (P47 a0 0)).2) ∧ (∀ I50 : qMI, I50 = uI I45 (P47 a0 0) (Int32.toNatClampNeg (r44 + x1)) x3 → (((3 ≤ x2) → (K (some (.int (I45 (P47 a0 0) (Int32.toNatClampNeg (r44 + x1))))) I50 L46 P47)) ∧ ((¬ 3 ≤ x2) → (Sq d mX10_noDraw sh [.ref a0] I50 L46 P47 (KV fun I52 L53 P54 => K (some (.int (I45 (P47 a0 0) (Int32.toNatClampNeg (r44 + x1))))) I52 L53 P54)))))))))) ∧ ((¬ r36 = 0) → (K (some (.int ((-1)))) I37 L38 P39))))))))))))))))
set_option maxRecDepth 100000 in
set_option maxHeartbeats 4000000 in
theorem rg_X10_tell_0 {X : qCT} {d : Nat} {sh : List qSh} {K : Option Value → qMI → qML → qMP → Prop} {a0 : Nat} {x1 : Int32} {x2 : Int32} {x3 : Int32} {I : qMI} {L : qML} {P : qMP} (C : qCB X RX10 cX10_tell 6 (d + 1) 0 0) (hk : qCK X (some .int) 0 0 (fun v sh' I' L' P' => sh' = sh ∧ K v I' L' P')) (h : vc_X10_tell_0 d sh K a0 x1 x2 x3 I L P) : qG X 0 [some (.ref a0), some (.int x1), some (.int x2), some (.int x3), none, none] [] sh I L P 0 0 := by
  unfold vc_X10_tell_0 at h
  refine q_aload_n C dX10_tell_0 rfl ?_
  refine q_iload_n C dX10_tell_1 rfl ?_
  have s1 := h.1
  replace h := h.2
  refine q_cVi (as := [.int x1]) (st := []) (r := a0) C mv_X10_isPlayer ml_RX10_114 dX10_tell_2 rfl s1 rfl (Nat.le_of_ble_eq_true rfl) ⟨Nat.le_refl _, Nat.le_refl _⟩ h (fun r2 I3 L4 P5 h => ?_)
  refine q_if_eq (tgt := 48) C dX10_tell_5 (by decide) (fun c6 => ?_) (fun c6 => ?_)
  · replace h := h.1 c6
    refine q_iconst (v := (-1)) C dX10_tell_48 (by decide) ?_
    exact q_iret C hk dX10_tell_49 ⟨rfl, h⟩
  · replace h := h.2 c6
    refine q_iload_n C dX10_tell_8 rfl ?_
    refine q_i2l C dX10_tell_9 ?_
    refine q_lconst (v := 0) C dX10_tell_10 (by decide) ?_
    refine q_ldc2 C kl_RX10_100 dX10_tell_11 ?_
    refine q_cSi (as := [.long (Int32.toInt64 x2), .long 0, .long 3]) (st := []) C ms_X10_in ml_RX10_63 dX10_tell_14 rfl rfl (Nat.le_of_ble_eq_true rfl) ⟨Nat.le_refl _, Nat.le_refl _⟩ h (fun r7 I8 L9 P10 h => ?_)
    refine q_if_eq (tgt := 48) C dX10_tell_17 (by decide) (fun c11 => ?_) (fun c11 => ?_)
    · replace h := h.1 c11
      refine q_iconst (v := (-1)) C dX10_tell_48 (by decide) ?_
      exact q_iret C hk dX10_tell_49 ⟨rfl, h⟩
    · replace h := h.2 c11
      refine q_iload_n C dX10_tell_20 rfl ?_
      refine q_i2l C dX10_tell_21 ?_
      refine q_lconst (v := 0) C dX10_tell_22 (by decide) ?_
      refine q_iload_n C dX10_tell_23 rfl ?_
      refine q_cSi (as := [.int x2]) (st := [.long 0, .long (Int32.toInt64 x3)]) C ms_X10_mostOf ml_RX10_118 dX10_tell_24 rfl rfl (Nat.le_of_ble_eq_true rfl) ⟨Nat.le_refl _, Nat.le_refl _⟩ h (fun r12 I13 L14 P15 h => ?_)
      refine q_i2l C dX10_tell_27 ?_
      refine q_cSi (as := [.long (Int32.toInt64 x3), .long 0, .long (Int32.toInt64 r12)]) (st := []) C ms_X10_in ml_RX10_63 dX10_tell_28 rfl rfl (Nat.le_of_ble_eq_true rfl) ⟨Nat.le_refl _, Nat.le_refl _⟩ h (fun r16 I17 L18 P19 h => ?_)
      refine q_if_eq (tgt := 48) C dX10_tell_31 (by decide) (fun c20 => ?_) (fun c20 => ?_)
      · replace h := h.1 c20
        refine q_iconst (v := (-1)) C dX10_tell_48 (by decide) ?_
        exact q_iret C hk dX10_tell_49 ⟨rfl, h⟩
      · replace h := h.2 c20
        refine q_iload_n C dX10_tell_34 rfl ?_
        refine q_iconst (v := 2) C dX10_tell_35 (by decide) ?_
        refine q_icmp_ne (tgt := 50) C dX10_tell_36 (by decide) (fun c21 => ?_) (fun c21 => ?_)
        · replace h := h.1 c21
          refine q_aload_n C dX10_tell_50 rfl ?_
          refine q_cVv (as := []) (st := []) (r := a0) C mv_X10_changes ml_RX10_122 dX10_tell_51 rfl s1 rfl (Nat.le_of_ble_eq_true rfl) ⟨Nat.le_refl _, Nat.le_refl _⟩ h (fun I22 L23 P24 h => ?_)
          refine q_iload_n C dX10_tell_54 rfl ?_
          refine q_cSi (as := [.int x2]) (st := []) C ms_X10_placeOf ml_RX10_125 dX10_tell_55 rfl rfl (Nat.le_of_ble_eq_true rfl) ⟨Nat.le_refl _, Nat.le_refl _⟩ h (fun r25 I26 L27 P28 h => ?_)
          refine q_iload_n C dX10_tell_58 rfl ?_
          refine q_iadd C dX10_tell_59 ?_
          refine q_istore (lo1 := [some (.ref a0), some (.int x1), some (.int x2), some (.int x3), some (.int (r25 + x1)), none]) C dX10_tell_60 (by decide) rfl ?_
          refine q_aload_n C dX10_tell_62 rfl ?_
          refine q_getP C fl_RX10_9 rfl s1 dX10_tell_63 ?_
          refine q_iload C dX10_tell_66 rfl ?_
          have s29 := h.1
          replace h := h.2
          have s30 := h.1
          replace h := h.2
          refine q_iald C s29 s30 dX10_tell_68 ?_
          refine q_istore (lo1 := [some (.ref a0), some (.int x1), some (.int x2), some (.int x3), some (.int (r25 + x1)), some (.int (I26 (P28 a0 0) (Int32.toNatClampNeg (r25 + x1))))]) C dX10_tell_69 (by decide) rfl ?_
          refine q_aload_n C dX10_tell_71 rfl ?_
          refine q_getP C fl_RX10_9 rfl s1 dX10_tell_72 ?_
          refine q_iload C dX10_tell_75 rfl ?_
          refine q_iload_n C dX10_tell_77 rfl ?_
          refine q_iast C s29 s30 dX10_tell_78 (fun I31 eI31 => ?_)
          replace h := h I31 eI31
          refine q_iload_n C dX10_tell_79 rfl ?_
          refine q_iconst (v := 3) C dX10_tell_80 (by decide) ?_
          refine q_icmp_ge (tgt := 88) C dX10_tell_81 (by decide) (fun c32 => ?_) (fun c32 => ?_)
          · replace h := h.1 c32
            refine q_iload C dX10_tell_88 rfl ?_
            exact q_iret C hk dX10_tell_90 ⟨rfl, h⟩
          · replace h := h.2 c32
            refine q_aload_n C dX10_tell_84 rfl ?_
            refine q_cVv (as := []) (st := []) (r := a0) C mv_X10_noDraw ml_RX10_95 dX10_tell_85 rfl s1 rfl (Nat.le_of_ble_eq_true rfl) ⟨Nat.le_refl _, Nat.le_refl _⟩ h (fun I33 L34 P35 h => ?_)
            refine q_iload C dX10_tell_88 rfl ?_
            exact q_iret C hk dX10_tell_90 ⟨rfl, h⟩
        · replace h := h.2 c21
          refine q_aload_n C dX10_tell_39 rfl ?_
          refine q_iload_n C dX10_tell_40 rfl ?_
          refine q_iload_n C dX10_tell_41 rfl ?_
          refine q_cVi (as := [.int x3, .int x1]) (st := []) (r := a0) C mv_X10_hasSeed ml_RX10_106 dX10_tell_42 rfl s1 rfl (Nat.le_of_ble_eq_true rfl) ⟨Nat.le_refl _, Nat.le_refl _⟩ h (fun r36 I37 L38 P39 h => ?_)
          refine q_if_eq (tgt := 50) C dX10_tell_45 (by decide) (fun c40 => ?_) (fun c40 => ?_)
          · replace h := h.1 c40
            refine q_aload_n C dX10_tell_50 rfl ?_
            refine q_cVv (as := []) (st := []) (r := a0) C mv_X10_changes ml_RX10_122 dX10_tell_51 rfl s1 rfl (Nat.le_of_ble_eq_true rfl) ⟨Nat.le_refl _, Nat.le_refl _⟩ h (fun I41 L42 P43 h => ?_)
            refine q_iload_n C dX10_tell_54 rfl ?_
            refine q_cSi (as := [.int x2]) (st := []) C ms_X10_placeOf ml_RX10_125 dX10_tell_55 rfl rfl (Nat.le_of_ble_eq_true rfl) ⟨Nat.le_refl _, Nat.le_refl _⟩ h (fun r44 I45 L46 P47 h => ?_)
            refine q_iload_n C dX10_tell_58 rfl ?_
            refine q_iadd C dX10_tell_59 ?_
            refine q_istore (lo1 := [some (.ref a0), some (.int x1), some (.int x2), some (.int x3), some (.int (r44 + x1)), none]) C dX10_tell_60 (by decide) rfl ?_
            refine q_aload_n C dX10_tell_62 rfl ?_
            refine q_getP C fl_RX10_9 rfl s1 dX10_tell_63 ?_
            refine q_iload C dX10_tell_66 rfl ?_
            have s48 := h.1
            replace h := h.2
            have s49 := h.1
            replace h := h.2
            refine q_iald C s48 s49 dX10_tell_68 ?_
            refine q_istore (lo1 := [some (.ref a0), some (.int x1), some (.int x2), some (.int x3), some (.int (r44 + x1)), some (.int (I45 (P47 a0 0) (Int32.toNatClampNeg (r44 + x1))))]) C dX10_tell_69 (by decide) rfl ?_
            refine q_aload_n C dX10_tell_71 rfl ?_
            refine q_getP C fl_RX10_9 rfl s1 dX10_tell_72 ?_
            refine q_iload C dX10_tell_75 rfl ?_
            refine q_iload_n C dX10_tell_77 rfl ?_
            refine q_iast C s48 s49 dX10_tell_78 (fun I50 eI50 => ?_)
            replace h := h I50 eI50
            refine q_iload_n C dX10_tell_79 rfl ?_
            refine q_iconst (v := 3) C dX10_tell_80 (by decide) ?_
            refine q_icmp_ge (tgt := 88) C dX10_tell_81 (by decide) (fun c51 => ?_) (fun c51 => ?_)
            · replace h := h.1 c51
              refine q_iload C dX10_tell_88 rfl ?_
              exact q_iret C hk dX10_tell_90 ⟨rfl, h⟩
            · replace h := h.2 c51
              refine q_aload_n C dX10_tell_84 rfl ?_
              refine q_cVv (as := []) (st := []) (r := a0) C mv_X10_noDraw ml_RX10_95 dX10_tell_85 rfl s1 rfl (Nat.le_of_ble_eq_true rfl) ⟨Nat.le_refl _, Nat.le_refl _⟩ h (fun I52 L53 P54 h => ?_)
              refine q_iload C dX10_tell_88 rfl ?_
              exact q_iret C hk dX10_tell_90 ⟨rfl, h⟩
          · replace h := h.2 c40
            refine q_iconst (v := (-1)) C dX10_tell_48 (by decide) ?_
            exact q_iret C hk dX10_tell_49 ⟨rfl, h⟩
theorem sp_X10_tell {d : Nat} {sh : List qSh} {K : Option Value → qMI → qML → qMP → Prop} {a0 : Nat} {x1 : Int32} {x2 : Int32} {x3 : Int32} {I : qMI} {L : qML} {P : qMP} (h0 : vc_X10_tell_0 d sh K a0 x1 x2 x3 I L P) : Sq (d + 1) mX10_tell sh [.ref a0, .int x1, .int x2, .int x3] I L P K := by
  refine Sq_of (by decide +kernel) (Nat.le_of_ble_eq_true rfl) (fun X C hk hn => ?_)
  exact rg_X10_tell_0 C hk h0
/-! BracketDrawsModel.of(II)I -/
def vc_X10_of_0 (d : Nat) (sh : List qSh) (K : Option Value → qMI → qML → qMP → Prop) (a0 : Nat) (x1 : Int32) (x2 : Int32) (I : qMI) (L : qML) (P : qMP) : Prop :=
  ((shp sh a0).1 = 10) ∧ (Sq d mX10_isPlayer sh [.ref a0, .int x1] I L P (KI fun r2 I3 L4 P5 => ((r2 = 0) → (K (some (.int ((-1)))) I3 L4 P5)) ∧ ((¬ r2 = 0) → (Sq d mX10_in sh [.long (Int32.toInt64 x2), .long 0, .long 4] I3 L4 P5 (KI fun r7 I8 L9 P10 => ((¬ r7 = 0) → (((4 ≤ x2) → (((shp sh (P10 a0 0)).1 = 20) ∧ ((vp_in (25 + x1) (shp sh (P10 a0 0)).2) ∧ (Sq d mX10_seedSlot sh [.ref a0, .int (I8 (P10 a0 0) (Int32.toNatClampNeg (25 + x1)))] I8 L9 P10 (KI fun r15 I16 L17 P18 => K (some (.int r15)) I16 L17 P18))))) ∧ ((¬ 4 ≤ x2) → (Sq d mX10_placeOf sh [.int x2] I8 L9 P10 (KI fun r19 I20 L21 P22 => ((shp sh (P10 a0 0)).1 = 20) ∧ ((vp_in (r19 + x1) (shp sh (P10 a0 0)).2) ∧ (K (some (.int (I20 (P10 a0 0) (Int32.toNatClampNeg (r19 + x1))))) I20 L21 P22))))))) ∧ ((r7 = 0) → (K (some (.int ((-1)))) I8 L9 P10)))))))
set_option maxRecDepth 100000 in
set_option maxHeartbeats 4000000 in
theorem rg_X10_of_0 {X : qCT} {d : Nat} {sh : List qSh} {K : Option Value → qMI → qML → qMP → Prop} {a0 : Nat} {x1 : Int32} {x2 : Int32} {I : qMI} {L : qML} {P : qMP} (C : qCB X RX10 cX10_of 3 (d + 1) 0 0) (hk : qCK X (some .int) 0 0 (fun v sh' I' L' P' => sh' = sh ∧ K v I' L' P')) (h : vc_X10_of_0 d sh K a0 x1 x2 I L P) : qG X 0 [some (.ref a0), some (.int x1), some (.int x2)] [] sh I L P 0 0 := by
  unfold vc_X10_of_0 at h
  refine q_aload_n C dX10_of_0 rfl ?_
  refine q_iload_n C dX10_of_1 rfl ?_
  have s1 := h.1
  replace h := h.2
  refine q_cVi (as := [.int x1]) (st := []) (r := a0) C mv_X10_isPlayer ml_RX10_114 dX10_of_2 rfl s1 rfl (Nat.le_of_ble_eq_true rfl) ⟨Nat.le_refl _, Nat.le_refl _⟩ h (fun r2 I3 L4 P5 h => ?_)
  refine q_if_eq (tgt := 20) C dX10_of_5 (by decide) (fun c6 => ?_) (fun c6 => ?_)
  · replace h := h.1 c6
    refine q_iconst (v := (-1)) C dX10_of_20 (by decide) ?_
    exact q_iret C hk dX10_of_21 ⟨rfl, h⟩
  · replace h := h.2 c6
    refine q_iload_n C dX10_of_8 rfl ?_
    refine q_i2l C dX10_of_9 ?_
    refine q_lconst (v := 0) C dX10_of_10 (by decide) ?_
    refine q_ldc2 C kl_RX10_128 dX10_of_11 ?_
    refine q_cSi (as := [.long (Int32.toInt64 x2), .long 0, .long 4]) (st := []) C ms_X10_in ml_RX10_63 dX10_of_14 rfl rfl (Nat.le_of_ble_eq_true rfl) ⟨Nat.le_refl _, Nat.le_refl _⟩ h (fun r7 I8 L9 P10 h => ?_)
    refine q_if_ne (tgt := 22) C dX10_of_17 (by decide) (fun c11 => ?_) (fun c11 => ?_)
    · replace h := h.1 c11
      refine q_iload_n C dX10_of_22 rfl ?_
      refine q_iconst (v := 4) C dX10_of_23 (by decide) ?_
      refine q_icmp_ge (tgt := 41) C dX10_of_24 (by decide) (fun c12 => ?_) (fun c12 => ?_)
      · replace h := h.1 c12
        refine q_aload_n C dX10_of_41 rfl ?_
        refine q_aload_n C dX10_of_42 rfl ?_
        refine q_getP C fl_RX10_9 rfl s1 dX10_of_43 ?_
        refine q_bipush (v := 25) C dX10_of_46 (by decide) ?_
        refine q_iload_n C dX10_of_48 rfl ?_
        refine q_iadd C dX10_of_49 ?_
        have s13 := h.1
        replace h := h.2
        have s14 := h.1
        replace h := h.2
        refine q_iald C s13 s14 dX10_of_50 ?_
        refine q_cVi (as := [.int (I8 (P10 a0 0) (Int32.toNatClampNeg (25 + x1)))]) (st := []) (r := a0) C mv_X10_seedSlot ml_RX10_130 dX10_of_51 rfl s1 rfl (Nat.le_of_ble_eq_true rfl) ⟨Nat.le_refl _, Nat.le_refl _⟩ h (fun r15 I16 L17 P18 h => ?_)
        exact q_iret C hk dX10_of_54 ⟨rfl, h⟩
      · replace h := h.2 c12
        refine q_aload_n C dX10_of_27 rfl ?_
        refine q_getP C fl_RX10_9 rfl s1 dX10_of_28 ?_
        refine q_iload_n C dX10_of_31 rfl ?_
        refine q_cSi (as := [.int x2]) (st := [.ref (P10 a0 0)]) C ms_X10_placeOf ml_RX10_125 dX10_of_32 rfl rfl (Nat.le_of_ble_eq_true rfl) ⟨Nat.le_refl _, Nat.le_refl _⟩ h (fun r19 I20 L21 P22 h => ?_)
        refine q_iload_n C dX10_of_35 rfl ?_
        refine q_iadd C dX10_of_36 ?_
        have s23 := h.1
        replace h := h.2
        have s24 := h.1
        replace h := h.2
        refine q_iald C s23 s24 dX10_of_37 ?_
        refine q_goto (tgt := 54) C dX10_of_38 (by decide) ?_
        exact q_iret C hk dX10_of_54 ⟨rfl, h⟩
    · replace h := h.2 c11
      refine q_iconst (v := (-1)) C dX10_of_20 (by decide) ?_
      exact q_iret C hk dX10_of_21 ⟨rfl, h⟩
theorem sp_X10_of {d : Nat} {sh : List qSh} {K : Option Value → qMI → qML → qMP → Prop} {a0 : Nat} {x1 : Int32} {x2 : Int32} {I : qMI} {L : qML} {P : qMP} (h0 : vc_X10_of_0 d sh K a0 x1 x2 I L P) : Sq (d + 1) mX10_of sh [.ref a0, .int x1, .int x2] I L P K := by
  refine Sq_of (by decide +kernel) (Nat.le_of_ble_eq_true rfl) (fun X C hk hn => ?_)
  exact rg_X10_of_0 C hk h0
/-! BracketDrawsModel.level(II)I -/
def vc_X10_level_0 (d : Nat) (sh : List qSh) (K : Option Value → qMI → qML → qMP → Prop) (a0 : Nat) (x1 : Int32) (x2 : Int32) (I : qMI) (L : qML) (P : qMP) : Prop :=
  Sq d mX10_in sh [.long (Int32.toInt64 x1), .long 0, .long 1] I L P (KI fun r1 I2 L3 P4 => ((r1 = 0) → (K (some (.int ((-1)))) I2 L3 P4)) ∧ ((¬ r1 = 0) → (Sq d mX10_in sh [.long (Int32.toInt64 x2), .long 0, .long 4] I2 L3 P4 (KI fun r6 I7 L8 P9 => ((¬ r6 = 0) → (((shp sh a0).1 = 10) ∧ (Sq d mX10_changes sh [.ref a0] I7 L8 P9 (KV fun I12 L13 P14 => ((¬ x1 = 0) → (((shp sh (P14 a0 0)).1 = 20) ∧ ((vp_in 2 (shp sh (P14 a0 0)).2) ∧ (∀ I18 : qMI, I18 = uI I12 (P14 a0 0) (Int32.toNatClampNeg 2) x2 → (Sq d mX10_noDraw sh [.ref a0] I18 L13 P14 (KV fun I19 L20 P21 => K (some (.int (I12 (P14 a0 0) (Int32.toNatClampNeg 2)))) I19 L20 P21)))))) ∧ ((x1 = 0) → (((shp sh (P14 a0 0)).1 = 20) ∧ ((vp_in 1 (shp sh (P14 a0 0)).2) ∧ (∀ I24 : qMI, I24 = uI I12 (P14 a0 0) (Int32.toNatClampNeg 1) x2 → (Sq d mX10_noDraw sh [.ref a0] I24 L13 P14 (KV fun I25 L26 P27 => K (some (.int (I12 (P14 a0 0) (Int32.toNatClampNeg 1)))) I25 L26 P27)))))))))) ∧ ((r6 = 0) → (K (some (.int ((-1)))) I7 L8 P9))))))
set_option maxRecDepth 100000 in
set_option maxHeartbeats 4000000 in
theorem rg_X10_level_0 {X : qCT} {d : Nat} {sh : List qSh} {K : Option Value → qMI → qML → qMP → Prop} {a0 : Nat} {x1 : Int32} {x2 : Int32} {I : qMI} {L : qML} {P : qMP} (C : qCB X RX10 cX10_level 5 (d + 1) 0 0) (hk : qCK X (some .int) 0 0 (fun v sh' I' L' P' => sh' = sh ∧ K v I' L' P')) (h : vc_X10_level_0 d sh K a0 x1 x2 I L P) : qG X 0 [some (.ref a0), some (.int x1), some (.int x2), none, none] [] sh I L P 0 0 := by
  unfold vc_X10_level_0 at h
  refine q_iload_n C dX10_level_0 rfl ?_
  refine q_i2l C dX10_level_1 ?_
  refine q_lconst (v := 0) C dX10_level_2 (by decide) ?_
  refine q_lconst (v := 1) C dX10_level_3 (by decide) ?_
  refine q_cSi (as := [.long (Int32.toInt64 x1), .long 0, .long 1]) (st := []) C ms_X10_in ml_RX10_63 dX10_level_4 rfl rfl (Nat.le_of_ble_eq_true rfl) ⟨Nat.le_refl _, Nat.le_refl _⟩ h (fun r1 I2 L3 P4 h => ?_)
  refine q_if_eq (tgt := 22) C dX10_level_7 (by decide) (fun c5 => ?_) (fun c5 => ?_)
  · replace h := h.1 c5
    refine q_iconst (v := (-1)) C dX10_level_22 (by decide) ?_
    exact q_iret C hk dX10_level_23 ⟨rfl, h⟩
  · replace h := h.2 c5
    refine q_iload_n C dX10_level_10 rfl ?_
    refine q_i2l C dX10_level_11 ?_
    refine q_lconst (v := 0) C dX10_level_12 (by decide) ?_
    refine q_ldc2 C kl_RX10_128 dX10_level_13 ?_
    refine q_cSi (as := [.long (Int32.toInt64 x2), .long 0, .long 4]) (st := []) C ms_X10_in ml_RX10_63 dX10_level_16 rfl rfl (Nat.le_of_ble_eq_true rfl) ⟨Nat.le_refl _, Nat.le_refl _⟩ h (fun r6 I7 L8 P9 h => ?_)
    refine q_if_ne (tgt := 24) C dX10_level_19 (by decide) (fun c10 => ?_) (fun c10 => ?_)
    · replace h := h.1 c10
      refine q_aload_n C dX10_level_24 rfl ?_
      have s11 := h.1
      replace h := h.2
      refine q_cVv (as := []) (st := []) (r := a0) C mv_X10_changes ml_RX10_122 dX10_level_25 rfl s11 rfl (Nat.le_of_ble_eq_true rfl) ⟨Nat.le_refl _, Nat.le_refl _⟩ h (fun I12 L13 P14 h => ?_)
      refine q_iload_n C dX10_level_28 rfl ?_
      refine q_if_ne (tgt := 36) C dX10_level_29 (by decide) (fun c15 => ?_) (fun c15 => ?_)
      · replace h := h.1 c15
        refine q_iconst (v := 2) C dX10_level_36 (by decide) ?_
        refine q_istore_n (lo1 := [some (.ref a0), some (.int x1), some (.int x2), some (.int 2), none]) C dX10_level_37 (by decide) rfl ?_
        refine q_aload_n C dX10_level_38 rfl ?_
        refine q_getP C fl_RX10_9 rfl s11 dX10_level_39 ?_
        refine q_iload_n C dX10_level_42 rfl ?_
        have s16 := h.1
        replace h := h.2
        have s17 := h.1
        replace h := h.2
        refine q_iald C s16 s17 dX10_level_43 ?_
        refine q_istore (lo1 := [some (.ref a0), some (.int x1), some (.int x2), some (.int 2), some (.int (I12 (P14 a0 0) (Int32.toNatClampNeg 2)))]) C dX10_level_44 (by decide) rfl ?_
        refine q_aload_n C dX10_level_46 rfl ?_
        refine q_getP C fl_RX10_9 rfl s11 dX10_level_47 ?_
        refine q_iload_n C dX10_level_50 rfl ?_
        refine q_iload_n C dX10_level_51 rfl ?_
        refine q_iast C s16 s17 dX10_level_52 (fun I18 eI18 => ?_)
        replace h := h I18 eI18
        refine q_aload_n C dX10_level_53 rfl ?_
        refine q_cVv (as := []) (st := []) (r := a0) C mv_X10_noDraw ml_RX10_95 dX10_level_54 rfl s11 rfl (Nat.le_of_ble_eq_true rfl) ⟨Nat.le_refl _, Nat.le_refl _⟩ h (fun I19 L20 P21 h => ?_)
        refine q_iload C dX10_level_57 rfl ?_
        exact q_iret C hk dX10_level_59 ⟨rfl, h⟩
      · replace h := h.2 c15
        refine q_iconst (v := 1) C dX10_level_32 (by decide) ?_
        refine q_goto (tgt := 37) C dX10_level_33 (by decide) ?_
        refine q_istore_n (lo1 := [some (.ref a0), some (.int x1), some (.int x2), some (.int 1), none]) C dX10_level_37 (by decide) rfl ?_
        refine q_aload_n C dX10_level_38 rfl ?_
        refine q_getP C fl_RX10_9 rfl s11 dX10_level_39 ?_
        refine q_iload_n C dX10_level_42 rfl ?_
        have s22 := h.1
        replace h := h.2
        have s23 := h.1
        replace h := h.2
        refine q_iald C s22 s23 dX10_level_43 ?_
        refine q_istore (lo1 := [some (.ref a0), some (.int x1), some (.int x2), some (.int 1), some (.int (I12 (P14 a0 0) (Int32.toNatClampNeg 1)))]) C dX10_level_44 (by decide) rfl ?_
        refine q_aload_n C dX10_level_46 rfl ?_
        refine q_getP C fl_RX10_9 rfl s11 dX10_level_47 ?_
        refine q_iload_n C dX10_level_50 rfl ?_
        refine q_iload_n C dX10_level_51 rfl ?_
        refine q_iast C s22 s23 dX10_level_52 (fun I24 eI24 => ?_)
        replace h := h I24 eI24
        refine q_aload_n C dX10_level_53 rfl ?_
        refine q_cVv (as := []) (st := []) (r := a0) C mv_X10_noDraw ml_RX10_95 dX10_level_54 rfl s11 rfl (Nat.le_of_ble_eq_true rfl) ⟨Nat.le_refl _, Nat.le_refl _⟩ h (fun I25 L26 P27 h => ?_)
        refine q_iload C dX10_level_57 rfl ?_
        exact q_iret C hk dX10_level_59 ⟨rfl, h⟩
    · replace h := h.2 c10
      refine q_iconst (v := (-1)) C dX10_level_22 (by decide) ?_
      exact q_iret C hk dX10_level_23 ⟨rfl, h⟩
theorem sp_X10_level {d : Nat} {sh : List qSh} {K : Option Value → qMI → qML → qMP → Prop} {a0 : Nat} {x1 : Int32} {x2 : Int32} {I : qMI} {L : qML} {P : qMP} (h0 : vc_X10_level_0 d sh K a0 x1 x2 I L P) : Sq (d + 1) mX10_level sh [.ref a0, .int x1, .int x2] I L P K := by
  refine Sq_of (by decide +kernel) (Nat.le_of_ble_eq_true rfl) (fun X C hk hn => ?_)
  exact rg_X10_level_0 C hk h0
/-! BracketDrawsModel.feed(I)I -/
def vc_X10_feed_0 (d : Nat) (sh : List qSh) (K : Option Value → qMI → qML → qMP → Prop) (a0 : Nat) (x1 : Int32) (I : qMI) (L : qML) (P : qMP) : Prop :=
  Sq d mX10_in sh [.long (Int32.toInt64 x1), .long 32, .long 126] I L P (KI fun r1 I2 L3 P4 => ((¬ r1 = 0) → (((shp sh a0).1 = 10) ∧ (((¬ (I2 a0 10) = 120) → (((shp sh (P4 a0 7)).1 = 20) ∧ ((vp_in (I2 a0 10) (shp sh (P4 a0 7)).2) ∧ (∀ I10 : qMI, I10 = uI I2 (P4 a0 7) (Int32.toNatClampNeg (I2 a0 10)) x1 → (∀ I11 : qMI, I11 = uI I10 a0 10 ((I10 a0 10) + 1) → (K (some (.int (I11 a0 10))) I11 L3 P4)))))) ∧ (((I2 a0 10) = 120) → (K (some (.int ((-3)))) I2 L3 P4))))) ∧ ((r1 = 0) → (K (some (.int ((-1)))) I2 L3 P4)))
set_option maxRecDepth 100000 in
set_option maxHeartbeats 4000000 in
theorem rg_X10_feed_0 {X : qCT} {d : Nat} {sh : List qSh} {K : Option Value → qMI → qML → qMP → Prop} {a0 : Nat} {x1 : Int32} {I : qMI} {L : qML} {P : qMP} (C : qCB X RX10 cX10_feed 2 (d + 1) 0 0) (hk : qCK X (some .int) 0 0 (fun v sh' I' L' P' => sh' = sh ∧ K v I' L' P')) (h : vc_X10_feed_0 d sh K a0 x1 I L P) : qG X 0 [some (.ref a0), some (.int x1)] [] sh I L P 0 0 := by
  unfold vc_X10_feed_0 at h
  refine q_iload_n C dX10_feed_0 rfl ?_
  refine q_i2l C dX10_feed_1 ?_
  refine q_ldc2 C kl_RX10_133 dX10_feed_2 ?_
  refine q_ldc2 C kl_RX10_135 dX10_feed_5 ?_
  refine q_cSi (as := [.long (Int32.toInt64 x1), .long 32, .long 126]) (st := []) C ms_X10_in ml_RX10_63 dX10_feed_8 rfl rfl (Nat.le_of_ble_eq_true rfl) ⟨Nat.le_refl _, Nat.le_refl _⟩ h (fun r1 I2 L3 P4 h => ?_)
  refine q_if_ne (tgt := 16) C dX10_feed_11 (by decide) (fun c5 => ?_) (fun c5 => ?_)
  · replace h := h.1 c5
    refine q_aload_n C dX10_feed_16 rfl ?_
    have s6 := h.1
    replace h := h.2
    refine q_getI C fl_RX10_137 rfl s6 dX10_feed_17 ?_
    refine q_bipush (v := 120) C dX10_feed_20 (by decide) ?_
    refine q_icmp_ne (tgt := 28) C dX10_feed_22 (by decide) (fun c7 => ?_) (fun c7 => ?_)
    · replace h := h.1 c7
      refine q_aload_n C dX10_feed_28 rfl ?_
      refine q_getP C fl_RX10_22 rfl s6 dX10_feed_29 ?_
      refine q_aload_n C dX10_feed_32 rfl ?_
      refine q_getI C fl_RX10_137 rfl s6 dX10_feed_33 ?_
      refine q_iload_n C dX10_feed_36 rfl ?_
      have s8 := h.1
      replace h := h.2
      have s9 := h.1
      replace h := h.2
      refine q_iast C s8 s9 dX10_feed_37 (fun I10 eI10 => ?_)
      replace h := h I10 eI10
      refine q_aload_n C dX10_feed_38 rfl ?_
      refine q_dup C dX10_feed_39 rfl ?_
      refine q_getI C fl_RX10_137 rfl s6 dX10_feed_40 ?_
      refine q_iconst (v := 1) C dX10_feed_43 (by decide) ?_
      refine q_iadd C dX10_feed_44 ?_
      refine q_putI C fl_RX10_137 (fun T hT => by cases hT; rfl) rfl s6 dX10_feed_45 (fun I11 eI11 => ?_)
      replace h := h I11 eI11
      refine q_aload_n C dX10_feed_48 rfl ?_
      refine q_getI C fl_RX10_137 rfl s6 dX10_feed_49 ?_
      exact q_iret C hk dX10_feed_52 ⟨rfl, h⟩
    · replace h := h.2 c7
      refine q_bipush (v := (-3)) C dX10_feed_25 (by decide) ?_
      exact q_iret C hk dX10_feed_27 ⟨rfl, h⟩
  · replace h := h.2 c5
    refine q_iconst (v := (-1)) C dX10_feed_14 (by decide) ?_
    exact q_iret C hk dX10_feed_15 ⟨rfl, h⟩
theorem sp_X10_feed {d : Nat} {sh : List qSh} {K : Option Value → qMI → qML → qMP → Prop} {a0 : Nat} {x1 : Int32} {I : qMI} {L : qML} {P : qMP} (h0 : vc_X10_feed_0 d sh K a0 x1 I L P) : Sq (d + 1) mX10_feed sh [.ref a0, .int x1] I L P K := by
  refine Sq_of (by decide +kernel) (Nat.le_of_ble_eq_true rfl) (fun X C hk hn => ?_)
  exact rg_X10_feed_0 C hk h0
/-! BracketDrawsModel.here()I -/
def vc_X10_here_0 (d : Nat) (sh : List qSh) (K : Option Value → qMI → qML → qMP → Prop) (a0 : Nat) (I : qMI) (L : qML) (P : qMP) : Prop :=
  ((shp sh a0).1 = 10) ∧ ((((I a0 10) ≤ (I a0 11)) → (K (some (.int ((-1)))) I L P)) ∧ ((¬ (I a0 10) ≤ (I a0 11)) → (((shp sh (P a0 7)).1 = 20) ∧ ((vp_in (I a0 11) (shp sh (P a0 7)).2) ∧ (K (some (.int (I (P a0 7) (Int32.toNatClampNeg (I a0 11))))) I L P)))))
set_option maxRecDepth 100000 in
set_option maxHeartbeats 4000000 in
theorem rg_X10_here_0 {X : qCT} {d : Nat} {sh : List qSh} {K : Option Value → qMI → qML → qMP → Prop} {a0 : Nat} {I : qMI} {L : qML} {P : qMP} (C : qCB X RX10 cX10_here 1 (d + 1) 0 0) (hk : qCK X (some .int) 0 0 (fun v sh' I' L' P' => sh' = sh ∧ K v I' L' P')) (h : vc_X10_here_0 d sh K a0 I L P) : qG X 0 [some (.ref a0)] [] sh I L P 0 0 := by
  unfold vc_X10_here_0 at h
  refine q_aload_n C dX10_here_0 rfl ?_
  have s1 := h.1
  replace h := h.2
  refine q_getI C fl_RX10_140 rfl s1 dX10_here_1 ?_
  refine q_aload_n C dX10_here_4 rfl ?_
  refine q_getI C fl_RX10_137 rfl s1 dX10_here_5 ?_
  refine q_icmp_ge (tgt := 23) C dX10_here_8 (by decide) (fun c2 => ?_) (fun c2 => ?_)
  · replace h := h.1 c2
    refine q_iconst (v := (-1)) C dX10_here_23 (by decide) ?_
    exact q_iret C hk dX10_here_24 ⟨rfl, h⟩
  · replace h := h.2 c2
    refine q_aload_n C dX10_here_11 rfl ?_
    refine q_getP C fl_RX10_22 rfl s1 dX10_here_12 ?_
    refine q_aload_n C dX10_here_15 rfl ?_
    refine q_getI C fl_RX10_140 rfl s1 dX10_here_16 ?_
    have s3 := h.1
    replace h := h.2
    have s4 := h.1
    replace h := h.2
    refine q_iald C s3 s4 dX10_here_19 ?_
    refine q_goto (tgt := 24) C dX10_here_20 (by decide) ?_
    exact q_iret C hk dX10_here_24 ⟨rfl, h⟩
theorem sp_X10_here {d : Nat} {sh : List qSh} {K : Option Value → qMI → qML → qMP → Prop} {a0 : Nat} {I : qMI} {L : qML} {P : qMP} (h0 : vc_X10_here_0 d sh K a0 I L P) : Sq (d + 1) mX10_here sh [.ref a0] I L P K := by
  refine Sq_of (by decide +kernel) (Nat.le_of_ble_eq_true rfl) (fun X C hk hn => ?_)
  exact rg_X10_here_0 C hk h0
/-! BracketDrawsModel.isFigure()Z -/
def vc_X10_isFigure_0 (d : Nat) (sh : List qSh) (K : Option Value → qMI → qML → qMP → Prop) (a0 : Nat) (I : qMI) (L : qML) (P : qMP) : Prop :=
  ((shp sh a0).1 = 10) ∧ (Sq d mX10_here sh [.ref a0] I L P (KI fun r2 I3 L4 P5 => Sq d mX10_in sh [.long (Int32.toInt64 r2), .long 48, .long 57] I3 L4 P5 (KI fun r6 I7 L8 P9 => (r6 = 0 ∨ r6 = 1) ∧ (K (some (.int r6)) I7 L8 P9))))
set_option maxRecDepth 100000 in
set_option maxHeartbeats 4000000 in
theorem rg_X10_isFigure_0 {X : qCT} {d : Nat} {sh : List qSh} {K : Option Value → qMI → qML → qMP → Prop} {a0 : Nat} {I : qMI} {L : qML} {P : qMP} (C : qCB X RX10 cX10_isFigure 1 (d + 1) 0 0) (hk : qCK X (some .boolean) 0 0 (fun v sh' I' L' P' => sh' = sh ∧ K v I' L' P')) (h : vc_X10_isFigure_0 d sh K a0 I L P) : qG X 0 [some (.ref a0)] [] sh I L P 0 0 := by
  unfold vc_X10_isFigure_0 at h
  refine q_aload_n C dX10_isFigure_0 rfl ?_
  have s1 := h.1
  replace h := h.2
  refine q_cVi (as := []) (st := []) (r := a0) C mv_X10_here ml_RX10_143 dX10_isFigure_1 rfl s1 rfl (Nat.le_of_ble_eq_true rfl) ⟨Nat.le_refl _, Nat.le_refl _⟩ h (fun r2 I3 L4 P5 h => ?_)
  refine q_i2l C dX10_isFigure_4 ?_
  refine q_ldc2 C kl_RX10_146 dX10_isFigure_5 ?_
  refine q_ldc2 C kl_RX10_148 dX10_isFigure_8 ?_
  refine q_cSi (as := [.long (Int32.toInt64 r2), .long 48, .long 57]) (st := []) C ms_X10_in ml_RX10_63 dX10_isFigure_11 rfl rfl (Nat.le_of_ble_eq_true rfl) ⟨Nat.le_refl _, Nat.le_refl _⟩ h (fun r6 I7 L8 P9 h => ?_)
  have s10 := h.1
  replace h := h.2
  exact q_zret C hk s10 dX10_isFigure_14 ⟨rfl, h⟩
theorem sp_X10_isFigure {d : Nat} {sh : List qSh} {K : Option Value → qMI → qML → qMP → Prop} {a0 : Nat} {I : qMI} {L : qML} {P : qMP} (h0 : vc_X10_isFigure_0 d sh K a0 I L P) : Sq (d + 1) mX10_isFigure sh [.ref a0] I L P K := by
  refine Sq_of (by decide +kernel) (Nat.le_of_ble_eq_true rfl) (fun X C hk hn => ?_)
  exact rg_X10_isFigure_0 C hk h0
/-! BracketDrawsModel.whatOf(I)I -/
def vc_X10_whatOf_0 (d : Nat) (sh : List qSh) (K : Option Value → qMI → qML → qMP → Prop) (x0 : Int32) (I : qMI) (L : qML) (P : qMP) : Prop :=
  ((¬ x0 = 99) → (((¬ x0 = 114) → (((¬ x0 = 115) → (((¬ x0 = 120) → (K (some (.int ((-2)))) I L P)) ∧ ((x0 = 120) → (K (some (.int 3)) I L P)))) ∧ ((x0 = 115) → (K (some (.int 2)) I L P)))) ∧ ((x0 = 114) → (K (some (.int 1)) I L P)))) ∧ ((x0 = 99) → (K (some (.int 0)) I L P))
set_option maxRecDepth 100000 in
set_option maxHeartbeats 4000000 in
theorem rg_X10_whatOf_0 {X : qCT} {d : Nat} {sh : List qSh} {K : Option Value → qMI → qML → qMP → Prop} {x0 : Int32} {I : qMI} {L : qML} {P : qMP} (C : qCB X RX10 cX10_whatOf 1 (d + 1) 0 0) (hk : qCK X (some .int) 0 0 (fun v sh' I' L' P' => sh' = sh ∧ K v I' L' P')) (h : vc_X10_whatOf_0 d sh K x0 I L P) : qG X 0 [some (.int x0)] [] sh I L P 0 0 := by
  unfold vc_X10_whatOf_0 at h
  refine q_iload_n C dX10_whatOf_0 rfl ?_
  refine q_bipush (v := 99) C dX10_whatOf_1 (by decide) ?_
  refine q_icmp_ne (tgt := 10) C dX10_whatOf_3 (by decide) (fun c1 => ?_) (fun c1 => ?_)
  · replace h := h.1 c1
    refine q_iload_n C dX10_whatOf_10 rfl ?_
    refine q_bipush (v := 114) C dX10_whatOf_11 (by decide) ?_
    refine q_icmp_ne (tgt := 20) C dX10_whatOf_13 (by decide) (fun c2 => ?_) (fun c2 => ?_)
    · replace h := h.1 c2
      refine q_iload_n C dX10_whatOf_20 rfl ?_
      refine q_bipush (v := 115) C dX10_whatOf_21 (by decide) ?_
      refine q_icmp_ne (tgt := 30) C dX10_whatOf_23 (by decide) (fun c3 => ?_) (fun c3 => ?_)
      · replace h := h.1 c3
        refine q_iload_n C dX10_whatOf_30 rfl ?_
        refine q_bipush (v := 120) C dX10_whatOf_31 (by decide) ?_
        refine q_icmp_ne (tgt := 40) C dX10_whatOf_33 (by decide) (fun c4 => ?_) (fun c4 => ?_)
        · replace h := h.1 c4
          refine q_bipush (v := (-2)) C dX10_whatOf_40 (by decide) ?_
          exact q_iret C hk dX10_whatOf_42 ⟨rfl, h⟩
        · replace h := h.2 c4
          refine q_iconst (v := 3) C dX10_whatOf_36 (by decide) ?_
          refine q_goto (tgt := 42) C dX10_whatOf_37 (by decide) ?_
          exact q_iret C hk dX10_whatOf_42 ⟨rfl, h⟩
      · replace h := h.2 c3
        refine q_iconst (v := 2) C dX10_whatOf_26 (by decide) ?_
        refine q_goto (tgt := 42) C dX10_whatOf_27 (by decide) ?_
        exact q_iret C hk dX10_whatOf_42 ⟨rfl, h⟩
    · replace h := h.2 c2
      refine q_iconst (v := 1) C dX10_whatOf_16 (by decide) ?_
      refine q_goto (tgt := 42) C dX10_whatOf_17 (by decide) ?_
      exact q_iret C hk dX10_whatOf_42 ⟨rfl, h⟩
  · replace h := h.2 c1
    refine q_iconst (v := 0) C dX10_whatOf_6 (by decide) ?_
    refine q_goto (tgt := 42) C dX10_whatOf_7 (by decide) ?_
    exact q_iret C hk dX10_whatOf_42 ⟨rfl, h⟩
theorem sp_X10_whatOf {d : Nat} {sh : List qSh} {K : Option Value → qMI → qML → qMP → Prop} {x0 : Int32} {I : qMI} {L : qML} {P : qMP} (h0 : vc_X10_whatOf_0 d sh K x0 I L P) : Sq (d + 1) mX10_whatOf sh [.int x0] I L P K := by
  refine Sq_of (by decide +kernel) (Nat.le_of_ble_eq_true rfl) (fun X C hk hn => ?_)
  exact rg_X10_whatOf_0 C hk h0
/-! BracketDrawsModel.isTaken(II)Z -/
def vc_X10_isTaken_0 (d : Nat) (sh : List qSh) (K : Option Value → qMI → qML → qMP → Prop) (T1 : Int32 → Int32 → qMI → qML → qMP → Prop) (a0 : Nat) (x1 : Int32) (x2 : Int32) (I : qMI) (L : qML) (P : qMP) : Prop :=
  ((shp sh a0).1 = 10) ∧ (Sq d mX10_hasSeed sh [.ref a0, .int x1, .int ((-2))] I L P (KI fun r2 I3 L4 P5 => T1 r2 0 I3 L4 P5))
set_option maxRecDepth 100000 in
set_option maxHeartbeats 4000000 in
theorem rg_X10_isTaken_0 {X : qCT} {d : Nat} {sh : List qSh} {K : Option Value → qMI → qML → qMP → Prop} {T1 : Int32 → Int32 → qMI → qML → qMP → Prop} {a0 : Nat} {x1 : Int32} {x2 : Int32} {I : qMI} {L : qML} {P : qMP} (C : qCB X RX10 cX10_isTaken 5 (d + 1) 0 0) (hk : qCK X (some .boolean) 0 0 (fun v sh' I' L' P' => sh' = sh ∧ K v I' L' P')) (hT1 : ∀ (x3 : Int32) (x4 : Int32) (I : qMI) (L : qML) (P : qMP), T1 x3 x4 I L P → qG X 11 [some (.ref a0), some (.int x1), some (.int x2), some (.int x3), some (.int x4)] [] sh I L P 0 0) (h : vc_X10_isTaken_0 d sh K T1 a0 x1 x2 I L P) : qG X 0 [some (.ref a0), some (.int x1), some (.int x2), none, none] [] sh I L P 0 0 := by
  unfold vc_X10_isTaken_0 at h
  refine q_aload_n C dX10_isTaken_0 rfl ?_
  refine q_iload_n C dX10_isTaken_1 rfl ?_
  refine q_bipush (v := (-2)) C dX10_isTaken_2 (by decide) ?_
  have s1 := h.1
  replace h := h.2
  refine q_cVi (as := [.int x1, .int ((-2))]) (st := []) (r := a0) C mv_X10_hasSeed ml_RX10_106 dX10_isTaken_4 rfl s1 rfl (Nat.le_of_ble_eq_true rfl) ⟨Nat.le_refl _, Nat.le_refl _⟩ h (fun r2 I3 L4 P5 h => ?_)
  refine q_istore_n (lo1 := [some (.ref a0), some (.int x1), some (.int x2), some (.int r2), none]) C dX10_isTaken_7 (by decide) rfl ?_
  refine q_iconst (v := 0) C dX10_isTaken_8 (by decide) ?_
  refine q_istore (lo1 := [some (.ref a0), some (.int x1), some (.int x2), some (.int r2), some (.int 0)]) C dX10_isTaken_9 (by decide) rfl ?_
  exact hT1 _ _ _ _ _ h
def vc_X10_isTaken_1 (d : Nat) (sh : List qSh) (K : Option Value → qMI → qML → qMP → Prop) (T1 : Int32 → Int32 → qMI → qML → qMP → Prop) (a0 : Nat) (x1 : Int32) (x2 : Int32) (x3 : Int32) (x4 : Int32) (I : qMI) (L : qML) (P : qMP) : Prop :=
  ((x2 ≤ x4) → ((x3 = 0 ∨ x3 = 1) ∧ (K (some (.int x3)) I L P))) ∧ ((¬ x2 ≤ x4) → (((¬ x3 = 0) → (T1 1 (x4 + 1) I L P)) ∧ ((x3 = 0) → (((x1 ≤ 0) → (T1 0 (x4 + 1) I L P)) ∧ ((¬ x1 ≤ 0) → (((shp sh a0).1 = 10) ∧ (((shp sh (P a0 8)).1 = 20) ∧ ((vp_in ((4 * x4) + 2) (shp sh (P a0 8)).2) ∧ (((¬ (I (P a0 8) (Int32.toNatClampNeg ((4 * x4) + 2))) = x1) → (T1 0 (x4 + 1) I L P)) ∧ (((I (P a0 8) (Int32.toNatClampNeg ((4 * x4) + 2))) = x1) → (T1 1 (x4 + 1) I L P)))))))))))
set_option maxRecDepth 100000 in
set_option maxHeartbeats 4000000 in
theorem rg_X10_isTaken_1 {X : qCT} {d : Nat} {sh : List qSh} {K : Option Value → qMI → qML → qMP → Prop} {T1 : Int32 → Int32 → qMI → qML → qMP → Prop} {a0 : Nat} {x1 : Int32} {x2 : Int32} {x3 : Int32} {x4 : Int32} {I : qMI} {L : qML} {P : qMP} (C : qCB X RX10 cX10_isTaken 5 (d + 1) 0 0) (hk : qCK X (some .boolean) 0 0 (fun v sh' I' L' P' => sh' = sh ∧ K v I' L' P')) (hT1 : ∀ (x3 : Int32) (x4 : Int32) (I : qMI) (L : qML) (P : qMP), T1 x3 x4 I L P → qG X 11 [some (.ref a0), some (.int x1), some (.int x2), some (.int x3), some (.int x4)] [] sh I L P 0 0) (h : vc_X10_isTaken_1 d sh K T1 a0 x1 x2 x3 x4 I L P) : qG X 11 [some (.ref a0), some (.int x1), some (.int x2), some (.int x3), some (.int x4)] [] sh I L P 0 0 := by
  unfold vc_X10_isTaken_1 at h
  refine q_iload C dX10_isTaken_11 rfl ?_
  refine q_iload_n C dX10_isTaken_13 rfl ?_
  refine q_icmp_ge (tgt := 52) C dX10_isTaken_14 (by decide) (fun c1 => ?_) (fun c1 => ?_)
  · replace h := h.1 c1
    refine q_iload_n C dX10_isTaken_52 rfl ?_
    have s2 := h.1
    replace h := h.2
    exact q_zret C hk s2 dX10_isTaken_53 ⟨rfl, h⟩
  · replace h := h.2 c1
    refine q_iload_n C dX10_isTaken_17 rfl ?_
    refine q_if_ne (tgt := 40) C dX10_isTaken_18 (by decide) (fun c3 => ?_) (fun c3 => ?_)
    · replace h := h.1 c3
      refine q_iconst (v := 1) C dX10_isTaken_40 (by decide) ?_
      refine q_goto (tgt := 45) C dX10_isTaken_41 (by decide) ?_
      refine q_istore_n (lo1 := [some (.ref a0), some (.int x1), some (.int x2), some (.int 1), some (.int x4)]) C dX10_isTaken_45 (by decide) rfl ?_
      refine q_iinc (w := 1) (lo1 := [some (.ref a0), some (.int x1), some (.int x2), some (.int 1), some (.int (x4 + 1))]) C dX10_isTaken_46 rfl (by decide) (by decide) rfl ?_
      refine q_goto (tgt := 11) C dX10_isTaken_49 (by decide) ?_
      exact hT1 _ _ _ _ _ h
    · replace h := h.2 c3
      refine q_iload_n C dX10_isTaken_21 rfl ?_
      refine q_if_le (tgt := 44) C dX10_isTaken_22 (by decide) (fun c4 => ?_) (fun c4 => ?_)
      · replace h := h.1 c4
        refine q_iconst (v := 0) C dX10_isTaken_44 (by decide) ?_
        refine q_istore_n (lo1 := [some (.ref a0), some (.int x1), some (.int x2), some (.int 0), some (.int x4)]) C dX10_isTaken_45 (by decide) rfl ?_
        refine q_iinc (w := 1) (lo1 := [some (.ref a0), some (.int x1), some (.int x2), some (.int 0), some (.int (x4 + 1))]) C dX10_isTaken_46 rfl (by decide) (by decide) rfl ?_
        refine q_goto (tgt := 11) C dX10_isTaken_49 (by decide) ?_
        exact hT1 _ _ _ _ _ h
      · replace h := h.2 c4
        refine q_aload_n C dX10_isTaken_25 rfl ?_
        have s5 := h.1
        replace h := h.2
        refine q_getP C fl_RX10_25 rfl s5 dX10_isTaken_26 ?_
        refine q_iconst (v := 4) C dX10_isTaken_29 (by decide) ?_
        refine q_iload C dX10_isTaken_30 rfl ?_
        refine q_imul C dX10_isTaken_32 ?_
        refine q_iconst (v := 2) C dX10_isTaken_33 (by decide) ?_
        refine q_iadd C dX10_isTaken_34 ?_
        have s6 := h.1
        replace h := h.2
        have s7 := h.1
        replace h := h.2
        refine q_iald C s6 s7 dX10_isTaken_35 ?_
        refine q_iload_n C dX10_isTaken_36 rfl ?_
        refine q_icmp_ne (tgt := 44) C dX10_isTaken_37 (by decide) (fun c8 => ?_) (fun c8 => ?_)
        · replace h := h.1 c8
          refine q_iconst (v := 0) C dX10_isTaken_44 (by decide) ?_
          refine q_istore_n (lo1 := [some (.ref a0), some (.int x1), some (.int x2), some (.int 0), some (.int x4)]) C dX10_isTaken_45 (by decide) rfl ?_
          refine q_iinc (w := 1) (lo1 := [some (.ref a0), some (.int x1), some (.int x2), some (.int 0), some (.int (x4 + 1))]) C dX10_isTaken_46 rfl (by decide) (by decide) rfl ?_
          refine q_goto (tgt := 11) C dX10_isTaken_49 (by decide) ?_
          exact hT1 _ _ _ _ _ h
        · replace h := h.2 c8
          refine q_iconst (v := 1) C dX10_isTaken_40 (by decide) ?_
          refine q_goto (tgt := 45) C dX10_isTaken_41 (by decide) ?_
          refine q_istore_n (lo1 := [some (.ref a0), some (.int x1), some (.int x2), some (.int 1), some (.int x4)]) C dX10_isTaken_45 (by decide) rfl ?_
          refine q_iinc (w := 1) (lo1 := [some (.ref a0), some (.int x1), some (.int x2), some (.int 1), some (.int (x4 + 1))]) C dX10_isTaken_46 rfl (by decide) (by decide) rfl ?_
          refine q_goto (tgt := 11) C dX10_isTaken_49 (by decide) ?_
          exact hT1 _ _ _ _ _ h
theorem sp_X10_isTaken {d : Nat} {sh : List qSh} {K : Option Value → qMI → qML → qMP → Prop} {a0 : Nat} {x1 : Int32} {x2 : Int32} {I : qMI} {L : qML} {P : qMP} (T1 : Int32 → Int32 → qMI → qML → qMP → Prop) (m1 : Int32 → Int32 → qMI → qML → qMP → Nat) (h0 : vc_X10_isTaken_0 d sh K T1 a0 x1 x2 I L P)
    (h1 : ∀ (x3 : Int32) (x4 : Int32) (I : qMI) (L : qML) (P : qMP), T1 x3 x4 I L P → vc_X10_isTaken_1 d sh K (fun w0 w1 I' L' P' => T1 w0 w1 I' L' P' ∧ m1 w0 w1 I' L' P' < m1 x3 x4 I L P) a0 x1 x2 x3 x4 I L P) : Sq (d + 1) mX10_isTaken sh [.ref a0, .int x1, .int x2] I L P K := by
  refine Sq_of (by decide +kernel) (Nat.le_of_ble_eq_true rfl) (fun X C hk hn => ?_)
  have go : ∀ N : Nat, (∀ (x3 : Int32) (x4 : Int32) (I : qMI) (L : qML) (P : qMP), T1 x3 x4 I L P → m1 x3 x4 I L P < N → qG X 11 [some (.ref a0), some (.int x1), some (.int x2), some (.int x3), some (.int x4)] [] sh I L P 0 0) := by
    intro N
    induction N with
    | zero => exact fun _ _ _ _ _ _ q => absurd q (Nat.not_lt_zero _)
    | succ N ih =>
      exact fun b0 b1 I1 L1 P1 t q => rg_X10_isTaken_1 C hk (fun z0 z1 I2 L2 P2 z => ih z0 z1 I2 L2 P2 z.1 (Nat.lt_of_lt_of_le z.2 (Nat.le_of_lt_succ q))) (h1 b0 b1 I1 L1 P1 t)
  exact rg_X10_isTaken_0 C hk (fun b0 b1 I1 L1 P1 t => (go (m1 b0 b1 I1 L1 P1 + 1)) b0 b1 I1 L1 P1 t (Nat.lt_succ_self _)) h0
/-! BracketDrawsModel.readsNumber(II)V -/
def vc_X10_readsNumber_0 (d : Nat) (sh : List qSh) (K : Option Value → qMI → qML → qMP → Prop) (T1 : Int32 → Int32 → Int32 → qMI → qML → qMP → Prop) (a0 : Nat) (x1 : Int32) (x2 : Int32) (I : qMI) (L : qML) (P : qMP) : Prop :=
  ((shp sh a0).1 = 10) ∧ (T1 (I a0 11) 0 0 I L P)
set_option maxRecDepth 100000 in
set_option maxHeartbeats 4000000 in
theorem rg_X10_readsNumber_0 {X : qCT} {d : Nat} {sh : List qSh} {K : Option Value → qMI → qML → qMP → Prop} {T1 : Int32 → Int32 → Int32 → qMI → qML → qMP → Prop} {a0 : Nat} {x1 : Int32} {x2 : Int32} {I : qMI} {L : qML} {P : qMP} (C : qCB X RX10 cX10_readsNumber 6 (d + 1) 0 0) (hk : qCK X (none) 0 0 (fun v sh' I' L' P' => sh' = sh ∧ K v I' L' P')) (hT1 : ∀ (x3 : Int32) (x4 : Int32) (x5 : Int32) (I : qMI) (L : qML) (P : qMP), T1 x3 x4 x5 I L P → qG X 11 [some (.ref a0), some (.int x1), some (.int x2), some (.int x3), some (.int x4), some (.int x5)] [] sh I L P 0 0) (h : vc_X10_readsNumber_0 d sh K T1 a0 x1 x2 I L P) : qG X 0 [some (.ref a0), some (.int x1), some (.int x2), none, none, none] [] sh I L P 0 0 := by
  unfold vc_X10_readsNumber_0 at h
  refine q_aload_n C dX10_readsNumber_0 rfl ?_
  have s1 := h.1
  replace h := h.2
  refine q_getI C fl_RX10_140 rfl s1 dX10_readsNumber_1 ?_
  refine q_istore_n (lo1 := [some (.ref a0), some (.int x1), some (.int x2), some (.int (I a0 11)), none, none]) C dX10_readsNumber_4 (by decide) rfl ?_
  refine q_iconst (v := 0) C dX10_readsNumber_5 (by decide) ?_
  refine q_istore (lo1 := [some (.ref a0), some (.int x1), some (.int x2), some (.int (I a0 11)), some (.int 0), none]) C dX10_readsNumber_6 (by decide) rfl ?_
  refine q_iconst (v := 0) C dX10_readsNumber_8 (by decide) ?_
  refine q_istore (lo1 := [some (.ref a0), some (.int x1), some (.int x2), some (.int (I a0 11)), some (.int 0), some (.int 0)]) C dX10_readsNumber_9 (by decide) rfl ?_
  exact hT1 _ _ _ _ _ _ h
def vc_X10_readsNumber_1 (d : Nat) (sh : List qSh) (K : Option Value → qMI → qML → qMP → Prop) (T1 : Int32 → Int32 → Int32 → qMI → qML → qMP → Prop) (a0 : Nat) (x1 : Int32) (x2 : Int32) (x3 : Int32) (x4 : Int32) (x5 : Int32) (I : qMI) (L : qML) (P : qMP) : Prop :=
  ((¬ x1 = 3) → (((1 ≤ x5) → (((shp sh a0).1 = 10) ∧ ((((I a0 11) = x3) → (∀ I5 : qMI, I5 = uI I a0 12 x3 → (((shp sh (P a0 9)).1 = 20) ∧ ((vp_in x1 (shp sh (P a0 9)).2) ∧ (∀ I8 : qMI, I8 = uI I5 (P a0 9) (Int32.toNatClampNeg x1) x4 → (K none I8 L P)))))) ∧ ((¬ (I a0 11) = x3) → (Sq d mX10_mostOf sh [.int x1] I L P (KI fun r9 I10 L11 P12 => ((r9 < x4) → (∀ I14 : qMI, I14 = uI I10 a0 12 x3 → (((shp sh (P12 a0 9)).1 = 20) ∧ ((vp_in x1 (shp sh (P12 a0 9)).2) ∧ (∀ I17 : qMI, I17 = uI I14 (P12 a0 9) (Int32.toNatClampNeg x1) x4 → (K none I17 L11 P12)))))) ∧ ((¬ r9 < x4) → (((¬ x1 = 2) → (((shp sh (P12 a0 9)).1 = 20) ∧ ((vp_in x1 (shp sh (P12 a0 9)).2) ∧ (∀ I21 : qMI, I21 = uI I10 (P12 a0 9) (Int32.toNatClampNeg x1) x4 → (K none I21 L11 P12))))) ∧ ((x1 = 2) → (Sq d mX10_isTaken sh [.ref a0, .int x4, .int x2] I10 L11 P12 (KI fun r22 I23 L24 P25 => ((r22 = 0) → (((shp sh (P25 a0 9)).1 = 20) ∧ ((vp_in x1 (shp sh (P25 a0 9)).2) ∧ (∀ I29 : qMI, I29 = uI I23 (P25 a0 9) (Int32.toNatClampNeg x1) x4 → (K none I29 L24 P25))))) ∧ ((¬ r22 = 0) → (∀ I30 : qMI, I30 = uI I23 a0 12 x3 → (((shp sh (P25 a0 9)).1 = 20) ∧ ((vp_in x1 (shp sh (P25 a0 9)).2) ∧ (∀ I33 : qMI, I33 = uI I30 (P25 a0 9) (Int32.toNatClampNeg x1) x4 → (K none I33 L24 P25))))))))))))))))) ∧ ((¬ 1 ≤ x5) → (((shp sh a0).1 = 10) ∧ (Sq d mX10_isFigure sh [.ref a0] I L P (KI fun r35 I36 L37 P38 => ((r35 = 0) → ((((I36 a0 11) = x3) → (∀ I41 : qMI, I41 = uI I36 a0 12 x3 → (((shp sh (P38 a0 9)).1 = 20) ∧ ((vp_in x1 (shp sh (P38 a0 9)).2) ∧ (∀ I44 : qMI, I44 = uI I41 (P38 a0 9) (Int32.toNatClampNeg x1) x4 → (K none I44 L37 P38)))))) ∧ ((¬ (I36 a0 11) = x3) → (Sq d mX10_mostOf sh [.int x1] I36 L37 P38 (KI fun r45 I46 L47 P48 => ((r45 < x4) → (∀ I50 : qMI, I50 = uI I46 a0 12 x3 → (((shp sh (P48 a0 9)).1 = 20) ∧ ((vp_in x1 (shp sh (P48 a0 9)).2) ∧ (∀ I53 : qMI, I53 = uI I50 (P48 a0 9) (Int32.toNatClampNeg x1) x4 → (K none I53 L47 P48)))))) ∧ ((¬ r45 < x4) → (((¬ x1 = 2) → (((shp sh (P48 a0 9)).1 = 20) ∧ ((vp_in x1 (shp sh (P48 a0 9)).2) ∧ (∀ I57 : qMI, I57 = uI I46 (P48 a0 9) (Int32.toNatClampNeg x1) x4 → (K none I57 L47 P48))))) ∧ ((x1 = 2) → (Sq d mX10_isTaken sh [.ref a0, .int x4, .int x2] I46 L47 P48 (KI fun r58 I59 L60 P61 => ((r58 = 0) → (((shp sh (P61 a0 9)).1 = 20) ∧ ((vp_in x1 (shp sh (P61 a0 9)).2) ∧ (∀ I65 : qMI, I65 = uI I59 (P61 a0 9) (Int32.toNatClampNeg x1) x4 → (K none I65 L60 P61))))) ∧ ((¬ r58 = 0) → (∀ I66 : qMI, I66 = uI I59 a0 12 x3 → (((shp sh (P61 a0 9)).1 = 20) ∧ ((vp_in x1 (shp sh (P61 a0 9)).2) ∧ (∀ I69 : qMI, I69 = uI I66 (P61 a0 9) (Int32.toNatClampNeg x1) x4 → (K none I69 L60 P61)))))))))))))))) ∧ ((¬ r35 = 0) → (Sq d mX10_here sh [.ref a0] I36 L37 P38 (KI fun r70 I71 L72 P73 => ∀ I74 : qMI, I74 = uI I71 a0 11 ((I71 a0 11) + 1) → (T1 x3 (((10 * x4) + r70) - 48) (x5 + 1) I74 L72 P73)))))))))) ∧ ((x1 = 3) → (((2 ≤ x5) → (((shp sh a0).1 = 10) ∧ ((((I a0 11) = x3) → (∀ I78 : qMI, I78 = uI I a0 12 x3 → (((shp sh (P a0 9)).1 = 20) ∧ ((vp_in x1 (shp sh (P a0 9)).2) ∧ (∀ I81 : qMI, I81 = uI I78 (P a0 9) (Int32.toNatClampNeg x1) x4 → (K none I81 L P)))))) ∧ ((¬ (I a0 11) = x3) → (Sq d mX10_mostOf sh [.int x1] I L P (KI fun r82 I83 L84 P85 => ((r82 < x4) → (∀ I87 : qMI, I87 = uI I83 a0 12 x3 → (((shp sh (P85 a0 9)).1 = 20) ∧ ((vp_in x1 (shp sh (P85 a0 9)).2) ∧ (∀ I90 : qMI, I90 = uI I87 (P85 a0 9) (Int32.toNatClampNeg x1) x4 → (K none I90 L84 P85)))))) ∧ ((¬ r82 < x4) → (((¬ x1 = 2) → (((shp sh (P85 a0 9)).1 = 20) ∧ ((vp_in x1 (shp sh (P85 a0 9)).2) ∧ (∀ I94 : qMI, I94 = uI I83 (P85 a0 9) (Int32.toNatClampNeg x1) x4 → (K none I94 L84 P85))))) ∧ ((x1 = 2) → (Sq d mX10_isTaken sh [.ref a0, .int x4, .int x2] I83 L84 P85 (KI fun r95 I96 L97 P98 => ((r95 = 0) → (((shp sh (P98 a0 9)).1 = 20) ∧ ((vp_in x1 (shp sh (P98 a0 9)).2) ∧ (∀ I102 : qMI, I102 = uI I96 (P98 a0 9) (Int32.toNatClampNeg x1) x4 → (K none I102 L97 P98))))) ∧ ((¬ r95 = 0) → (∀ I103 : qMI, I103 = uI I96 a0 12 x3 → (((shp sh (P98 a0 9)).1 = 20) ∧ ((vp_in x1 (shp sh (P98 a0 9)).2) ∧ (∀ I106 : qMI, I106 = uI I103 (P98 a0 9) (Int32.toNatClampNeg x1) x4 → (K none I106 L97 P98))))))))))))))))) ∧ ((¬ 2 ≤ x5) → (((shp sh a0).1 = 10) ∧ (Sq d mX10_isFigure sh [.ref a0] I L P (KI fun r108 I109 L110 P111 => ((r108 = 0) → ((((I109 a0 11) = x3) → (∀ I114 : qMI, I114 = uI I109 a0 12 x3 → (((shp sh (P111 a0 9)).1 = 20) ∧ ((vp_in x1 (shp sh (P111 a0 9)).2) ∧ (∀ I117 : qMI, I117 = uI I114 (P111 a0 9) (Int32.toNatClampNeg x1) x4 → (K none I117 L110 P111)))))) ∧ ((¬ (I109 a0 11) = x3) → (Sq d mX10_mostOf sh [.int x1] I109 L110 P111 (KI fun r118 I119 L120 P121 => ((r118 < x4) → (∀ I123 : qMI, I123 = uI I119 a0 12 x3 → (((shp sh (P121 a0 9)).1 = 20) ∧ ((vp_in x1 (shp sh (P121 a0 9)).2) ∧ (∀ I126 : qMI, I126 = uI I123 (P121 a0 9) (Int32.toNatClampNeg x1) x4 → (K none I126 L120 P121)))))) ∧ ((¬ r118 < x4) → (((¬ x1 = 2) → (((shp sh (P121 a0 9)).1 = 20) ∧ ((vp_in x1 (shp sh (P121 a0 9)).2) ∧ (∀ I130 : qMI, I130 = uI I119 (P121 a0 9) (Int32.toNatClampNeg x1) x4 → (K none I130 L120 P121))))) ∧ ((x1 = 2) → (Sq d mX10_isTaken sh [.ref a0, .int x4, .int x2] I119 L120 P121 (KI fun r131 I132 L133 P134 => ((r131 = 0) → (((shp sh (P134 a0 9)).1 = 20) ∧ ((vp_in x1 (shp sh (P134 a0 9)).2) ∧ (∀ I138 : qMI, I138 = uI I132 (P134 a0 9) (Int32.toNatClampNeg x1) x4 → (K none I138 L133 P134))))) ∧ ((¬ r131 = 0) → (∀ I139 : qMI, I139 = uI I132 a0 12 x3 → (((shp sh (P134 a0 9)).1 = 20) ∧ ((vp_in x1 (shp sh (P134 a0 9)).2) ∧ (∀ I142 : qMI, I142 = uI I139 (P134 a0 9) (Int32.toNatClampNeg x1) x4 → (K none I142 L133 P134)))))))))))))))) ∧ ((¬ r108 = 0) → (Sq d mX10_here sh [.ref a0] I109 L110 P111 (KI fun r143 I144 L145 P146 => ∀ I147 : qMI, I147 = uI I144 a0 11 ((I144 a0 11) + 1) → (T1 x3 (((10 * x4) + r143) - 48) (x5 + 1) I147 L145 P146))))))))))
set_option maxRecDepth 100000 in
set_option maxHeartbeats 4000000 in
theorem rg_X10_readsNumber_1 {X : qCT} {d : Nat} {sh : List qSh} {K : Option Value → qMI → qML → qMP → Prop} {T1 : Int32 → Int32 → Int32 → qMI → qML → qMP → Prop} {a0 : Nat} {x1 : Int32} {x2 : Int32} {x3 : Int32} {x4 : Int32} {x5 : Int32} {I : qMI} {L : qML} {P : qMP} (C : qCB X RX10 cX10_readsNumber 6 (d + 1) 0 0) (hk : qCK X (none) 0 0 (fun v sh' I' L' P' => sh' = sh ∧ K v I' L' P')) (hT1 : ∀ (x3 : Int32) (x4 : Int32) (x5 : Int32) (I : qMI) (L : qML) (P : qMP), T1 x3 x4 x5 I L P → qG X 11 [some (.ref a0), some (.int x1), some (.int x2), some (.int x3), some (.int x4), some (.int x5)] [] sh I L P 0 0) (h : vc_X10_readsNumber_1 d sh K T1 a0 x1 x2 x3 x4 x5 I L P) : qG X 11 [some (.ref a0), some (.int x1), some (.int x2), some (.int x3), some (.int x4), some (.int x5)] [] sh I L P 0 0 := by
  unfold vc_X10_readsNumber_1 at h
  refine q_iload C dX10_readsNumber_11 rfl ?_
  refine q_iload_n C dX10_readsNumber_13 rfl ?_
  refine q_iconst (v := 3) C dX10_readsNumber_14 (by decide) ?_
  refine q_icmp_ne (tgt := 22) C dX10_readsNumber_15 (by decide) (fun c1 => ?_) (fun c1 => ?_)
  · replace h := h.1 c1
    refine q_iconst (v := 1) C dX10_readsNumber_22 (by decide) ?_
    refine q_icmp_ge (tgt := 64) C dX10_readsNumber_23 (by decide) (fun c2 => ?_) (fun c2 => ?_)
    · replace h := h.1 c2
      refine q_aload_n C dX10_readsNumber_64 rfl ?_
      have s3 := h.1
      replace h := h.2
      refine q_getI C fl_RX10_140 rfl s3 dX10_readsNumber_65 ?_
      refine q_iload_n C dX10_readsNumber_68 rfl ?_
      refine q_icmp_eq (tgt := 96) C dX10_readsNumber_69 (by decide) (fun c4 => ?_) (fun c4 => ?_)
      · replace h := h.1 c4
        refine q_aload_n C dX10_readsNumber_96 rfl ?_
        refine q_iload_n C dX10_readsNumber_97 rfl ?_
        refine q_putI C fl_RX10_157 (fun T hT => by cases hT; rfl) rfl s3 dX10_readsNumber_98 (fun I5 eI5 => ?_)
        replace h := h I5 eI5
        refine q_aload_n C dX10_readsNumber_101 rfl ?_
        refine q_getP C fl_RX10_28 rfl s3 dX10_readsNumber_102 ?_
        refine q_iload_n C dX10_readsNumber_105 rfl ?_
        refine q_iload C dX10_readsNumber_106 rfl ?_
        have s6 := h.1
        replace h := h.2
        have s7 := h.1
        replace h := h.2
        refine q_iast C s6 s7 dX10_readsNumber_108 (fun I8 eI8 => ?_)
        replace h := h I8 eI8
        exact q_vret C hk dX10_readsNumber_109 ⟨rfl, h⟩
      · replace h := h.2 c4
        refine q_iload C dX10_readsNumber_72 rfl ?_
        refine q_iload_n C dX10_readsNumber_74 rfl ?_
        refine q_cSi (as := [.int x1]) (st := [.int x4]) C ms_X10_mostOf ml_RX10_118 dX10_readsNumber_75 rfl rfl (Nat.le_of_ble_eq_true rfl) ⟨Nat.le_refl _, Nat.le_refl _⟩ h (fun r9 I10 L11 P12 h => ?_)
        refine q_icmp_gt (tgt := 96) C dX10_readsNumber_78 (by decide) (fun c13 => ?_) (fun c13 => ?_)
        · replace h := h.1 c13
          refine q_aload_n C dX10_readsNumber_96 rfl ?_
          refine q_iload_n C dX10_readsNumber_97 rfl ?_
          refine q_putI C fl_RX10_157 (fun T hT => by cases hT; rfl) rfl s3 dX10_readsNumber_98 (fun I14 eI14 => ?_)
          replace h := h I14 eI14
          refine q_aload_n C dX10_readsNumber_101 rfl ?_
          refine q_getP C fl_RX10_28 rfl s3 dX10_readsNumber_102 ?_
          refine q_iload_n C dX10_readsNumber_105 rfl ?_
          refine q_iload C dX10_readsNumber_106 rfl ?_
          have s15 := h.1
          replace h := h.2
          have s16 := h.1
          replace h := h.2
          refine q_iast C s15 s16 dX10_readsNumber_108 (fun I17 eI17 => ?_)
          replace h := h I17 eI17
          exact q_vret C hk dX10_readsNumber_109 ⟨rfl, h⟩
        · replace h := h.2 c13
          refine q_iload_n C dX10_readsNumber_81 rfl ?_
          refine q_iconst (v := 2) C dX10_readsNumber_82 (by decide) ?_
          refine q_icmp_ne (tgt := 101) C dX10_readsNumber_83 (by decide) (fun c18 => ?_) (fun c18 => ?_)
          · replace h := h.1 c18
            refine q_aload_n C dX10_readsNumber_101 rfl ?_
            refine q_getP C fl_RX10_28 rfl s3 dX10_readsNumber_102 ?_
            refine q_iload_n C dX10_readsNumber_105 rfl ?_
            refine q_iload C dX10_readsNumber_106 rfl ?_
            have s19 := h.1
            replace h := h.2
            have s20 := h.1
            replace h := h.2
            refine q_iast C s19 s20 dX10_readsNumber_108 (fun I21 eI21 => ?_)
            replace h := h I21 eI21
            exact q_vret C hk dX10_readsNumber_109 ⟨rfl, h⟩
          · replace h := h.2 c18
            refine q_aload_n C dX10_readsNumber_86 rfl ?_
            refine q_iload C dX10_readsNumber_87 rfl ?_
            refine q_iload_n C dX10_readsNumber_89 rfl ?_
            refine q_cVi (as := [.int x4, .int x2]) (st := []) (r := a0) C mv_X10_isTaken ml_RX10_154 dX10_readsNumber_90 rfl s3 rfl (Nat.le_of_ble_eq_true rfl) ⟨Nat.le_refl _, Nat.le_refl _⟩ h (fun r22 I23 L24 P25 h => ?_)
            refine q_if_eq (tgt := 101) C dX10_readsNumber_93 (by decide) (fun c26 => ?_) (fun c26 => ?_)
            · replace h := h.1 c26
              refine q_aload_n C dX10_readsNumber_101 rfl ?_
              refine q_getP C fl_RX10_28 rfl s3 dX10_readsNumber_102 ?_
              refine q_iload_n C dX10_readsNumber_105 rfl ?_
              refine q_iload C dX10_readsNumber_106 rfl ?_
              have s27 := h.1
              replace h := h.2
              have s28 := h.1
              replace h := h.2
              refine q_iast C s27 s28 dX10_readsNumber_108 (fun I29 eI29 => ?_)
              replace h := h I29 eI29
              exact q_vret C hk dX10_readsNumber_109 ⟨rfl, h⟩
            · replace h := h.2 c26
              refine q_aload_n C dX10_readsNumber_96 rfl ?_
              refine q_iload_n C dX10_readsNumber_97 rfl ?_
              refine q_putI C fl_RX10_157 (fun T hT => by cases hT; rfl) rfl s3 dX10_readsNumber_98 (fun I30 eI30 => ?_)
              replace h := h I30 eI30
              refine q_aload_n C dX10_readsNumber_101 rfl ?_
              refine q_getP C fl_RX10_28 rfl s3 dX10_readsNumber_102 ?_
              refine q_iload_n C dX10_readsNumber_105 rfl ?_
              refine q_iload C dX10_readsNumber_106 rfl ?_
              have s31 := h.1
              replace h := h.2
              have s32 := h.1
              replace h := h.2
              refine q_iast C s31 s32 dX10_readsNumber_108 (fun I33 eI33 => ?_)
              replace h := h I33 eI33
              exact q_vret C hk dX10_readsNumber_109 ⟨rfl, h⟩
    · replace h := h.2 c2
      refine q_aload_n C dX10_readsNumber_26 rfl ?_
      have s34 := h.1
      replace h := h.2
      refine q_cVi (as := []) (st := []) (r := a0) C mv_X10_isFigure ml_RX10_150 dX10_readsNumber_27 rfl s34 rfl (Nat.le_of_ble_eq_true rfl) ⟨Nat.le_refl _, Nat.le_refl _⟩ h (fun r35 I36 L37 P38 h => ?_)
      refine q_if_eq (tgt := 64) C dX10_readsNumber_30 (by decide) (fun c39 => ?_) (fun c39 => ?_)
      · replace h := h.1 c39
        refine q_aload_n C dX10_readsNumber_64 rfl ?_
        refine q_getI C fl_RX10_140 rfl s34 dX10_readsNumber_65 ?_
        refine q_iload_n C dX10_readsNumber_68 rfl ?_
        refine q_icmp_eq (tgt := 96) C dX10_readsNumber_69 (by decide) (fun c40 => ?_) (fun c40 => ?_)
        · replace h := h.1 c40
          refine q_aload_n C dX10_readsNumber_96 rfl ?_
          refine q_iload_n C dX10_readsNumber_97 rfl ?_
          refine q_putI C fl_RX10_157 (fun T hT => by cases hT; rfl) rfl s34 dX10_readsNumber_98 (fun I41 eI41 => ?_)
          replace h := h I41 eI41
          refine q_aload_n C dX10_readsNumber_101 rfl ?_
          refine q_getP C fl_RX10_28 rfl s34 dX10_readsNumber_102 ?_
          refine q_iload_n C dX10_readsNumber_105 rfl ?_
          refine q_iload C dX10_readsNumber_106 rfl ?_
          have s42 := h.1
          replace h := h.2
          have s43 := h.1
          replace h := h.2
          refine q_iast C s42 s43 dX10_readsNumber_108 (fun I44 eI44 => ?_)
          replace h := h I44 eI44
          exact q_vret C hk dX10_readsNumber_109 ⟨rfl, h⟩
        · replace h := h.2 c40
          refine q_iload C dX10_readsNumber_72 rfl ?_
          refine q_iload_n C dX10_readsNumber_74 rfl ?_
          refine q_cSi (as := [.int x1]) (st := [.int x4]) C ms_X10_mostOf ml_RX10_118 dX10_readsNumber_75 rfl rfl (Nat.le_of_ble_eq_true rfl) ⟨Nat.le_refl _, Nat.le_refl _⟩ h (fun r45 I46 L47 P48 h => ?_)
          refine q_icmp_gt (tgt := 96) C dX10_readsNumber_78 (by decide) (fun c49 => ?_) (fun c49 => ?_)
          · replace h := h.1 c49
            refine q_aload_n C dX10_readsNumber_96 rfl ?_
            refine q_iload_n C dX10_readsNumber_97 rfl ?_
            refine q_putI C fl_RX10_157 (fun T hT => by cases hT; rfl) rfl s34 dX10_readsNumber_98 (fun I50 eI50 => ?_)
            replace h := h I50 eI50
            refine q_aload_n C dX10_readsNumber_101 rfl ?_
            refine q_getP C fl_RX10_28 rfl s34 dX10_readsNumber_102 ?_
            refine q_iload_n C dX10_readsNumber_105 rfl ?_
            refine q_iload C dX10_readsNumber_106 rfl ?_
            have s51 := h.1
            replace h := h.2
            have s52 := h.1
            replace h := h.2
            refine q_iast C s51 s52 dX10_readsNumber_108 (fun I53 eI53 => ?_)
            replace h := h I53 eI53
            exact q_vret C hk dX10_readsNumber_109 ⟨rfl, h⟩
          · replace h := h.2 c49
            refine q_iload_n C dX10_readsNumber_81 rfl ?_
            refine q_iconst (v := 2) C dX10_readsNumber_82 (by decide) ?_
            refine q_icmp_ne (tgt := 101) C dX10_readsNumber_83 (by decide) (fun c54 => ?_) (fun c54 => ?_)
            · replace h := h.1 c54
              refine q_aload_n C dX10_readsNumber_101 rfl ?_
              refine q_getP C fl_RX10_28 rfl s34 dX10_readsNumber_102 ?_
              refine q_iload_n C dX10_readsNumber_105 rfl ?_
              refine q_iload C dX10_readsNumber_106 rfl ?_
              have s55 := h.1
              replace h := h.2
              have s56 := h.1
              replace h := h.2
              refine q_iast C s55 s56 dX10_readsNumber_108 (fun I57 eI57 => ?_)
              replace h := h I57 eI57
              exact q_vret C hk dX10_readsNumber_109 ⟨rfl, h⟩
            · replace h := h.2 c54
              refine q_aload_n C dX10_readsNumber_86 rfl ?_
              refine q_iload C dX10_readsNumber_87 rfl ?_
              refine q_iload_n C dX10_readsNumber_89 rfl ?_
              refine q_cVi (as := [.int x4, .int x2]) (st := []) (r := a0) C mv_X10_isTaken ml_RX10_154 dX10_readsNumber_90 rfl s34 rfl (Nat.le_of_ble_eq_true rfl) ⟨Nat.le_refl _, Nat.le_refl _⟩ h (fun r58 I59 L60 P61 h => ?_)
              refine q_if_eq (tgt := 101) C dX10_readsNumber_93 (by decide) (fun c62 => ?_) (fun c62 => ?_)
              · replace h := h.1 c62
                refine q_aload_n C dX10_readsNumber_101 rfl ?_
                refine q_getP C fl_RX10_28 rfl s34 dX10_readsNumber_102 ?_
                refine q_iload_n C dX10_readsNumber_105 rfl ?_
                refine q_iload C dX10_readsNumber_106 rfl ?_
                have s63 := h.1
                replace h := h.2
                have s64 := h.1
                replace h := h.2
                refine q_iast C s63 s64 dX10_readsNumber_108 (fun I65 eI65 => ?_)
                replace h := h I65 eI65
                exact q_vret C hk dX10_readsNumber_109 ⟨rfl, h⟩
              · replace h := h.2 c62
                refine q_aload_n C dX10_readsNumber_96 rfl ?_
                refine q_iload_n C dX10_readsNumber_97 rfl ?_
                refine q_putI C fl_RX10_157 (fun T hT => by cases hT; rfl) rfl s34 dX10_readsNumber_98 (fun I66 eI66 => ?_)
                replace h := h I66 eI66
                refine q_aload_n C dX10_readsNumber_101 rfl ?_
                refine q_getP C fl_RX10_28 rfl s34 dX10_readsNumber_102 ?_
                refine q_iload_n C dX10_readsNumber_105 rfl ?_
                refine q_iload C dX10_readsNumber_106 rfl ?_
                have s67 := h.1
                replace h := h.2
                have s68 := h.1
                replace h := h.2
                refine q_iast C s67 s68 dX10_readsNumber_108 (fun I69 eI69 => ?_)
                replace h := h I69 eI69
                exact q_vret C hk dX10_readsNumber_109 ⟨rfl, h⟩
      · replace h := h.2 c39
        refine q_bipush (v := 10) C dX10_readsNumber_33 (by decide) ?_
        refine q_iload C dX10_readsNumber_35 rfl ?_
        refine q_imul C dX10_readsNumber_37 ?_
        refine q_aload_n C dX10_readsNumber_38 rfl ?_
        refine q_cVi (as := []) (st := [.int (10 * x4)]) (r := a0) C mv_X10_here ml_RX10_143 dX10_readsNumber_39 rfl s34 rfl (Nat.le_of_ble_eq_true rfl) ⟨Nat.le_refl _, Nat.le_refl _⟩ h (fun r70 I71 L72 P73 h => ?_)
        refine q_iadd C dX10_readsNumber_42 ?_
        refine q_bipush (v := 48) C dX10_readsNumber_43 (by decide) ?_
        refine q_isub C dX10_readsNumber_45 ?_
        refine q_istore (lo1 := [some (.ref a0), some (.int x1), some (.int x2), some (.int x3), some (.int (((10 * x4) + r70) - 48)), some (.int x5)]) C dX10_readsNumber_46 (by decide) rfl ?_
        refine q_aload_n C dX10_readsNumber_48 rfl ?_
        refine q_dup C dX10_readsNumber_49 rfl ?_
        refine q_getI C fl_RX10_140 rfl s34 dX10_readsNumber_50 ?_
        refine q_iconst (v := 1) C dX10_readsNumber_53 (by decide) ?_
        refine q_iadd C dX10_readsNumber_54 ?_
        refine q_putI C fl_RX10_140 (fun T hT => by cases hT; rfl) rfl s34 dX10_readsNumber_55 (fun I74 eI74 => ?_)
        replace h := h I74 eI74
        refine q_iinc (w := 1) (lo1 := [some (.ref a0), some (.int x1), some (.int x2), some (.int x3), some (.int (((10 * x4) + r70) - 48)), some (.int (x5 + 1))]) C dX10_readsNumber_58 rfl (by decide) (by decide) rfl ?_
        refine q_goto (tgt := 11) C dX10_readsNumber_61 (by decide) ?_
        exact hT1 _ _ _ _ _ _ h
  · replace h := h.2 c1
    refine q_iconst (v := 2) C dX10_readsNumber_18 (by decide) ?_
    refine q_goto (tgt := 23) C dX10_readsNumber_19 (by decide) ?_
    refine q_icmp_ge (tgt := 64) C dX10_readsNumber_23 (by decide) (fun c75 => ?_) (fun c75 => ?_)
    · replace h := h.1 c75
      refine q_aload_n C dX10_readsNumber_64 rfl ?_
      have s76 := h.1
      replace h := h.2
      refine q_getI C fl_RX10_140 rfl s76 dX10_readsNumber_65 ?_
      refine q_iload_n C dX10_readsNumber_68 rfl ?_
      refine q_icmp_eq (tgt := 96) C dX10_readsNumber_69 (by decide) (fun c77 => ?_) (fun c77 => ?_)
      · replace h := h.1 c77
        refine q_aload_n C dX10_readsNumber_96 rfl ?_
        refine q_iload_n C dX10_readsNumber_97 rfl ?_
        refine q_putI C fl_RX10_157 (fun T hT => by cases hT; rfl) rfl s76 dX10_readsNumber_98 (fun I78 eI78 => ?_)
        replace h := h I78 eI78
        refine q_aload_n C dX10_readsNumber_101 rfl ?_
        refine q_getP C fl_RX10_28 rfl s76 dX10_readsNumber_102 ?_
        refine q_iload_n C dX10_readsNumber_105 rfl ?_
        refine q_iload C dX10_readsNumber_106 rfl ?_
        have s79 := h.1
        replace h := h.2
        have s80 := h.1
        replace h := h.2
        refine q_iast C s79 s80 dX10_readsNumber_108 (fun I81 eI81 => ?_)
        replace h := h I81 eI81
        exact q_vret C hk dX10_readsNumber_109 ⟨rfl, h⟩
      · replace h := h.2 c77
        refine q_iload C dX10_readsNumber_72 rfl ?_
        refine q_iload_n C dX10_readsNumber_74 rfl ?_
        refine q_cSi (as := [.int x1]) (st := [.int x4]) C ms_X10_mostOf ml_RX10_118 dX10_readsNumber_75 rfl rfl (Nat.le_of_ble_eq_true rfl) ⟨Nat.le_refl _, Nat.le_refl _⟩ h (fun r82 I83 L84 P85 h => ?_)
        refine q_icmp_gt (tgt := 96) C dX10_readsNumber_78 (by decide) (fun c86 => ?_) (fun c86 => ?_)
        · replace h := h.1 c86
          refine q_aload_n C dX10_readsNumber_96 rfl ?_
          refine q_iload_n C dX10_readsNumber_97 rfl ?_
          refine q_putI C fl_RX10_157 (fun T hT => by cases hT; rfl) rfl s76 dX10_readsNumber_98 (fun I87 eI87 => ?_)
          replace h := h I87 eI87
          refine q_aload_n C dX10_readsNumber_101 rfl ?_
          refine q_getP C fl_RX10_28 rfl s76 dX10_readsNumber_102 ?_
          refine q_iload_n C dX10_readsNumber_105 rfl ?_
          refine q_iload C dX10_readsNumber_106 rfl ?_
          have s88 := h.1
          replace h := h.2
          have s89 := h.1
          replace h := h.2
          refine q_iast C s88 s89 dX10_readsNumber_108 (fun I90 eI90 => ?_)
          replace h := h I90 eI90
          exact q_vret C hk dX10_readsNumber_109 ⟨rfl, h⟩
        · replace h := h.2 c86
          refine q_iload_n C dX10_readsNumber_81 rfl ?_
          refine q_iconst (v := 2) C dX10_readsNumber_82 (by decide) ?_
          refine q_icmp_ne (tgt := 101) C dX10_readsNumber_83 (by decide) (fun c91 => ?_) (fun c91 => ?_)
          · replace h := h.1 c91
            refine q_aload_n C dX10_readsNumber_101 rfl ?_
            refine q_getP C fl_RX10_28 rfl s76 dX10_readsNumber_102 ?_
            refine q_iload_n C dX10_readsNumber_105 rfl ?_
            refine q_iload C dX10_readsNumber_106 rfl ?_
            have s92 := h.1
            replace h := h.2
            have s93 := h.1
            replace h := h.2
            refine q_iast C s92 s93 dX10_readsNumber_108 (fun I94 eI94 => ?_)
            replace h := h I94 eI94
            exact q_vret C hk dX10_readsNumber_109 ⟨rfl, h⟩
          · replace h := h.2 c91
            refine q_aload_n C dX10_readsNumber_86 rfl ?_
            refine q_iload C dX10_readsNumber_87 rfl ?_
            refine q_iload_n C dX10_readsNumber_89 rfl ?_
            refine q_cVi (as := [.int x4, .int x2]) (st := []) (r := a0) C mv_X10_isTaken ml_RX10_154 dX10_readsNumber_90 rfl s76 rfl (Nat.le_of_ble_eq_true rfl) ⟨Nat.le_refl _, Nat.le_refl _⟩ h (fun r95 I96 L97 P98 h => ?_)
            refine q_if_eq (tgt := 101) C dX10_readsNumber_93 (by decide) (fun c99 => ?_) (fun c99 => ?_)
            · replace h := h.1 c99
              refine q_aload_n C dX10_readsNumber_101 rfl ?_
              refine q_getP C fl_RX10_28 rfl s76 dX10_readsNumber_102 ?_
              refine q_iload_n C dX10_readsNumber_105 rfl ?_
              refine q_iload C dX10_readsNumber_106 rfl ?_
              have s100 := h.1
              replace h := h.2
              have s101 := h.1
              replace h := h.2
              refine q_iast C s100 s101 dX10_readsNumber_108 (fun I102 eI102 => ?_)
              replace h := h I102 eI102
              exact q_vret C hk dX10_readsNumber_109 ⟨rfl, h⟩
            · replace h := h.2 c99
              refine q_aload_n C dX10_readsNumber_96 rfl ?_
              refine q_iload_n C dX10_readsNumber_97 rfl ?_
              refine q_putI C fl_RX10_157 (fun T hT => by cases hT; rfl) rfl s76 dX10_readsNumber_98 (fun I103 eI103 => ?_)
              replace h := h I103 eI103
              refine q_aload_n C dX10_readsNumber_101 rfl ?_
              refine q_getP C fl_RX10_28 rfl s76 dX10_readsNumber_102 ?_
              refine q_iload_n C dX10_readsNumber_105 rfl ?_
              refine q_iload C dX10_readsNumber_106 rfl ?_
              have s104 := h.1
              replace h := h.2
              have s105 := h.1
              replace h := h.2
              refine q_iast C s104 s105 dX10_readsNumber_108 (fun I106 eI106 => ?_)
              replace h := h I106 eI106
              exact q_vret C hk dX10_readsNumber_109 ⟨rfl, h⟩
    · replace h := h.2 c75
      refine q_aload_n C dX10_readsNumber_26 rfl ?_
      have s107 := h.1
      replace h := h.2
      refine q_cVi (as := []) (st := []) (r := a0) C mv_X10_isFigure ml_RX10_150 dX10_readsNumber_27 rfl s107 rfl (Nat.le_of_ble_eq_true rfl) ⟨Nat.le_refl _, Nat.le_refl _⟩ h (fun r108 I109 L110 P111 h => ?_)
      refine q_if_eq (tgt := 64) C dX10_readsNumber_30 (by decide) (fun c112 => ?_) (fun c112 => ?_)
      · replace h := h.1 c112
        refine q_aload_n C dX10_readsNumber_64 rfl ?_
        refine q_getI C fl_RX10_140 rfl s107 dX10_readsNumber_65 ?_
        refine q_iload_n C dX10_readsNumber_68 rfl ?_
        refine q_icmp_eq (tgt := 96) C dX10_readsNumber_69 (by decide) (fun c113 => ?_) (fun c113 => ?_)
        · replace h := h.1 c113
          refine q_aload_n C dX10_readsNumber_96 rfl ?_
          refine q_iload_n C dX10_readsNumber_97 rfl ?_
          refine q_putI C fl_RX10_157 (fun T hT => by cases hT; rfl) rfl s107 dX10_readsNumber_98 (fun I114 eI114 => ?_)
          replace h := h I114 eI114
          refine q_aload_n C dX10_readsNumber_101 rfl ?_
          refine q_getP C fl_RX10_28 rfl s107 dX10_readsNumber_102 ?_
          refine q_iload_n C dX10_readsNumber_105 rfl ?_
          refine q_iload C dX10_readsNumber_106 rfl ?_
          have s115 := h.1
          replace h := h.2
          have s116 := h.1
          replace h := h.2
          refine q_iast C s115 s116 dX10_readsNumber_108 (fun I117 eI117 => ?_)
          replace h := h I117 eI117
          exact q_vret C hk dX10_readsNumber_109 ⟨rfl, h⟩
        · replace h := h.2 c113
          refine q_iload C dX10_readsNumber_72 rfl ?_
          refine q_iload_n C dX10_readsNumber_74 rfl ?_
          refine q_cSi (as := [.int x1]) (st := [.int x4]) C ms_X10_mostOf ml_RX10_118 dX10_readsNumber_75 rfl rfl (Nat.le_of_ble_eq_true rfl) ⟨Nat.le_refl _, Nat.le_refl _⟩ h (fun r118 I119 L120 P121 h => ?_)
          refine q_icmp_gt (tgt := 96) C dX10_readsNumber_78 (by decide) (fun c122 => ?_) (fun c122 => ?_)
          · replace h := h.1 c122
            refine q_aload_n C dX10_readsNumber_96 rfl ?_
            refine q_iload_n C dX10_readsNumber_97 rfl ?_
            refine q_putI C fl_RX10_157 (fun T hT => by cases hT; rfl) rfl s107 dX10_readsNumber_98 (fun I123 eI123 => ?_)
            replace h := h I123 eI123
            refine q_aload_n C dX10_readsNumber_101 rfl ?_
            refine q_getP C fl_RX10_28 rfl s107 dX10_readsNumber_102 ?_
            refine q_iload_n C dX10_readsNumber_105 rfl ?_
            refine q_iload C dX10_readsNumber_106 rfl ?_
            have s124 := h.1
            replace h := h.2
            have s125 := h.1
            replace h := h.2
            refine q_iast C s124 s125 dX10_readsNumber_108 (fun I126 eI126 => ?_)
            replace h := h I126 eI126
            exact q_vret C hk dX10_readsNumber_109 ⟨rfl, h⟩
          · replace h := h.2 c122
            refine q_iload_n C dX10_readsNumber_81 rfl ?_
            refine q_iconst (v := 2) C dX10_readsNumber_82 (by decide) ?_
            refine q_icmp_ne (tgt := 101) C dX10_readsNumber_83 (by decide) (fun c127 => ?_) (fun c127 => ?_)
            · replace h := h.1 c127
              refine q_aload_n C dX10_readsNumber_101 rfl ?_
              refine q_getP C fl_RX10_28 rfl s107 dX10_readsNumber_102 ?_
              refine q_iload_n C dX10_readsNumber_105 rfl ?_
              refine q_iload C dX10_readsNumber_106 rfl ?_
              have s128 := h.1
              replace h := h.2
              have s129 := h.1
              replace h := h.2
              refine q_iast C s128 s129 dX10_readsNumber_108 (fun I130 eI130 => ?_)
              replace h := h I130 eI130
              exact q_vret C hk dX10_readsNumber_109 ⟨rfl, h⟩
            · replace h := h.2 c127
              refine q_aload_n C dX10_readsNumber_86 rfl ?_
              refine q_iload C dX10_readsNumber_87 rfl ?_
              refine q_iload_n C dX10_readsNumber_89 rfl ?_
              refine q_cVi (as := [.int x4, .int x2]) (st := []) (r := a0) C mv_X10_isTaken ml_RX10_154 dX10_readsNumber_90 rfl s107 rfl (Nat.le_of_ble_eq_true rfl) ⟨Nat.le_refl _, Nat.le_refl _⟩ h (fun r131 I132 L133 P134 h => ?_)
              refine q_if_eq (tgt := 101) C dX10_readsNumber_93 (by decide) (fun c135 => ?_) (fun c135 => ?_)
              · replace h := h.1 c135
                refine q_aload_n C dX10_readsNumber_101 rfl ?_
                refine q_getP C fl_RX10_28 rfl s107 dX10_readsNumber_102 ?_
                refine q_iload_n C dX10_readsNumber_105 rfl ?_
                refine q_iload C dX10_readsNumber_106 rfl ?_
                have s136 := h.1
                replace h := h.2
                have s137 := h.1
                replace h := h.2
                refine q_iast C s136 s137 dX10_readsNumber_108 (fun I138 eI138 => ?_)
                replace h := h I138 eI138
                exact q_vret C hk dX10_readsNumber_109 ⟨rfl, h⟩
              · replace h := h.2 c135
                refine q_aload_n C dX10_readsNumber_96 rfl ?_
                refine q_iload_n C dX10_readsNumber_97 rfl ?_
                refine q_putI C fl_RX10_157 (fun T hT => by cases hT; rfl) rfl s107 dX10_readsNumber_98 (fun I139 eI139 => ?_)
                replace h := h I139 eI139
                refine q_aload_n C dX10_readsNumber_101 rfl ?_
                refine q_getP C fl_RX10_28 rfl s107 dX10_readsNumber_102 ?_
                refine q_iload_n C dX10_readsNumber_105 rfl ?_
                refine q_iload C dX10_readsNumber_106 rfl ?_
                have s140 := h.1
                replace h := h.2
                have s141 := h.1
                replace h := h.2
                refine q_iast C s140 s141 dX10_readsNumber_108 (fun I142 eI142 => ?_)
                replace h := h I142 eI142
                exact q_vret C hk dX10_readsNumber_109 ⟨rfl, h⟩
      · replace h := h.2 c112
        refine q_bipush (v := 10) C dX10_readsNumber_33 (by decide) ?_
        refine q_iload C dX10_readsNumber_35 rfl ?_
        refine q_imul C dX10_readsNumber_37 ?_
        refine q_aload_n C dX10_readsNumber_38 rfl ?_
        refine q_cVi (as := []) (st := [.int (10 * x4)]) (r := a0) C mv_X10_here ml_RX10_143 dX10_readsNumber_39 rfl s107 rfl (Nat.le_of_ble_eq_true rfl) ⟨Nat.le_refl _, Nat.le_refl _⟩ h (fun r143 I144 L145 P146 h => ?_)
        refine q_iadd C dX10_readsNumber_42 ?_
        refine q_bipush (v := 48) C dX10_readsNumber_43 (by decide) ?_
        refine q_isub C dX10_readsNumber_45 ?_
        refine q_istore (lo1 := [some (.ref a0), some (.int x1), some (.int x2), some (.int x3), some (.int (((10 * x4) + r143) - 48)), some (.int x5)]) C dX10_readsNumber_46 (by decide) rfl ?_
        refine q_aload_n C dX10_readsNumber_48 rfl ?_
        refine q_dup C dX10_readsNumber_49 rfl ?_
        refine q_getI C fl_RX10_140 rfl s107 dX10_readsNumber_50 ?_
        refine q_iconst (v := 1) C dX10_readsNumber_53 (by decide) ?_
        refine q_iadd C dX10_readsNumber_54 ?_
        refine q_putI C fl_RX10_140 (fun T hT => by cases hT; rfl) rfl s107 dX10_readsNumber_55 (fun I147 eI147 => ?_)
        replace h := h I147 eI147
        refine q_iinc (w := 1) (lo1 := [some (.ref a0), some (.int x1), some (.int x2), some (.int x3), some (.int (((10 * x4) + r143) - 48)), some (.int (x5 + 1))]) C dX10_readsNumber_58 rfl (by decide) (by decide) rfl ?_
        refine q_goto (tgt := 11) C dX10_readsNumber_61 (by decide) ?_
        exact hT1 _ _ _ _ _ _ h
theorem sp_X10_readsNumber {d : Nat} {sh : List qSh} {K : Option Value → qMI → qML → qMP → Prop} {a0 : Nat} {x1 : Int32} {x2 : Int32} {I : qMI} {L : qML} {P : qMP} (T1 : Int32 → Int32 → Int32 → qMI → qML → qMP → Prop) (m1 : Int32 → Int32 → Int32 → qMI → qML → qMP → Nat) (h0 : vc_X10_readsNumber_0 d sh K T1 a0 x1 x2 I L P)
    (h1 : ∀ (x3 : Int32) (x4 : Int32) (x5 : Int32) (I : qMI) (L : qML) (P : qMP), T1 x3 x4 x5 I L P → vc_X10_readsNumber_1 d sh K (fun w0 w1 w2 I' L' P' => T1 w0 w1 w2 I' L' P' ∧ m1 w0 w1 w2 I' L' P' < m1 x3 x4 x5 I L P) a0 x1 x2 x3 x4 x5 I L P) : Sq (d + 1) mX10_readsNumber sh [.ref a0, .int x1, .int x2] I L P K := by
  refine Sq_of (by decide +kernel) (Nat.le_of_ble_eq_true rfl) (fun X C hk hn => ?_)
  have go : ∀ N : Nat, (∀ (x3 : Int32) (x4 : Int32) (x5 : Int32) (I : qMI) (L : qML) (P : qMP), T1 x3 x4 x5 I L P → m1 x3 x4 x5 I L P < N → qG X 11 [some (.ref a0), some (.int x1), some (.int x2), some (.int x3), some (.int x4), some (.int x5)] [] sh I L P 0 0) := by
    intro N
    induction N with
    | zero => exact fun _ _ _ _ _ _ _ q => absurd q (Nat.not_lt_zero _)
    | succ N ih =>
      exact fun b0 b1 b2 I1 L1 P1 t q => rg_X10_readsNumber_1 C hk (fun z0 z1 z2 I2 L2 P2 z => ih z0 z1 z2 I2 L2 P2 z.1 (Nat.lt_of_lt_of_le z.2 (Nat.le_of_lt_succ q))) (h1 b0 b1 b2 I1 L1 P1 t)
  exact rg_X10_readsNumber_0 C hk (fun b0 b1 b2 I1 L1 P1 t => (go (m1 b0 b1 b2 I1 L1 P1 + 1)) b0 b1 b2 I1 L1 P1 t (Nat.lt_succ_self _)) h0
/-! BracketDrawsModel.readsPlayer(I)V -/
def vc_X10_readsPlayer_0 (d : Nat) (sh : List qSh) (K : Option Value → qMI → qML → qMP → Prop) (T1 : Int32 → Int32 → qMI → qML → qMP → Prop) (T2 : Int32 → Int32 → qMI → qML → qMP → Prop) (T3 : Int32 → Int32 → qMI → qML → qMP → Prop) (a0 : Nat) (x1 : Int32) (I : qMI) (L : qML) (P : qMP) : Prop :=
  T1 0 0 I L P
set_option maxRecDepth 100000 in
set_option maxHeartbeats 4000000 in
theorem rg_X10_readsPlayer_0 {X : qCT} {d : Nat} {sh : List qSh} {K : Option Value → qMI → qML → qMP → Prop} {T1 : Int32 → Int32 → qMI → qML → qMP → Prop} {T2 : Int32 → Int32 → qMI → qML → qMP → Prop} {T3 : Int32 → Int32 → qMI → qML → qMP → Prop} {a0 : Nat} {x1 : Int32} {I : qMI} {L : qML} {P : qMP} (C : qCB X RX10 cX10_readsPlayer 4 (d + 1) 0 0) (hk : qCK X (none) 0 0 (fun v sh' I' L' P' => sh' = sh ∧ K v I' L' P')) (hT1 : ∀ (x2 : Int32) (x3 : Int32) (I : qMI) (L : qML) (P : qMP), T1 x2 x3 I L P → qG X 4 [some (.ref a0), some (.int x1), some (.int x2), some (.int x3)] [] sh I L P 0 0) (hT2 : ∀ (x2 : Int32) (x3 : Int32) (I : qMI) (L : qML) (P : qMP), T2 x2 x3 I L P → qG X 53 [some (.ref a0), some (.int x1), some (.int x2), some (.int x3)] [] sh I L P 0 0) (hT3 : ∀ (x2 : Int32) (x3 : Int32) (I : qMI) (L : qML) (P : qMP), T3 x2 x3 I L P → qG X 125 [some (.ref a0), some (.int x1), some (.int x2), some (.int x3)] [] sh I L P 0 0) (h : vc_X10_readsPlayer_0 d sh K T1 T2 T3 a0 x1 I L P) : qG X 0 [some (.ref a0), some (.int x1), none, none] [] sh I L P 0 0 := by
  unfold vc_X10_readsPlayer_0 at h
  refine q_iconst (v := 0) C dX10_readsPlayer_0 (by decide) ?_
  refine q_istore_n (lo1 := [some (.ref a0), some (.int x1), some (.int 0), none]) C dX10_readsPlayer_1 (by decide) rfl ?_
  refine q_iconst (v := 0) C dX10_readsPlayer_2 (by decide) ?_
  refine q_istore_n (lo1 := [some (.ref a0), some (.int x1), some (.int 0), some (.int 0)]) C dX10_readsPlayer_3 (by decide) rfl ?_
  exact hT1 _ _ _ _ _ h
def vc_X10_readsPlayer_1 (d : Nat) (sh : List qSh) (K : Option Value → qMI → qML → qMP → Prop) (T1 : Int32 → Int32 → qMI → qML → qMP → Prop) (T2 : Int32 → Int32 → qMI → qML → qMP → Prop) (T3 : Int32 → Int32 → qMI → qML → qMP → Prop) (a0 : Nat) (x1 : Int32) (x2 : Int32) (x3 : Int32) (I : qMI) (L : qML) (P : qMP) : Prop :=
  ((4 ≤ x3) → (((shp sh a0).1 = 10) ∧ (((shp sh (P a0 0)).1 = 20) ∧ ((vp_in 0 (shp sh (P a0 0)).2) ∧ (((((I (P a0 0) (Int32.toNatClampNeg 0)) + x1) = 10) → (∀ I6 : qMI, I6 = uI I a0 12 (I a0 11) → (T2 x2 x3 I6 L P))) ∧ ((¬ ((I (P a0 0) (Int32.toNatClampNeg 0)) + x1) = 10) → (Sq d mX10_here sh [.ref a0] I L P (KI fun r7 I8 L9 P10 => Sq d mX10_whatOf sh [.int r7] I8 L9 P10 (KI fun r11 I12 L13 P14 => ((0 ≤ r11) → (T2 x2 x3 I12 L13 P14)) ∧ ((¬ 0 ≤ r11) → (∀ I16 : qMI, I16 = uI I12 a0 12 (I12 a0 11) → (T2 x2 x3 I16 L13 P14)))))))))))) ∧ ((¬ 4 ≤ x3) → (((shp sh a0).1 = 10) ∧ (((shp sh (P a0 9)).1 = 20) ∧ ((vp_in x3 (shp sh (P a0 9)).2) ∧ (∀ I20 : qMI, I20 = uI I (P a0 9) (Int32.toNatClampNeg x3) 0 → (T1 x2 (x3 + 1) I20 L P))))))
set_option maxRecDepth 100000 in
set_option maxHeartbeats 4000000 in
theorem rg_X10_readsPlayer_1 {X : qCT} {d : Nat} {sh : List qSh} {K : Option Value → qMI → qML → qMP → Prop} {T1 : Int32 → Int32 → qMI → qML → qMP → Prop} {T2 : Int32 → Int32 → qMI → qML → qMP → Prop} {T3 : Int32 → Int32 → qMI → qML → qMP → Prop} {a0 : Nat} {x1 : Int32} {x2 : Int32} {x3 : Int32} {I : qMI} {L : qML} {P : qMP} (C : qCB X RX10 cX10_readsPlayer 4 (d + 1) 0 0) (hk : qCK X (none) 0 0 (fun v sh' I' L' P' => sh' = sh ∧ K v I' L' P')) (hT1 : ∀ (x2 : Int32) (x3 : Int32) (I : qMI) (L : qML) (P : qMP), T1 x2 x3 I L P → qG X 4 [some (.ref a0), some (.int x1), some (.int x2), some (.int x3)] [] sh I L P 0 0) (hT2 : ∀ (x2 : Int32) (x3 : Int32) (I : qMI) (L : qML) (P : qMP), T2 x2 x3 I L P → qG X 53 [some (.ref a0), some (.int x1), some (.int x2), some (.int x3)] [] sh I L P 0 0) (hT3 : ∀ (x2 : Int32) (x3 : Int32) (I : qMI) (L : qML) (P : qMP), T3 x2 x3 I L P → qG X 125 [some (.ref a0), some (.int x1), some (.int x2), some (.int x3)] [] sh I L P 0 0) (h : vc_X10_readsPlayer_1 d sh K T1 T2 T3 a0 x1 x2 x3 I L P) : qG X 4 [some (.ref a0), some (.int x1), some (.int x2), some (.int x3)] [] sh I L P 0 0 := by
  unfold vc_X10_readsPlayer_1 at h
  refine q_iload_n C dX10_readsPlayer_4 rfl ?_
  refine q_iconst (v := 4) C dX10_readsPlayer_5 (by decide) ?_
  refine q_icmp_ge (tgt := 22) C dX10_readsPlayer_6 (by decide) (fun c1 => ?_) (fun c1 => ?_)
  · replace h := h.1 c1
    refine q_aload_n C dX10_readsPlayer_22 rfl ?_
    have s2 := h.1
    replace h := h.2
    refine q_getP C fl_RX10_9 rfl s2 dX10_readsPlayer_23 ?_
    refine q_iconst (v := 0) C dX10_readsPlayer_26 (by decide) ?_
    have s3 := h.1
    replace h := h.2
    have s4 := h.1
    replace h := h.2
    refine q_iald C s3 s4 dX10_readsPlayer_27 ?_
    refine q_iload_n C dX10_readsPlayer_28 rfl ?_
    refine q_iadd C dX10_readsPlayer_29 ?_
    refine q_bipush (v := 10) C dX10_readsPlayer_30 (by decide) ?_
    refine q_icmp_eq (tgt := 45) C dX10_readsPlayer_32 (by decide) (fun c5 => ?_) (fun c5 => ?_)
    · replace h := h.1 c5
      refine q_aload_n C dX10_readsPlayer_45 rfl ?_
      refine q_aload_n C dX10_readsPlayer_46 rfl ?_
      refine q_getI C fl_RX10_140 rfl s2 dX10_readsPlayer_47 ?_
      refine q_putI C fl_RX10_157 (fun T hT => by cases hT; rfl) rfl s2 dX10_readsPlayer_50 (fun I6 eI6 => ?_)
      replace h := h I6 eI6
      exact hT2 _ _ _ _ _ h
    · replace h := h.2 c5
      refine q_aload_n C dX10_readsPlayer_35 rfl ?_
      refine q_cVi (as := []) (st := []) (r := a0) C mv_X10_here ml_RX10_143 dX10_readsPlayer_36 rfl s2 rfl (Nat.le_of_ble_eq_true rfl) ⟨Nat.le_refl _, Nat.le_refl _⟩ h (fun r7 I8 L9 P10 h => ?_)
      refine q_cSi (as := [.int r7]) (st := []) C ms_X10_whatOf ml_RX10_160 dX10_readsPlayer_39 rfl rfl (Nat.le_of_ble_eq_true rfl) ⟨Nat.le_refl _, Nat.le_refl _⟩ h (fun r11 I12 L13 P14 h => ?_)
      refine q_if_ge (tgt := 53) C dX10_readsPlayer_42 (by decide) (fun c15 => ?_) (fun c15 => ?_)
      · replace h := h.1 c15
        exact hT2 _ _ _ _ _ h
      · replace h := h.2 c15
        refine q_aload_n C dX10_readsPlayer_45 rfl ?_
        refine q_aload_n C dX10_readsPlayer_46 rfl ?_
        refine q_getI C fl_RX10_140 rfl s2 dX10_readsPlayer_47 ?_
        refine q_putI C fl_RX10_157 (fun T hT => by cases hT; rfl) rfl s2 dX10_readsPlayer_50 (fun I16 eI16 => ?_)
        replace h := h I16 eI16
        exact hT2 _ _ _ _ _ h
  · replace h := h.2 c1
    refine q_aload_n C dX10_readsPlayer_9 rfl ?_
    have s17 := h.1
    replace h := h.2
    refine q_getP C fl_RX10_28 rfl s17 dX10_readsPlayer_10 ?_
    refine q_iload_n C dX10_readsPlayer_13 rfl ?_
    refine q_iconst (v := 0) C dX10_readsPlayer_14 (by decide) ?_
    have s18 := h.1
    replace h := h.2
    have s19 := h.1
    replace h := h.2
    refine q_iast C s18 s19 dX10_readsPlayer_15 (fun I20 eI20 => ?_)
    replace h := h I20 eI20
    refine q_iinc (w := 1) (lo1 := [some (.ref a0), some (.int x1), some (.int x2), some (.int (x3 + 1))]) C dX10_readsPlayer_16 rfl (by decide) (by decide) rfl ?_
    refine q_goto (tgt := 4) C dX10_readsPlayer_19 (by decide) ?_
    exact hT1 _ _ _ _ _ h
def vc_X10_readsPlayer_2 (d : Nat) (sh : List qSh) (K : Option Value → qMI → qML → qMP → Prop) (T1 : Int32 → Int32 → qMI → qML → qMP → Prop) (T2 : Int32 → Int32 → qMI → qML → qMP → Prop) (T3 : Int32 → Int32 → qMI → qML → qMP → Prop) (a0 : Nat) (x1 : Int32) (x2 : Int32) (x3 : Int32) (I : qMI) (L : qML) (P : qMP) : Prop :=
  ((shp sh a0).1 = 10) ∧ (((0 ≤ (I a0 12)) → (T3 x2 0 I L P)) ∧ ((¬ 0 ≤ (I a0 12)) → (Sq d mX10_here sh [.ref a0] I L P (KI fun r3 I4 L5 P6 => Sq d mX10_whatOf sh [.int r3] I4 L5 P6 (KI fun r7 I8 L9 P10 => ((r7 < 0) → (T3 x2 0 I8 L9 P10)) ∧ ((¬ r7 < 0) → (Sq d mX10_here sh [.ref a0] I8 L9 P10 (KI fun r12 I13 L14 P15 => Sq d mX10_whatOf sh [.int r12] I13 L14 P15 (KI fun r16 I17 L18 P19 => ((¬ ((x2 >>> (r16 &&& 31)) &&& 1) = 1) → (∀ I21 : qMI, I21 = uI I17 a0 11 ((I17 a0 11) + 1) → (Sq d mX10_readsNumber sh [.ref a0, .int r16, .int x1] I21 L18 P19 (KV fun I22 L23 P24 => T2 (x2 ||| ((1 : Int32) <<< (r16 &&& 31))) r16 I22 L23 P24)))) ∧ ((((x2 >>> (r16 &&& 31)) &&& 1) = 1) → (∀ I25 : qMI, I25 = uI I17 a0 12 (I17 a0 11) → (T2 x2 r16 I25 L18 P19))))))))))))
set_option maxRecDepth 100000 in
set_option maxHeartbeats 4000000 in
theorem rg_X10_readsPlayer_2 {X : qCT} {d : Nat} {sh : List qSh} {K : Option Value → qMI → qML → qMP → Prop} {T1 : Int32 → Int32 → qMI → qML → qMP → Prop} {T2 : Int32 → Int32 → qMI → qML → qMP → Prop} {T3 : Int32 → Int32 → qMI → qML → qMP → Prop} {a0 : Nat} {x1 : Int32} {x2 : Int32} {x3 : Int32} {I : qMI} {L : qML} {P : qMP} (C : qCB X RX10 cX10_readsPlayer 4 (d + 1) 0 0) (hk : qCK X (none) 0 0 (fun v sh' I' L' P' => sh' = sh ∧ K v I' L' P')) (hT1 : ∀ (x2 : Int32) (x3 : Int32) (I : qMI) (L : qML) (P : qMP), T1 x2 x3 I L P → qG X 4 [some (.ref a0), some (.int x1), some (.int x2), some (.int x3)] [] sh I L P 0 0) (hT2 : ∀ (x2 : Int32) (x3 : Int32) (I : qMI) (L : qML) (P : qMP), T2 x2 x3 I L P → qG X 53 [some (.ref a0), some (.int x1), some (.int x2), some (.int x3)] [] sh I L P 0 0) (hT3 : ∀ (x2 : Int32) (x3 : Int32) (I : qMI) (L : qML) (P : qMP), T3 x2 x3 I L P → qG X 125 [some (.ref a0), some (.int x1), some (.int x2), some (.int x3)] [] sh I L P 0 0) (h : vc_X10_readsPlayer_2 d sh K T1 T2 T3 a0 x1 x2 x3 I L P) : qG X 53 [some (.ref a0), some (.int x1), some (.int x2), some (.int x3)] [] sh I L P 0 0 := by
  unfold vc_X10_readsPlayer_2 at h
  refine q_aload_n C dX10_readsPlayer_53 rfl ?_
  have s1 := h.1
  replace h := h.2
  refine q_getI C fl_RX10_157 rfl s1 dX10_readsPlayer_54 ?_
  refine q_if_ge (tgt := 123) C dX10_readsPlayer_57 (by decide) (fun c2 => ?_) (fun c2 => ?_)
  · replace h := h.1 c2
    refine q_iconst (v := 0) C dX10_readsPlayer_123 (by decide) ?_
    refine q_istore_n (lo1 := [some (.ref a0), some (.int x1), some (.int x2), some (.int 0)]) C dX10_readsPlayer_124 (by decide) rfl ?_
    exact hT3 _ _ _ _ _ h
  · replace h := h.2 c2
    refine q_aload_n C dX10_readsPlayer_60 rfl ?_
    refine q_cVi (as := []) (st := []) (r := a0) C mv_X10_here ml_RX10_143 dX10_readsPlayer_61 rfl s1 rfl (Nat.le_of_ble_eq_true rfl) ⟨Nat.le_refl _, Nat.le_refl _⟩ h (fun r3 I4 L5 P6 h => ?_)
    refine q_cSi (as := [.int r3]) (st := []) C ms_X10_whatOf ml_RX10_160 dX10_readsPlayer_64 rfl rfl (Nat.le_of_ble_eq_true rfl) ⟨Nat.le_refl _, Nat.le_refl _⟩ h (fun r7 I8 L9 P10 h => ?_)
    refine q_if_lt (tgt := 123) C dX10_readsPlayer_67 (by decide) (fun c11 => ?_) (fun c11 => ?_)
    · replace h := h.1 c11
      refine q_iconst (v := 0) C dX10_readsPlayer_123 (by decide) ?_
      refine q_istore_n (lo1 := [some (.ref a0), some (.int x1), some (.int x2), some (.int 0)]) C dX10_readsPlayer_124 (by decide) rfl ?_
      exact hT3 _ _ _ _ _ h
    · replace h := h.2 c11
      refine q_aload_n C dX10_readsPlayer_70 rfl ?_
      refine q_cVi (as := []) (st := []) (r := a0) C mv_X10_here ml_RX10_143 dX10_readsPlayer_71 rfl s1 rfl (Nat.le_of_ble_eq_true rfl) ⟨Nat.le_refl _, Nat.le_refl _⟩ h (fun r12 I13 L14 P15 h => ?_)
      refine q_cSi (as := [.int r12]) (st := []) C ms_X10_whatOf ml_RX10_160 dX10_readsPlayer_74 rfl rfl (Nat.le_of_ble_eq_true rfl) ⟨Nat.le_refl _, Nat.le_refl _⟩ h (fun r16 I17 L18 P19 h => ?_)
      refine q_istore_n (lo1 := [some (.ref a0), some (.int x1), some (.int x2), some (.int r16)]) C dX10_readsPlayer_77 (by decide) rfl ?_
      refine q_iload_n C dX10_readsPlayer_78 rfl ?_
      refine q_iload_n C dX10_readsPlayer_79 rfl ?_
      refine q_ishr C dX10_readsPlayer_80 ?_
      refine q_iconst (v := 1) C dX10_readsPlayer_81 (by decide) ?_
      refine q_iand C dX10_readsPlayer_82 ?_
      refine q_iconst (v := 1) C dX10_readsPlayer_83 (by decide) ?_
      refine q_icmp_ne (tgt := 98) C dX10_readsPlayer_84 (by decide) (fun c20 => ?_) (fun c20 => ?_)
      · replace h := h.1 c20
        refine q_iload_n C dX10_readsPlayer_98 rfl ?_
        refine q_iconst (v := 1) C dX10_readsPlayer_99 (by decide) ?_
        refine q_iload_n C dX10_readsPlayer_100 rfl ?_
        refine q_ishl C dX10_readsPlayer_101 ?_
        refine q_ior C dX10_readsPlayer_102 ?_
        refine q_istore_n (lo1 := [some (.ref a0), some (.int x1), some (.int (x2 ||| ((1 : Int32) <<< (r16 &&& 31)))), some (.int r16)]) C dX10_readsPlayer_103 (by decide) rfl ?_
        refine q_aload_n C dX10_readsPlayer_104 rfl ?_
        refine q_dup C dX10_readsPlayer_105 rfl ?_
        refine q_getI C fl_RX10_140 rfl s1 dX10_readsPlayer_106 ?_
        refine q_iconst (v := 1) C dX10_readsPlayer_109 (by decide) ?_
        refine q_iadd C dX10_readsPlayer_110 ?_
        refine q_putI C fl_RX10_140 (fun T hT => by cases hT; rfl) rfl s1 dX10_readsPlayer_111 (fun I21 eI21 => ?_)
        replace h := h I21 eI21
        refine q_aload_n C dX10_readsPlayer_114 rfl ?_
        refine q_iload_n C dX10_readsPlayer_115 rfl ?_
        refine q_iload_n C dX10_readsPlayer_116 rfl ?_
        refine q_cVv (as := [.int r16, .int x1]) (st := []) (r := a0) C mv_X10_readsNumber ml_RX10_163 dX10_readsPlayer_117 rfl s1 rfl (Nat.le_of_ble_eq_true rfl) ⟨Nat.le_refl _, Nat.le_refl _⟩ h (fun I22 L23 P24 h => ?_)
        refine q_goto (tgt := 53) C dX10_readsPlayer_120 (by decide) ?_
        exact hT2 _ _ _ _ _ h
      · replace h := h.2 c20
        refine q_aload_n C dX10_readsPlayer_87 rfl ?_
        refine q_aload_n C dX10_readsPlayer_88 rfl ?_
        refine q_getI C fl_RX10_140 rfl s1 dX10_readsPlayer_89 ?_
        refine q_putI C fl_RX10_157 (fun T hT => by cases hT; rfl) rfl s1 dX10_readsPlayer_92 (fun I25 eI25 => ?_)
        replace h := h I25 eI25
        refine q_goto (tgt := 120) C dX10_readsPlayer_95 (by decide) ?_
        refine q_goto (tgt := 53) C dX10_readsPlayer_120 (by decide) ?_
        exact hT2 _ _ _ _ _ h
def vc_X10_readsPlayer_3 (d : Nat) (sh : List qSh) (K : Option Value → qMI → qML → qMP → Prop) (T1 : Int32 → Int32 → qMI → qML → qMP → Prop) (T2 : Int32 → Int32 → qMI → qML → qMP → Prop) (T3 : Int32 → Int32 → qMI → qML → qMP → Prop) (a0 : Nat) (x1 : Int32) (x2 : Int32) (x3 : Int32) (I : qMI) (L : qML) (P : qMP) : Prop :=
  ((4 ≤ x3) → (K none I L P)) ∧ ((¬ 4 ≤ x3) → (((shp sh a0).1 = 10) ∧ (((0 ≤ (I a0 12)) → (K none I L P)) ∧ ((¬ 0 ≤ (I a0 12)) → (((shp sh (P a0 9)).1 = 20) ∧ ((vp_in x3 (shp sh (P a0 9)).2) ∧ (((shp sh (P a0 8)).1 = 20) ∧ ((vp_in ((4 * x1) + x3) (shp sh (P a0 8)).2) ∧ (∀ I8 : qMI, I8 = uI I (P a0 8) (Int32.toNatClampNeg ((4 * x1) + x3)) (I (P a0 9) (Int32.toNatClampNeg x3)) → (T3 x2 (x3 + 1) I8 L P))))))))))
set_option maxRecDepth 100000 in
set_option maxHeartbeats 4000000 in
theorem rg_X10_readsPlayer_3 {X : qCT} {d : Nat} {sh : List qSh} {K : Option Value → qMI → qML → qMP → Prop} {T1 : Int32 → Int32 → qMI → qML → qMP → Prop} {T2 : Int32 → Int32 → qMI → qML → qMP → Prop} {T3 : Int32 → Int32 → qMI → qML → qMP → Prop} {a0 : Nat} {x1 : Int32} {x2 : Int32} {x3 : Int32} {I : qMI} {L : qML} {P : qMP} (C : qCB X RX10 cX10_readsPlayer 4 (d + 1) 0 0) (hk : qCK X (none) 0 0 (fun v sh' I' L' P' => sh' = sh ∧ K v I' L' P')) (hT1 : ∀ (x2 : Int32) (x3 : Int32) (I : qMI) (L : qML) (P : qMP), T1 x2 x3 I L P → qG X 4 [some (.ref a0), some (.int x1), some (.int x2), some (.int x3)] [] sh I L P 0 0) (hT2 : ∀ (x2 : Int32) (x3 : Int32) (I : qMI) (L : qML) (P : qMP), T2 x2 x3 I L P → qG X 53 [some (.ref a0), some (.int x1), some (.int x2), some (.int x3)] [] sh I L P 0 0) (hT3 : ∀ (x2 : Int32) (x3 : Int32) (I : qMI) (L : qML) (P : qMP), T3 x2 x3 I L P → qG X 125 [some (.ref a0), some (.int x1), some (.int x2), some (.int x3)] [] sh I L P 0 0) (h : vc_X10_readsPlayer_3 d sh K T1 T2 T3 a0 x1 x2 x3 I L P) : qG X 125 [some (.ref a0), some (.int x1), some (.int x2), some (.int x3)] [] sh I L P 0 0 := by
  unfold vc_X10_readsPlayer_3 at h
  refine q_iload_n C dX10_readsPlayer_125 rfl ?_
  refine q_iconst (v := 4) C dX10_readsPlayer_126 (by decide) ?_
  refine q_icmp_ge (tgt := 159) C dX10_readsPlayer_127 (by decide) (fun c1 => ?_) (fun c1 => ?_)
  · replace h := h.1 c1
    exact q_vret C hk dX10_readsPlayer_159 ⟨rfl, h⟩
  · replace h := h.2 c1
    refine q_aload_n C dX10_readsPlayer_130 rfl ?_
    have s2 := h.1
    replace h := h.2
    refine q_getI C fl_RX10_157 rfl s2 dX10_readsPlayer_131 ?_
    refine q_if_ge (tgt := 159) C dX10_readsPlayer_134 (by decide) (fun c3 => ?_) (fun c3 => ?_)
    · replace h := h.1 c3
      exact q_vret C hk dX10_readsPlayer_159 ⟨rfl, h⟩
    · replace h := h.2 c3
      refine q_aload_n C dX10_readsPlayer_137 rfl ?_
      refine q_getP C fl_RX10_25 rfl s2 dX10_readsPlayer_138 ?_
      refine q_iconst (v := 4) C dX10_readsPlayer_141 (by decide) ?_
      refine q_iload_n C dX10_readsPlayer_142 rfl ?_
      refine q_imul C dX10_readsPlayer_143 ?_
      refine q_iload_n C dX10_readsPlayer_144 rfl ?_
      refine q_iadd C dX10_readsPlayer_145 ?_
      refine q_aload_n C dX10_readsPlayer_146 rfl ?_
      refine q_getP C fl_RX10_28 rfl s2 dX10_readsPlayer_147 ?_
      refine q_iload_n C dX10_readsPlayer_150 rfl ?_
      have s4 := h.1
      replace h := h.2
      have s5 := h.1
      replace h := h.2
      refine q_iald C s4 s5 dX10_readsPlayer_151 ?_
      have s6 := h.1
      replace h := h.2
      have s7 := h.1
      replace h := h.2
      refine q_iast C s6 s7 dX10_readsPlayer_152 (fun I8 eI8 => ?_)
      replace h := h I8 eI8
      refine q_iinc (w := 1) (lo1 := [some (.ref a0), some (.int x1), some (.int x2), some (.int (x3 + 1))]) C dX10_readsPlayer_153 rfl (by decide) (by decide) rfl ?_
      refine q_goto (tgt := 125) C dX10_readsPlayer_156 (by decide) ?_
      exact hT3 _ _ _ _ _ h
theorem sp_X10_readsPlayer {d : Nat} {sh : List qSh} {K : Option Value → qMI → qML → qMP → Prop} {a0 : Nat} {x1 : Int32} {I : qMI} {L : qML} {P : qMP} (T1 : Int32 → Int32 → qMI → qML → qMP → Prop) (m1 : Int32 → Int32 → qMI → qML → qMP → Nat) (T2 : Int32 → Int32 → qMI → qML → qMP → Prop) (m2 : Int32 → Int32 → qMI → qML → qMP → Nat) (T3 : Int32 → Int32 → qMI → qML → qMP → Prop) (m3 : Int32 → Int32 → qMI → qML → qMP → Nat) (h0 : vc_X10_readsPlayer_0 d sh K T1 T2 T3 a0 x1 I L P)
    (h1 : ∀ (x2 : Int32) (x3 : Int32) (I : qMI) (L : qML) (P : qMP), T1 x2 x3 I L P → vc_X10_readsPlayer_1 d sh K (fun w0 w1 I' L' P' => T1 w0 w1 I' L' P' ∧ m1 w0 w1 I' L' P' < m1 x2 x3 I L P) (fun w0 w1 I' L' P' => T2 w0 w1 I' L' P' ∧ m2 w0 w1 I' L' P' < m1 x2 x3 I L P) (fun w0 w1 I' L' P' => T3 w0 w1 I' L' P' ∧ m3 w0 w1 I' L' P' < m1 x2 x3 I L P) a0 x1 x2 x3 I L P)
    (h2 : ∀ (x2 : Int32) (x3 : Int32) (I : qMI) (L : qML) (P : qMP), T2 x2 x3 I L P → vc_X10_readsPlayer_2 d sh K (fun w0 w1 I' L' P' => T1 w0 w1 I' L' P' ∧ m1 w0 w1 I' L' P' < m2 x2 x3 I L P) (fun w0 w1 I' L' P' => T2 w0 w1 I' L' P' ∧ m2 w0 w1 I' L' P' < m2 x2 x3 I L P) (fun w0 w1 I' L' P' => T3 w0 w1 I' L' P' ∧ m3 w0 w1 I' L' P' < m2 x2 x3 I L P) a0 x1 x2 x3 I L P)
    (h3 : ∀ (x2 : Int32) (x3 : Int32) (I : qMI) (L : qML) (P : qMP), T3 x2 x3 I L P → vc_X10_readsPlayer_3 d sh K (fun w0 w1 I' L' P' => T1 w0 w1 I' L' P' ∧ m1 w0 w1 I' L' P' < m3 x2 x3 I L P) (fun w0 w1 I' L' P' => T2 w0 w1 I' L' P' ∧ m2 w0 w1 I' L' P' < m3 x2 x3 I L P) (fun w0 w1 I' L' P' => T3 w0 w1 I' L' P' ∧ m3 w0 w1 I' L' P' < m3 x2 x3 I L P) a0 x1 x2 x3 I L P) : Sq (d + 1) mX10_readsPlayer sh [.ref a0, .int x1] I L P K := by
  refine Sq_of (by decide +kernel) (Nat.le_of_ble_eq_true rfl) (fun X C hk hn => ?_)
  have go : ∀ N : Nat, (∀ (x2 : Int32) (x3 : Int32) (I : qMI) (L : qML) (P : qMP), T1 x2 x3 I L P → m1 x2 x3 I L P < N → qG X 4 [some (.ref a0), some (.int x1), some (.int x2), some (.int x3)] [] sh I L P 0 0) ∧ (∀ (x2 : Int32) (x3 : Int32) (I : qMI) (L : qML) (P : qMP), T2 x2 x3 I L P → m2 x2 x3 I L P < N → qG X 53 [some (.ref a0), some (.int x1), some (.int x2), some (.int x3)] [] sh I L P 0 0) ∧ (∀ (x2 : Int32) (x3 : Int32) (I : qMI) (L : qML) (P : qMP), T3 x2 x3 I L P → m3 x2 x3 I L P < N → qG X 125 [some (.ref a0), some (.int x1), some (.int x2), some (.int x3)] [] sh I L P 0 0) := by
    intro N
    induction N with
    | zero => exact ⟨fun _ _ _ _ _ _ q => absurd q (Nat.not_lt_zero _), fun _ _ _ _ _ _ q => absurd q (Nat.not_lt_zero _), fun _ _ _ _ _ _ q => absurd q (Nat.not_lt_zero _)⟩
    | succ N ih =>
      exact ⟨fun b0 b1 I1 L1 P1 t q => rg_X10_readsPlayer_1 C hk (fun z0 z1 I2 L2 P2 z => ih.1 z0 z1 I2 L2 P2 z.1 (Nat.lt_of_lt_of_le z.2 (Nat.le_of_lt_succ q))) (fun z0 z1 I2 L2 P2 z => ih.2.1 z0 z1 I2 L2 P2 z.1 (Nat.lt_of_lt_of_le z.2 (Nat.le_of_lt_succ q))) (fun z0 z1 I2 L2 P2 z => ih.2.2 z0 z1 I2 L2 P2 z.1 (Nat.lt_of_lt_of_le z.2 (Nat.le_of_lt_succ q))) (h1 b0 b1 I1 L1 P1 t), fun b0 b1 I1 L1 P1 t q => rg_X10_readsPlayer_2 C hk (fun z0 z1 I2 L2 P2 z => ih.1 z0 z1 I2 L2 P2 z.1 (Nat.lt_of_lt_of_le z.2 (Nat.le_of_lt_succ q))) (fun z0 z1 I2 L2 P2 z => ih.2.1 z0 z1 I2 L2 P2 z.1 (Nat.lt_of_lt_of_le z.2 (Nat.le_of_lt_succ q))) (fun z0 z1 I2 L2 P2 z => ih.2.2 z0 z1 I2 L2 P2 z.1 (Nat.lt_of_lt_of_le z.2 (Nat.le_of_lt_succ q))) (h2 b0 b1 I1 L1 P1 t), fun b0 b1 I1 L1 P1 t q => rg_X10_readsPlayer_3 C hk (fun z0 z1 I2 L2 P2 z => ih.1 z0 z1 I2 L2 P2 z.1 (Nat.lt_of_lt_of_le z.2 (Nat.le_of_lt_succ q))) (fun z0 z1 I2 L2 P2 z => ih.2.1 z0 z1 I2 L2 P2 z.1 (Nat.lt_of_lt_of_le z.2 (Nat.le_of_lt_succ q))) (fun z0 z1 I2 L2 P2 z => ih.2.2 z0 z1 I2 L2 P2 z.1 (Nat.lt_of_lt_of_le z.2 (Nat.le_of_lt_succ q))) (h3 b0 b1 I1 L1 P1 t)⟩
  exact rg_X10_readsPlayer_0 C hk (fun b0 b1 I1 L1 P1 t => (go (m1 b0 b1 I1 L1 P1 + 1)).1 b0 b1 I1 L1 P1 t (Nat.lt_succ_self _)) (fun b0 b1 I1 L1 P1 t => (go (m2 b0 b1 I1 L1 P1 + 1)).2.1 b0 b1 I1 L1 P1 t (Nat.lt_succ_self _)) (fun b0 b1 I1 L1 P1 t => (go (m3 b0 b1 I1 L1 P1 + 1)).2.2 b0 b1 I1 L1 P1 t (Nat.lt_succ_self _)) h0
/-! BracketDrawsModel.players()I -/
def vc_X10_players_0 (d : Nat) (sh : List qSh) (K : Option Value → qMI → qML → qMP → Prop) (T1 : Int32 → qMI → qML → qMP → Prop) (T2 : Int32 → Int32 → qMI → qML → qMP → Prop) (a0 : Nat) (I : qMI) (L : qML) (P : qMP) : Prop :=
  ((shp sh a0).1 = 10) ∧ (∀ I2 : qMI, I2 = uI I a0 11 0 → (∀ I3 : qMI, I3 = uI I2 a0 12 ((-2)) → (Sq d mX10_readsPlayer sh [.ref a0, .int 0] I3 L P (KV fun I4 L5 P6 => T1 0 I4 L5 P6))))
set_option maxRecDepth 100000 in
set_option maxHeartbeats 4000000 in
theorem rg_X10_players_0 {X : qCT} {d : Nat} {sh : List qSh} {K : Option Value → qMI → qML → qMP → Prop} {T1 : Int32 → qMI → qML → qMP → Prop} {T2 : Int32 → Int32 → qMI → qML → qMP → Prop} {a0 : Nat} {I : qMI} {L : qML} {P : qMP} (C : qCB X RX10 cX10_players 3 (d + 1) 0 0) (hk : qCK X (some .int) 0 0 (fun v sh' I' L' P' => sh' = sh ∧ K v I' L' P')) (hT1 : ∀ (x1 : Int32) (I : qMI) (L : qML) (P : qMP), T1 x1 I L P → qG X 18 [some (.ref a0), some (.int x1), none] [] sh I L P 0 0) (hT2 : ∀ (x1 : Int32) (x2 : Int32) (I : qMI) (L : qML) (P : qMP), T2 x1 x2 I L P → qG X 103 [some (.ref a0), some (.int x1), some (.int x2)] [] sh I L P 0 0) (h : vc_X10_players_0 d sh K T1 T2 a0 I L P) : qG X 0 [some (.ref a0), none, none] [] sh I L P 0 0 := by
  unfold vc_X10_players_0 at h
  refine q_aload_n C dX10_players_0 rfl ?_
  refine q_iconst (v := 0) C dX10_players_1 (by decide) ?_
  have s1 := h.1
  replace h := h.2
  refine q_putI C fl_RX10_140 (fun T hT => by cases hT; rfl) rfl s1 dX10_players_2 (fun I2 eI2 => ?_)
  replace h := h I2 eI2
  refine q_aload_n C dX10_players_5 rfl ?_
  refine q_bipush (v := (-2)) C dX10_players_6 (by decide) ?_
  refine q_putI C fl_RX10_157 (fun T hT => by cases hT; rfl) rfl s1 dX10_players_8 (fun I3 eI3 => ?_)
  replace h := h I3 eI3
  refine q_iconst (v := 0) C dX10_players_11 (by decide) ?_
  refine q_istore_n (lo1 := [some (.ref a0), some (.int 0), none]) C dX10_players_12 (by decide) rfl ?_
  refine q_aload_n C dX10_players_13 rfl ?_
  refine q_iload_n C dX10_players_14 rfl ?_
  refine q_cVv (as := [.int 0]) (st := []) (r := a0) C mv_X10_readsPlayer ml_RX10_167 dX10_players_15 rfl s1 rfl (Nat.le_of_ble_eq_true rfl) ⟨Nat.le_refl _, Nat.le_refl _⟩ h (fun I4 L5 P6 h => ?_)
  exact hT1 _ _ _ _ h
def vc_X10_players_1 (d : Nat) (sh : List qSh) (K : Option Value → qMI → qML → qMP → Prop) (T1 : Int32 → qMI → qML → qMP → Prop) (T2 : Int32 → Int32 → qMI → qML → qMP → Prop) (a0 : Nat) (x1 : Int32) (I : qMI) (L : qML) (P : qMP) : Prop :=
  ((shp sh a0).1 = 10) ∧ (((0 ≤ (I a0 12)) → (((0 ≤ (I a0 12)) → (∀ I4 : qMI, I4 = uI I a0 10 0 → ((((I4 a0 12) < 0) → (T2 x1 0 I4 L P)) ∧ ((¬ (I4 a0 12) < 0) → (K (some (.int (((-100)) - (I4 a0 12)))) I4 L P))))) ∧ ((¬ 0 ≤ (I a0 12)) → ((((I a0 10) ≤ (I a0 11)) → (∀ I7 : qMI, I7 = uI I a0 10 0 → ((((I7 a0 12) < 0) → (T2 x1 0 I7 L P)) ∧ ((¬ (I7 a0 12) < 0) → (K (some (.int (((-100)) - (I7 a0 12)))) I7 L P))))) ∧ ((¬ (I a0 10) ≤ (I a0 11)) → (∀ I9 : qMI, I9 = uI I a0 12 (I a0 11) → (∀ I10 : qMI, I10 = uI I9 a0 10 0 → ((((I10 a0 12) < 0) → (T2 x1 0 I10 L P)) ∧ ((¬ (I10 a0 12) < 0) → (K (some (.int (((-100)) - (I10 a0 12)))) I10 L P)))))))))) ∧ ((¬ 0 ≤ (I a0 12)) → (Sq d mX10_here sh [.ref a0] I L P (KI fun r12 I13 L14 P15 => ((¬ r12 = 59) → (((0 ≤ (I13 a0 12)) → (∀ I18 : qMI, I18 = uI I13 a0 10 0 → ((((I18 a0 12) < 0) → (T2 x1 0 I18 L14 P15)) ∧ ((¬ (I18 a0 12) < 0) → (K (some (.int (((-100)) - (I18 a0 12)))) I18 L14 P15))))) ∧ ((¬ 0 ≤ (I13 a0 12)) → ((((I13 a0 10) ≤ (I13 a0 11)) → (∀ I21 : qMI, I21 = uI I13 a0 10 0 → ((((I21 a0 12) < 0) → (T2 x1 0 I21 L14 P15)) ∧ ((¬ (I21 a0 12) < 0) → (K (some (.int (((-100)) - (I21 a0 12)))) I21 L14 P15))))) ∧ ((¬ (I13 a0 10) ≤ (I13 a0 11)) → (∀ I23 : qMI, I23 = uI I13 a0 12 (I13 a0 11) → (∀ I24 : qMI, I24 = uI I23 a0 10 0 → ((((I24 a0 12) < 0) → (T2 x1 0 I24 L14 P15)) ∧ ((¬ (I24 a0 12) < 0) → (K (some (.int (((-100)) - (I24 a0 12)))) I24 L14 P15)))))))))) ∧ ((r12 = 59) → (∀ I26 : qMI, I26 = uI I13 a0 11 ((I13 a0 11) + 1) → (Sq d mX10_readsPlayer sh [.ref a0, .int (x1 + 1)] I26 L14 P15 (KV fun I27 L28 P29 => T1 (x1 + 1) I27 L28 P29))))))))
set_option maxRecDepth 100000 in
set_option maxHeartbeats 4000000 in
theorem rg_X10_players_1 {X : qCT} {d : Nat} {sh : List qSh} {K : Option Value → qMI → qML → qMP → Prop} {T1 : Int32 → qMI → qML → qMP → Prop} {T2 : Int32 → Int32 → qMI → qML → qMP → Prop} {a0 : Nat} {x1 : Int32} {I : qMI} {L : qML} {P : qMP} (C : qCB X RX10 cX10_players 3 (d + 1) 0 0) (hk : qCK X (some .int) 0 0 (fun v sh' I' L' P' => sh' = sh ∧ K v I' L' P')) (hT1 : ∀ (x1 : Int32) (I : qMI) (L : qML) (P : qMP), T1 x1 I L P → qG X 18 [some (.ref a0), some (.int x1), none] [] sh I L P 0 0) (hT2 : ∀ (x1 : Int32) (x2 : Int32) (I : qMI) (L : qML) (P : qMP), T2 x1 x2 I L P → qG X 103 [some (.ref a0), some (.int x1), some (.int x2)] [] sh I L P 0 0) (h : vc_X10_players_1 d sh K T1 T2 a0 x1 I L P) : qG X 18 [some (.ref a0), some (.int x1), none] [] sh I L P 0 0 := by
  unfold vc_X10_players_1 at h
  refine q_aload_n C dX10_players_18 rfl ?_
  have s1 := h.1
  replace h := h.2
  refine q_getI C fl_RX10_157 rfl s1 dX10_players_19 ?_
  refine q_if_ge (tgt := 55) C dX10_players_22 (by decide) (fun c2 => ?_) (fun c2 => ?_)
  · replace h := h.1 c2
    refine q_aload_n C dX10_players_55 rfl ?_
    refine q_getI C fl_RX10_157 rfl s1 dX10_players_56 ?_
    refine q_if_ge (tgt := 81) C dX10_players_59 (by decide) (fun c3 => ?_) (fun c3 => ?_)
    · replace h := h.1 c3
      refine q_aload_n C dX10_players_81 rfl ?_
      refine q_iconst (v := 0) C dX10_players_82 (by decide) ?_
      refine q_putI C fl_RX10_137 (fun T hT => by cases hT; rfl) rfl s1 dX10_players_83 (fun I4 eI4 => ?_)
      replace h := h I4 eI4
      refine q_aload_n C dX10_players_86 rfl ?_
      refine q_getI C fl_RX10_157 rfl s1 dX10_players_87 ?_
      refine q_if_lt (tgt := 101) C dX10_players_90 (by decide) (fun c5 => ?_) (fun c5 => ?_)
      · replace h := h.1 c5
        refine q_iconst (v := 0) C dX10_players_101 (by decide) ?_
        refine q_istore_n (lo1 := [some (.ref a0), some (.int x1), some (.int 0)]) C dX10_players_102 (by decide) rfl ?_
        exact hT2 _ _ _ _ _ h
      · replace h := h.2 c5
        refine q_bipush (v := (-100)) C dX10_players_93 (by decide) ?_
        refine q_aload_n C dX10_players_95 rfl ?_
        refine q_getI C fl_RX10_157 rfl s1 dX10_players_96 ?_
        refine q_isub C dX10_players_99 ?_
        exact q_iret C hk dX10_players_100 ⟨rfl, h⟩
    · replace h := h.2 c3
      refine q_aload_n C dX10_players_62 rfl ?_
      refine q_getI C fl_RX10_140 rfl s1 dX10_players_63 ?_
      refine q_aload_n C dX10_players_66 rfl ?_
      refine q_getI C fl_RX10_137 rfl s1 dX10_players_67 ?_
      refine q_icmp_ge (tgt := 81) C dX10_players_70 (by decide) (fun c6 => ?_) (fun c6 => ?_)
      · replace h := h.1 c6
        refine q_aload_n C dX10_players_81 rfl ?_
        refine q_iconst (v := 0) C dX10_players_82 (by decide) ?_
        refine q_putI C fl_RX10_137 (fun T hT => by cases hT; rfl) rfl s1 dX10_players_83 (fun I7 eI7 => ?_)
        replace h := h I7 eI7
        refine q_aload_n C dX10_players_86 rfl ?_
        refine q_getI C fl_RX10_157 rfl s1 dX10_players_87 ?_
        refine q_if_lt (tgt := 101) C dX10_players_90 (by decide) (fun c8 => ?_) (fun c8 => ?_)
        · replace h := h.1 c8
          refine q_iconst (v := 0) C dX10_players_101 (by decide) ?_
          refine q_istore_n (lo1 := [some (.ref a0), some (.int x1), some (.int 0)]) C dX10_players_102 (by decide) rfl ?_
          exact hT2 _ _ _ _ _ h
        · replace h := h.2 c8
          refine q_bipush (v := (-100)) C dX10_players_93 (by decide) ?_
          refine q_aload_n C dX10_players_95 rfl ?_
          refine q_getI C fl_RX10_157 rfl s1 dX10_players_96 ?_
          refine q_isub C dX10_players_99 ?_
          exact q_iret C hk dX10_players_100 ⟨rfl, h⟩
      · replace h := h.2 c6
        refine q_aload_n C dX10_players_73 rfl ?_
        refine q_aload_n C dX10_players_74 rfl ?_
        refine q_getI C fl_RX10_140 rfl s1 dX10_players_75 ?_
        refine q_putI C fl_RX10_157 (fun T hT => by cases hT; rfl) rfl s1 dX10_players_78 (fun I9 eI9 => ?_)
        replace h := h I9 eI9
        refine q_aload_n C dX10_players_81 rfl ?_
        refine q_iconst (v := 0) C dX10_players_82 (by decide) ?_
        refine q_putI C fl_RX10_137 (fun T hT => by cases hT; rfl) rfl s1 dX10_players_83 (fun I10 eI10 => ?_)
        replace h := h I10 eI10
        refine q_aload_n C dX10_players_86 rfl ?_
        refine q_getI C fl_RX10_157 rfl s1 dX10_players_87 ?_
        refine q_if_lt (tgt := 101) C dX10_players_90 (by decide) (fun c11 => ?_) (fun c11 => ?_)
        · replace h := h.1 c11
          refine q_iconst (v := 0) C dX10_players_101 (by decide) ?_
          refine q_istore_n (lo1 := [some (.ref a0), some (.int x1), some (.int 0)]) C dX10_players_102 (by decide) rfl ?_
          exact hT2 _ _ _ _ _ h
        · replace h := h.2 c11
          refine q_bipush (v := (-100)) C dX10_players_93 (by decide) ?_
          refine q_aload_n C dX10_players_95 rfl ?_
          refine q_getI C fl_RX10_157 rfl s1 dX10_players_96 ?_
          refine q_isub C dX10_players_99 ?_
          exact q_iret C hk dX10_players_100 ⟨rfl, h⟩
  · replace h := h.2 c2
    refine q_aload_n C dX10_players_25 rfl ?_
    refine q_cVi (as := []) (st := []) (r := a0) C mv_X10_here ml_RX10_143 dX10_players_26 rfl s1 rfl (Nat.le_of_ble_eq_true rfl) ⟨Nat.le_refl _, Nat.le_refl _⟩ h (fun r12 I13 L14 P15 h => ?_)
    refine q_bipush (v := 59) C dX10_players_29 (by decide) ?_
    refine q_icmp_ne (tgt := 55) C dX10_players_31 (by decide) (fun c16 => ?_) (fun c16 => ?_)
    · replace h := h.1 c16
      refine q_aload_n C dX10_players_55 rfl ?_
      refine q_getI C fl_RX10_157 rfl s1 dX10_players_56 ?_
      refine q_if_ge (tgt := 81) C dX10_players_59 (by decide) (fun c17 => ?_) (fun c17 => ?_)
      · replace h := h.1 c17
        refine q_aload_n C dX10_players_81 rfl ?_
        refine q_iconst (v := 0) C dX10_players_82 (by decide) ?_
        refine q_putI C fl_RX10_137 (fun T hT => by cases hT; rfl) rfl s1 dX10_players_83 (fun I18 eI18 => ?_)
        replace h := h I18 eI18
        refine q_aload_n C dX10_players_86 rfl ?_
        refine q_getI C fl_RX10_157 rfl s1 dX10_players_87 ?_
        refine q_if_lt (tgt := 101) C dX10_players_90 (by decide) (fun c19 => ?_) (fun c19 => ?_)
        · replace h := h.1 c19
          refine q_iconst (v := 0) C dX10_players_101 (by decide) ?_
          refine q_istore_n (lo1 := [some (.ref a0), some (.int x1), some (.int 0)]) C dX10_players_102 (by decide) rfl ?_
          exact hT2 _ _ _ _ _ h
        · replace h := h.2 c19
          refine q_bipush (v := (-100)) C dX10_players_93 (by decide) ?_
          refine q_aload_n C dX10_players_95 rfl ?_
          refine q_getI C fl_RX10_157 rfl s1 dX10_players_96 ?_
          refine q_isub C dX10_players_99 ?_
          exact q_iret C hk dX10_players_100 ⟨rfl, h⟩
      · replace h := h.2 c17
        refine q_aload_n C dX10_players_62 rfl ?_
        refine q_getI C fl_RX10_140 rfl s1 dX10_players_63 ?_
        refine q_aload_n C dX10_players_66 rfl ?_
        refine q_getI C fl_RX10_137 rfl s1 dX10_players_67 ?_
        refine q_icmp_ge (tgt := 81) C dX10_players_70 (by decide) (fun c20 => ?_) (fun c20 => ?_)
        · replace h := h.1 c20
          refine q_aload_n C dX10_players_81 rfl ?_
          refine q_iconst (v := 0) C dX10_players_82 (by decide) ?_
          refine q_putI C fl_RX10_137 (fun T hT => by cases hT; rfl) rfl s1 dX10_players_83 (fun I21 eI21 => ?_)
          replace h := h I21 eI21
          refine q_aload_n C dX10_players_86 rfl ?_
          refine q_getI C fl_RX10_157 rfl s1 dX10_players_87 ?_
          refine q_if_lt (tgt := 101) C dX10_players_90 (by decide) (fun c22 => ?_) (fun c22 => ?_)
          · replace h := h.1 c22
            refine q_iconst (v := 0) C dX10_players_101 (by decide) ?_
            refine q_istore_n (lo1 := [some (.ref a0), some (.int x1), some (.int 0)]) C dX10_players_102 (by decide) rfl ?_
            exact hT2 _ _ _ _ _ h
          · replace h := h.2 c22
            refine q_bipush (v := (-100)) C dX10_players_93 (by decide) ?_
            refine q_aload_n C dX10_players_95 rfl ?_
            refine q_getI C fl_RX10_157 rfl s1 dX10_players_96 ?_
            refine q_isub C dX10_players_99 ?_
            exact q_iret C hk dX10_players_100 ⟨rfl, h⟩
        · replace h := h.2 c20
          refine q_aload_n C dX10_players_73 rfl ?_
          refine q_aload_n C dX10_players_74 rfl ?_
          refine q_getI C fl_RX10_140 rfl s1 dX10_players_75 ?_
          refine q_putI C fl_RX10_157 (fun T hT => by cases hT; rfl) rfl s1 dX10_players_78 (fun I23 eI23 => ?_)
          replace h := h I23 eI23
          refine q_aload_n C dX10_players_81 rfl ?_
          refine q_iconst (v := 0) C dX10_players_82 (by decide) ?_
          refine q_putI C fl_RX10_137 (fun T hT => by cases hT; rfl) rfl s1 dX10_players_83 (fun I24 eI24 => ?_)
          replace h := h I24 eI24
          refine q_aload_n C dX10_players_86 rfl ?_
          refine q_getI C fl_RX10_157 rfl s1 dX10_players_87 ?_
          refine q_if_lt (tgt := 101) C dX10_players_90 (by decide) (fun c25 => ?_) (fun c25 => ?_)
          · replace h := h.1 c25
            refine q_iconst (v := 0) C dX10_players_101 (by decide) ?_
            refine q_istore_n (lo1 := [some (.ref a0), some (.int x1), some (.int 0)]) C dX10_players_102 (by decide) rfl ?_
            exact hT2 _ _ _ _ _ h
          · replace h := h.2 c25
            refine q_bipush (v := (-100)) C dX10_players_93 (by decide) ?_
            refine q_aload_n C dX10_players_95 rfl ?_
            refine q_getI C fl_RX10_157 rfl s1 dX10_players_96 ?_
            refine q_isub C dX10_players_99 ?_
            exact q_iret C hk dX10_players_100 ⟨rfl, h⟩
    · replace h := h.2 c16
      refine q_aload_n C dX10_players_34 rfl ?_
      refine q_dup C dX10_players_35 rfl ?_
      refine q_getI C fl_RX10_140 rfl s1 dX10_players_36 ?_
      refine q_iconst (v := 1) C dX10_players_39 (by decide) ?_
      refine q_iadd C dX10_players_40 ?_
      refine q_putI C fl_RX10_140 (fun T hT => by cases hT; rfl) rfl s1 dX10_players_41 (fun I26 eI26 => ?_)
      replace h := h I26 eI26
      refine q_iinc (w := 1) (lo1 := [some (.ref a0), some (.int (x1 + 1)), none]) C dX10_players_44 rfl (by decide) (by decide) rfl ?_
      refine q_aload_n C dX10_players_47 rfl ?_
      refine q_iload_n C dX10_players_48 rfl ?_
      refine q_cVv (as := [.int (x1 + 1)]) (st := []) (r := a0) C mv_X10_readsPlayer ml_RX10_167 dX10_players_49 rfl s1 rfl (Nat.le_of_ble_eq_true rfl) ⟨Nat.le_refl _, Nat.le_refl _⟩ h (fun I27 L28 P29 h => ?_)
      refine q_goto (tgt := 18) C dX10_players_52 (by decide) ?_
      exact hT1 _ _ _ _ h
def vc_X10_players_2 (d : Nat) (sh : List qSh) (K : Option Value → qMI → qML → qMP → Prop) (T1 : Int32 → qMI → qML → qMP → Prop) (T2 : Int32 → Int32 → qMI → qML → qMP → Prop) (a0 : Nat) (x1 : Int32) (x2 : Int32) (I : qMI) (L : qML) (P : qMP) : Prop :=
  ((x1 < x2) → (((shp sh a0).1 = 10) ∧ (((shp sh (P a0 0)).1 = 20) ∧ ((vp_in 0 (shp sh (P a0 0)).2) ∧ (K (some (.int (I (P a0 0) (Int32.toNatClampNeg 0)))) I L P))))) ∧ ((¬ x1 < x2) → (((shp sh a0).1 = 10) ∧ (((shp sh (P a0 8)).1 = 20) ∧ ((vp_in (4 * x2) (shp sh (P a0 8)).2) ∧ ((vp_in ((4 * x2) + 1) (shp sh (P a0 8)).2) ∧ ((vp_in ((4 * x2) + 2) (shp sh (P a0 8)).2) ∧ ((vp_in ((4 * x2) + 3) (shp sh (P a0 8)).2) ∧ (Sq d mX10_comes sh [.ref a0, .int (I (P a0 8) (Int32.toNatClampNeg (4 * x2))), .int (I (P a0 8) (Int32.toNatClampNeg ((4 * x2) + 1))), .int (I (P a0 8) (Int32.toNatClampNeg ((4 * x2) + 2))), .int (I (P a0 8) (Int32.toNatClampNeg ((4 * x2) + 3)))] I L P (KV fun I11 L12 P13 => T2 x1 (x2 + 1) I11 L12 P13)))))))))
set_option maxRecDepth 100000 in
set_option maxHeartbeats 4000000 in
theorem rg_X10_players_2 {X : qCT} {d : Nat} {sh : List qSh} {K : Option Value → qMI → qML → qMP → Prop} {T1 : Int32 → qMI → qML → qMP → Prop} {T2 : Int32 → Int32 → qMI → qML → qMP → Prop} {a0 : Nat} {x1 : Int32} {x2 : Int32} {I : qMI} {L : qML} {P : qMP} (C : qCB X RX10 cX10_players 3 (d + 1) 0 0) (hk : qCK X (some .int) 0 0 (fun v sh' I' L' P' => sh' = sh ∧ K v I' L' P')) (hT1 : ∀ (x1 : Int32) (I : qMI) (L : qML) (P : qMP), T1 x1 I L P → qG X 18 [some (.ref a0), some (.int x1), none] [] sh I L P 0 0) (hT2 : ∀ (x1 : Int32) (x2 : Int32) (I : qMI) (L : qML) (P : qMP), T2 x1 x2 I L P → qG X 103 [some (.ref a0), some (.int x1), some (.int x2)] [] sh I L P 0 0) (h : vc_X10_players_2 d sh K T1 T2 a0 x1 x2 I L P) : qG X 103 [some (.ref a0), some (.int x1), some (.int x2)] [] sh I L P 0 0 := by
  unfold vc_X10_players_2 at h
  refine q_iload_n C dX10_players_103 rfl ?_
  refine q_iload_n C dX10_players_104 rfl ?_
  refine q_icmp_gt (tgt := 156) C dX10_players_105 (by decide) (fun c1 => ?_) (fun c1 => ?_)
  · replace h := h.1 c1
    refine q_aload_n C dX10_players_156 rfl ?_
    have s2 := h.1
    replace h := h.2
    refine q_getP C fl_RX10_9 rfl s2 dX10_players_157 ?_
    refine q_iconst (v := 0) C dX10_players_160 (by decide) ?_
    have s3 := h.1
    replace h := h.2
    have s4 := h.1
    replace h := h.2
    refine q_iald C s3 s4 dX10_players_161 ?_
    exact q_iret C hk dX10_players_162 ⟨rfl, h⟩
  · replace h := h.2 c1
    refine q_aload_n C dX10_players_108 rfl ?_
    refine q_aload_n C dX10_players_109 rfl ?_
    have s5 := h.1
    replace h := h.2
    refine q_getP C fl_RX10_25 rfl s5 dX10_players_110 ?_
    refine q_iconst (v := 4) C dX10_players_113 (by decide) ?_
    refine q_iload_n C dX10_players_114 rfl ?_
    refine q_imul C dX10_players_115 ?_
    have s6 := h.1
    replace h := h.2
    have s7 := h.1
    replace h := h.2
    refine q_iald C s6 s7 dX10_players_116 ?_
    refine q_aload_n C dX10_players_117 rfl ?_
    refine q_getP C fl_RX10_25 rfl s5 dX10_players_118 ?_
    refine q_iconst (v := 4) C dX10_players_121 (by decide) ?_
    refine q_iload_n C dX10_players_122 rfl ?_
    refine q_imul C dX10_players_123 ?_
    refine q_iconst (v := 1) C dX10_players_124 (by decide) ?_
    refine q_iadd C dX10_players_125 ?_
    have s8 := h.1
    replace h := h.2
    refine q_iald C s6 s8 dX10_players_126 ?_
    refine q_aload_n C dX10_players_127 rfl ?_
    refine q_getP C fl_RX10_25 rfl s5 dX10_players_128 ?_
    refine q_iconst (v := 4) C dX10_players_131 (by decide) ?_
    refine q_iload_n C dX10_players_132 rfl ?_
    refine q_imul C dX10_players_133 ?_
    refine q_iconst (v := 2) C dX10_players_134 (by decide) ?_
    refine q_iadd C dX10_players_135 ?_
    have s9 := h.1
    replace h := h.2
    refine q_iald C s6 s9 dX10_players_136 ?_
    refine q_aload_n C dX10_players_137 rfl ?_
    refine q_getP C fl_RX10_25 rfl s5 dX10_players_138 ?_
    refine q_iconst (v := 4) C dX10_players_141 (by decide) ?_
    refine q_iload_n C dX10_players_142 rfl ?_
    refine q_imul C dX10_players_143 ?_
    refine q_iconst (v := 3) C dX10_players_144 (by decide) ?_
    refine q_iadd C dX10_players_145 ?_
    have s10 := h.1
    replace h := h.2
    refine q_iald C s6 s10 dX10_players_146 ?_
    refine q_cVv (as := [.int (I (P a0 8) (Int32.toNatClampNeg (4 * x2))), .int (I (P a0 8) (Int32.toNatClampNeg ((4 * x2) + 1))), .int (I (P a0 8) (Int32.toNatClampNeg ((4 * x2) + 2))), .int (I (P a0 8) (Int32.toNatClampNeg ((4 * x2) + 3)))]) (st := []) (r := a0) C mv_X10_comes ml_RX10_110 dX10_players_147 rfl s5 rfl (Nat.le_of_ble_eq_true rfl) ⟨Nat.le_refl _, Nat.le_refl _⟩ h (fun I11 L12 P13 h => ?_)
    refine q_iinc (w := 1) (lo1 := [some (.ref a0), some (.int x1), some (.int (x2 + 1))]) C dX10_players_150 rfl (by decide) (by decide) rfl ?_
    refine q_goto (tgt := 103) C dX10_players_153 (by decide) ?_
    exact hT2 _ _ _ _ _ h
theorem sp_X10_players {d : Nat} {sh : List qSh} {K : Option Value → qMI → qML → qMP → Prop} {a0 : Nat} {I : qMI} {L : qML} {P : qMP} (T1 : Int32 → qMI → qML → qMP → Prop) (m1 : Int32 → qMI → qML → qMP → Nat) (T2 : Int32 → Int32 → qMI → qML → qMP → Prop) (m2 : Int32 → Int32 → qMI → qML → qMP → Nat) (h0 : vc_X10_players_0 d sh K T1 T2 a0 I L P)
    (h1 : ∀ (x1 : Int32) (I : qMI) (L : qML) (P : qMP), T1 x1 I L P → vc_X10_players_1 d sh K (fun w0 I' L' P' => T1 w0 I' L' P' ∧ m1 w0 I' L' P' < m1 x1 I L P) (fun w0 w1 I' L' P' => T2 w0 w1 I' L' P' ∧ m2 w0 w1 I' L' P' < m1 x1 I L P) a0 x1 I L P)
    (h2 : ∀ (x1 : Int32) (x2 : Int32) (I : qMI) (L : qML) (P : qMP), T2 x1 x2 I L P → vc_X10_players_2 d sh K (fun w0 I' L' P' => T1 w0 I' L' P' ∧ m1 w0 I' L' P' < m2 x1 x2 I L P) (fun w0 w1 I' L' P' => T2 w0 w1 I' L' P' ∧ m2 w0 w1 I' L' P' < m2 x1 x2 I L P) a0 x1 x2 I L P) : Sq (d + 1) mX10_players sh [.ref a0] I L P K := by
  refine Sq_of (by decide +kernel) (Nat.le_of_ble_eq_true rfl) (fun X C hk hn => ?_)
  have go : ∀ N : Nat, (∀ (x1 : Int32) (I : qMI) (L : qML) (P : qMP), T1 x1 I L P → m1 x1 I L P < N → qG X 18 [some (.ref a0), some (.int x1), none] [] sh I L P 0 0) ∧ (∀ (x1 : Int32) (x2 : Int32) (I : qMI) (L : qML) (P : qMP), T2 x1 x2 I L P → m2 x1 x2 I L P < N → qG X 103 [some (.ref a0), some (.int x1), some (.int x2)] [] sh I L P 0 0) := by
    intro N
    induction N with
    | zero => exact ⟨fun _ _ _ _ _ q => absurd q (Nat.not_lt_zero _), fun _ _ _ _ _ _ q => absurd q (Nat.not_lt_zero _)⟩
    | succ N ih =>
      exact ⟨fun b0 I1 L1 P1 t q => rg_X10_players_1 C hk (fun z0 I2 L2 P2 z => ih.1 z0 I2 L2 P2 z.1 (Nat.lt_of_lt_of_le z.2 (Nat.le_of_lt_succ q))) (fun z0 z1 I2 L2 P2 z => ih.2 z0 z1 I2 L2 P2 z.1 (Nat.lt_of_lt_of_le z.2 (Nat.le_of_lt_succ q))) (h1 b0 I1 L1 P1 t), fun b0 b1 I1 L1 P1 t q => rg_X10_players_2 C hk (fun z0 I2 L2 P2 z => ih.1 z0 I2 L2 P2 z.1 (Nat.lt_of_lt_of_le z.2 (Nat.le_of_lt_succ q))) (fun z0 z1 I2 L2 P2 z => ih.2 z0 z1 I2 L2 P2 z.1 (Nat.lt_of_lt_of_le z.2 (Nat.le_of_lt_succ q))) (h2 b0 b1 I1 L1 P1 t)⟩
  exact rg_X10_players_0 C hk (fun b0 I1 L1 P1 t => (go (m1 b0 I1 L1 P1 + 1)).1 b0 I1 L1 P1 t (Nat.lt_succ_self _)) (fun b0 b1 I1 L1 P1 t => (go (m2 b0 b1 I1 L1 P1 + 1)).2 b0 b1 I1 L1 P1 t (Nat.lt_succ_self _)) h0
/-! BracketDrawsModel.seedSlot(I)I -/
def vc_X10_seedSlot_0 (d : Nat) (sh : List qSh) (K : Option Value → qMI → qML → qMP → Prop) (T1 : Int32 → Int32 → qMI → qML → qMP → Prop) (T2 : Int32 → Int32 → Int32 → qMI → qML → qMP → Prop) (T3 : Int32 → Int32 → Int32 → qMI → qML → qMP → Prop) (T4 : Int32 → Int32 → qMI → qML → qMP → Prop) (a0 : Nat) (x1 : Int32) (I : qMI) (L : qML) (P : qMP) : Prop :=
  ((shp sh a0).1 = 10) ∧ (Sq d mX10_slots sh [.ref a0] I L P (KI fun r2 I3 L4 P5 => Sq d mX10_in sh [.long (Int32.toInt64 x1), .long 1, .long (Int32.toInt64 r2)] I3 L4 P5 (KI fun r6 I7 L8 P9 => ((¬ r6 = 0) → (((shp sh (P9 a0 13)).1 = 20) ∧ ((vp_in 0 (shp sh (P9 a0 13)).2) ∧ (∀ I13 : qMI, I13 = uI I7 (P9 a0 13) (Int32.toNatClampNeg 0) 1 → (T1 r2 1 I13 L8 P9))))) ∧ ((r6 = 0) → (K (some (.int ((-2)))) I7 L8 P9)))))
set_option maxRecDepth 100000 in
set_option maxHeartbeats 4000000 in
theorem rg_X10_seedSlot_0 {X : qCT} {d : Nat} {sh : List qSh} {K : Option Value → qMI → qML → qMP → Prop} {T1 : Int32 → Int32 → qMI → qML → qMP → Prop} {T2 : Int32 → Int32 → Int32 → qMI → qML → qMP → Prop} {T3 : Int32 → Int32 → Int32 → qMI → qML → qMP → Prop} {T4 : Int32 → Int32 → qMI → qML → qMP → Prop} {a0 : Nat} {x1 : Int32} {I : qMI} {L : qML} {P : qMP} (C : qCB X RX10 cX10_seedSlot 5 (d + 1) 0 0) (hk : qCK X (some .int) 0 0 (fun v sh' I' L' P' => sh' = sh ∧ K v I' L' P')) (hT1 : ∀ (x2 : Int32) (x3 : Int32) (I : qMI) (L : qML) (P : qMP), T1 x2 x3 I L P → qG X 28 [some (.ref a0), some (.int x1), some (.int x2), some (.int x3), none] [] sh I L P 0 0) (hT2 : ∀ (x2 : Int32) (x3 : Int32) (x4 : Int32) (I : qMI) (L : qML) (P : qMP), T2 x2 x3 x4 I L P → qG X 36 [some (.ref a0), some (.int x1), some (.int x2), some (.int x3), some (.int x4)] [] sh I L P 0 0) (hT3 : ∀ (x2 : Int32) (x3 : Int32) (x4 : Int32) (I : qMI) (L : qML) (P : qMP), T3 x2 x3 x4 I L P → qG X 91 [some (.ref a0), some (.int x1), some (.int x2), some (.int x3), some (.int x4)] [] sh I L P 0 0) (hT4 : ∀ (x2 : Int32) (x3 : Int32) (I : qMI) (L : qML) (P : qMP), T4 x2 x3 I L P → qG X 128 [some (.ref a0), some (.int x1), some (.int x2), some (.int x3), none] [] sh I L P 0 0) (h : vc_X10_seedSlot_0 d sh K T1 T2 T3 T4 a0 x1 I L P) : qG X 0 [some (.ref a0), some (.int x1), none, none, none] [] sh I L P 0 0 := by
  unfold vc_X10_seedSlot_0 at h
  refine q_aload_n C dX10_seedSlot_0 rfl ?_
  have s1 := h.1
  replace h := h.2
  refine q_cVi (as := []) (st := []) (r := a0) C mv_X10_slots ml_RX10_67 dX10_seedSlot_1 rfl s1 rfl (Nat.le_of_ble_eq_true rfl) ⟨Nat.le_refl _, Nat.le_refl _⟩ h (fun r2 I3 L4 P5 h => ?_)
  refine q_istore_n (lo1 := [some (.ref a0), some (.int x1), some (.int r2), none, none]) C dX10_seedSlot_4 (by decide) rfl ?_
  refine q_iload_n C dX10_seedSlot_5 rfl ?_
  refine q_i2l C dX10_seedSlot_6 ?_
  refine q_lconst (v := 1) C dX10_seedSlot_7 (by decide) ?_
  refine q_iload_n C dX10_seedSlot_8 rfl ?_
  refine q_i2l C dX10_seedSlot_9 ?_
  refine q_cSi (as := [.long (Int32.toInt64 x1), .long 1, .long (Int32.toInt64 r2)]) (st := []) C ms_X10_in ml_RX10_63 dX10_seedSlot_10 rfl rfl (Nat.le_of_ble_eq_true rfl) ⟨Nat.le_refl _, Nat.le_refl _⟩ h (fun r6 I7 L8 P9 h => ?_)
  refine q_if_ne (tgt := 19) C dX10_seedSlot_13 (by decide) (fun c10 => ?_) (fun c10 => ?_)
  · replace h := h.1 c10
    refine q_aload_n C dX10_seedSlot_19 rfl ?_
    refine q_getP C fl_RX10_31 rfl s1 dX10_seedSlot_20 ?_
    refine q_iconst (v := 0) C dX10_seedSlot_23 (by decide) ?_
    refine q_iconst (v := 1) C dX10_seedSlot_24 (by decide) ?_
    have s11 := h.1
    replace h := h.2
    have s12 := h.1
    replace h := h.2
    refine q_iast C s11 s12 dX10_seedSlot_25 (fun I13 eI13 => ?_)
    replace h := h I13 eI13
    refine q_iconst (v := 1) C dX10_seedSlot_26 (by decide) ?_
    refine q_istore_n (lo1 := [some (.ref a0), some (.int x1), some (.int r2), some (.int 1), none]) C dX10_seedSlot_27 (by decide) rfl ?_
    exact hT1 _ _ _ _ _ h
  · replace h := h.2 c10
    refine q_bipush (v := (-2)) C dX10_seedSlot_16 (by decide) ?_
    exact q_iret C hk dX10_seedSlot_18 ⟨rfl, h⟩
def vc_X10_seedSlot_1 (d : Nat) (sh : List qSh) (K : Option Value → qMI → qML → qMP → Prop) (T1 : Int32 → Int32 → qMI → qML → qMP → Prop) (T2 : Int32 → Int32 → Int32 → qMI → qML → qMP → Prop) (T3 : Int32 → Int32 → Int32 → qMI → qML → qMP → Prop) (T4 : Int32 → Int32 → qMI → qML → qMP → Prop) (a0 : Nat) (x1 : Int32) (x2 : Int32) (x3 : Int32) (I : qMI) (L : qML) (P : qMP) : Prop :=
  ((x2 ≤ x3) → (T4 x2 0 I L P)) ∧ ((¬ x2 ≤ x3) → (T2 x2 x3 0 I L P))
set_option maxRecDepth 100000 in
set_option maxHeartbeats 4000000 in
theorem rg_X10_seedSlot_1 {X : qCT} {d : Nat} {sh : List qSh} {K : Option Value → qMI → qML → qMP → Prop} {T1 : Int32 → Int32 → qMI → qML → qMP → Prop} {T2 : Int32 → Int32 → Int32 → qMI → qML → qMP → Prop} {T3 : Int32 → Int32 → Int32 → qMI → qML → qMP → Prop} {T4 : Int32 → Int32 → qMI → qML → qMP → Prop} {a0 : Nat} {x1 : Int32} {x2 : Int32} {x3 : Int32} {I : qMI} {L : qML} {P : qMP} (C : qCB X RX10 cX10_seedSlot 5 (d + 1) 0 0) (hk : qCK X (some .int) 0 0 (fun v sh' I' L' P' => sh' = sh ∧ K v I' L' P')) (hT1 : ∀ (x2 : Int32) (x3 : Int32) (I : qMI) (L : qML) (P : qMP), T1 x2 x3 I L P → qG X 28 [some (.ref a0), some (.int x1), some (.int x2), some (.int x3), none] [] sh I L P 0 0) (hT2 : ∀ (x2 : Int32) (x3 : Int32) (x4 : Int32) (I : qMI) (L : qML) (P : qMP), T2 x2 x3 x4 I L P → qG X 36 [some (.ref a0), some (.int x1), some (.int x2), some (.int x3), some (.int x4)] [] sh I L P 0 0) (hT3 : ∀ (x2 : Int32) (x3 : Int32) (x4 : Int32) (I : qMI) (L : qML) (P : qMP), T3 x2 x3 x4 I L P → qG X 91 [some (.ref a0), some (.int x1), some (.int x2), some (.int x3), some (.int x4)] [] sh I L P 0 0) (hT4 : ∀ (x2 : Int32) (x3 : Int32) (I : qMI) (L : qML) (P : qMP), T4 x2 x3 I L P → qG X 128 [some (.ref a0), some (.int x1), some (.int x2), some (.int x3), none] [] sh I L P 0 0) (h : vc_X10_seedSlot_1 d sh K T1 T2 T3 T4 a0 x1 x2 x3 I L P) : qG X 28 [some (.ref a0), some (.int x1), some (.int x2), some (.int x3), none] [] sh I L P 0 0 := by
  unfold vc_X10_seedSlot_1 at h
  refine q_iload_n C dX10_seedSlot_28 rfl ?_
  refine q_iload_n C dX10_seedSlot_29 rfl ?_
  refine q_icmp_ge (tgt := 126) C dX10_seedSlot_30 (by decide) (fun c1 => ?_) (fun c1 => ?_)
  · replace h := h.1 c1
    refine q_iconst (v := 0) C dX10_seedSlot_126 (by decide) ?_
    refine q_istore_n (lo1 := [some (.ref a0), some (.int x1), some (.int x2), some (.int 0), none]) C dX10_seedSlot_127 (by decide) rfl ?_
    exact hT4 _ _ _ _ _ h
  · replace h := h.2 c1
    refine q_iconst (v := 0) C dX10_seedSlot_33 (by decide) ?_
    refine q_istore (lo1 := [some (.ref a0), some (.int x1), some (.int x2), some (.int x3), some (.int 0)]) C dX10_seedSlot_34 (by decide) rfl ?_
    exact hT2 _ _ _ _ _ _ h
def vc_X10_seedSlot_2 (d : Nat) (sh : List qSh) (K : Option Value → qMI → qML → qMP → Prop) (T1 : Int32 → Int32 → qMI → qML → qMP → Prop) (T2 : Int32 → Int32 → Int32 → qMI → qML → qMP → Prop) (T3 : Int32 → Int32 → Int32 → qMI → qML → qMP → Prop) (T4 : Int32 → Int32 → qMI → qML → qMP → Prop) (a0 : Nat) (x1 : Int32) (x2 : Int32) (x3 : Int32) (x4 : Int32) (I : qMI) (L : qML) (P : qMP) : Prop :=
  ((x3 ≤ x4) → (T3 x2 x3 0 I L P)) ∧ ((¬ x3 ≤ x4) → (((shp sh a0).1 = 10) ∧ (((shp sh (P a0 13)).1 = 20) ∧ ((vp_in x4 (shp sh (P a0 13)).2) ∧ (((shp sh (P a0 14)).1 = 20) ∧ ((vp_in (2 * x4) (shp sh (P a0 14)).2) ∧ (∀ I7 : qMI, I7 = uI I (P a0 14) (Int32.toNatClampNeg (2 * x4)) (I (P a0 13) (Int32.toNatClampNeg x4)) → ((vp_in ((2 * x4) + 1) (shp sh (P a0 14)).2) ∧ (∀ I9 : qMI, I9 = uI I7 (P a0 14) (Int32.toNatClampNeg ((2 * x4) + 1)) (((2 * x3) + 1) - (I7 (P a0 13) (Int32.toNatClampNeg x4))) → (T2 x2 x3 (x4 + 1) I9 L P))))))))))
set_option maxRecDepth 100000 in
set_option maxHeartbeats 4000000 in
theorem rg_X10_seedSlot_2 {X : qCT} {d : Nat} {sh : List qSh} {K : Option Value → qMI → qML → qMP → Prop} {T1 : Int32 → Int32 → qMI → qML → qMP → Prop} {T2 : Int32 → Int32 → Int32 → qMI → qML → qMP → Prop} {T3 : Int32 → Int32 → Int32 → qMI → qML → qMP → Prop} {T4 : Int32 → Int32 → qMI → qML → qMP → Prop} {a0 : Nat} {x1 : Int32} {x2 : Int32} {x3 : Int32} {x4 : Int32} {I : qMI} {L : qML} {P : qMP} (C : qCB X RX10 cX10_seedSlot 5 (d + 1) 0 0) (hk : qCK X (some .int) 0 0 (fun v sh' I' L' P' => sh' = sh ∧ K v I' L' P')) (hT1 : ∀ (x2 : Int32) (x3 : Int32) (I : qMI) (L : qML) (P : qMP), T1 x2 x3 I L P → qG X 28 [some (.ref a0), some (.int x1), some (.int x2), some (.int x3), none] [] sh I L P 0 0) (hT2 : ∀ (x2 : Int32) (x3 : Int32) (x4 : Int32) (I : qMI) (L : qML) (P : qMP), T2 x2 x3 x4 I L P → qG X 36 [some (.ref a0), some (.int x1), some (.int x2), some (.int x3), some (.int x4)] [] sh I L P 0 0) (hT3 : ∀ (x2 : Int32) (x3 : Int32) (x4 : Int32) (I : qMI) (L : qML) (P : qMP), T3 x2 x3 x4 I L P → qG X 91 [some (.ref a0), some (.int x1), some (.int x2), some (.int x3), some (.int x4)] [] sh I L P 0 0) (hT4 : ∀ (x2 : Int32) (x3 : Int32) (I : qMI) (L : qML) (P : qMP), T4 x2 x3 I L P → qG X 128 [some (.ref a0), some (.int x1), some (.int x2), some (.int x3), none] [] sh I L P 0 0) (h : vc_X10_seedSlot_2 d sh K T1 T2 T3 T4 a0 x1 x2 x3 x4 I L P) : qG X 36 [some (.ref a0), some (.int x1), some (.int x2), some (.int x3), some (.int x4)] [] sh I L P 0 0 := by
  unfold vc_X10_seedSlot_2 at h
  refine q_iload C dX10_seedSlot_36 rfl ?_
  refine q_iload_n C dX10_seedSlot_38 rfl ?_
  refine q_icmp_ge (tgt := 88) C dX10_seedSlot_39 (by decide) (fun c1 => ?_) (fun c1 => ?_)
  · replace h := h.1 c1
    refine q_iconst (v := 0) C dX10_seedSlot_88 (by decide) ?_
    refine q_istore (lo1 := [some (.ref a0), some (.int x1), some (.int x2), some (.int x3), some (.int 0)]) C dX10_seedSlot_89 (by decide) rfl ?_
    exact hT3 _ _ _ _ _ _ h
  · replace h := h.2 c1
    refine q_aload_n C dX10_seedSlot_42 rfl ?_
    have s2 := h.1
    replace h := h.2
    refine q_getP C fl_RX10_34 rfl s2 dX10_seedSlot_43 ?_
    refine q_iconst (v := 2) C dX10_seedSlot_46 (by decide) ?_
    refine q_iload C dX10_seedSlot_47 rfl ?_
    refine q_imul C dX10_seedSlot_49 ?_
    refine q_aload_n C dX10_seedSlot_50 rfl ?_
    refine q_getP C fl_RX10_31 rfl s2 dX10_seedSlot_51 ?_
    refine q_iload C dX10_seedSlot_54 rfl ?_
    have s3 := h.1
    replace h := h.2
    have s4 := h.1
    replace h := h.2
    refine q_iald C s3 s4 dX10_seedSlot_56 ?_
    have s5 := h.1
    replace h := h.2
    have s6 := h.1
    replace h := h.2
    refine q_iast C s5 s6 dX10_seedSlot_57 (fun I7 eI7 => ?_)
    replace h := h I7 eI7
    refine q_aload_n C dX10_seedSlot_58 rfl ?_
    refine q_getP C fl_RX10_34 rfl s2 dX10_seedSlot_59 ?_
    refine q_iconst (v := 2) C dX10_seedSlot_62 (by decide) ?_
    refine q_iload C dX10_seedSlot_63 rfl ?_
    refine q_imul C dX10_seedSlot_65 ?_
    refine q_iconst (v := 1) C dX10_seedSlot_66 (by decide) ?_
    refine q_iadd C dX10_seedSlot_67 ?_
    refine q_iconst (v := 2) C dX10_seedSlot_68 (by decide) ?_
    refine q_iload_n C dX10_seedSlot_69 rfl ?_
    refine q_imul C dX10_seedSlot_70 ?_
    refine q_iconst (v := 1) C dX10_seedSlot_71 (by decide) ?_
    refine q_iadd C dX10_seedSlot_72 ?_
    refine q_aload_n C dX10_seedSlot_73 rfl ?_
    refine q_getP C fl_RX10_31 rfl s2 dX10_seedSlot_74 ?_
    refine q_iload C dX10_seedSlot_77 rfl ?_
    refine q_iald C s3 s4 dX10_seedSlot_79 ?_
    refine q_isub C dX10_seedSlot_80 ?_
    have s8 := h.1
    replace h := h.2
    refine q_iast C s5 s8 dX10_seedSlot_81 (fun I9 eI9 => ?_)
    replace h := h I9 eI9
    refine q_iinc (w := 1) (lo1 := [some (.ref a0), some (.int x1), some (.int x2), some (.int x3), some (.int (x4 + 1))]) C dX10_seedSlot_82 rfl (by decide) (by decide) rfl ?_
    refine q_goto (tgt := 36) C dX10_seedSlot_85 (by decide) ?_
    exact hT2 _ _ _ _ _ _ h
def vc_X10_seedSlot_3 (d : Nat) (sh : List qSh) (K : Option Value → qMI → qML → qMP → Prop) (T1 : Int32 → Int32 → qMI → qML → qMP → Prop) (T2 : Int32 → Int32 → Int32 → qMI → qML → qMP → Prop) (T3 : Int32 → Int32 → Int32 → qMI → qML → qMP → Prop) (T4 : Int32 → Int32 → qMI → qML → qMP → Prop) (a0 : Nat) (x1 : Int32) (x2 : Int32) (x3 : Int32) (x4 : Int32) (I : qMI) (L : qML) (P : qMP) : Prop :=
  (((2 * x3) ≤ x4) → (T1 x2 (x3 * 2) I L P)) ∧ ((¬ (2 * x3) ≤ x4) → (((shp sh a0).1 = 10) ∧ (((shp sh (P a0 14)).1 = 20) ∧ ((vp_in x4 (shp sh (P a0 14)).2) ∧ (((shp sh (P a0 13)).1 = 20) ∧ ((vp_in x4 (shp sh (P a0 13)).2) ∧ (∀ I7 : qMI, I7 = uI I (P a0 13) (Int32.toNatClampNeg x4) (I (P a0 14) (Int32.toNatClampNeg x4)) → (T3 x2 x3 (x4 + 1) I7 L P))))))))
set_option maxRecDepth 100000 in
set_option maxHeartbeats 4000000 in
theorem rg_X10_seedSlot_3 {X : qCT} {d : Nat} {sh : List qSh} {K : Option Value → qMI → qML → qMP → Prop} {T1 : Int32 → Int32 → qMI → qML → qMP → Prop} {T2 : Int32 → Int32 → Int32 → qMI → qML → qMP → Prop} {T3 : Int32 → Int32 → Int32 → qMI → qML → qMP → Prop} {T4 : Int32 → Int32 → qMI → qML → qMP → Prop} {a0 : Nat} {x1 : Int32} {x2 : Int32} {x3 : Int32} {x4 : Int32} {I : qMI} {L : qML} {P : qMP} (C : qCB X RX10 cX10_seedSlot 5 (d + 1) 0 0) (hk : qCK X (some .int) 0 0 (fun v sh' I' L' P' => sh' = sh ∧ K v I' L' P')) (hT1 : ∀ (x2 : Int32) (x3 : Int32) (I : qMI) (L : qML) (P : qMP), T1 x2 x3 I L P → qG X 28 [some (.ref a0), some (.int x1), some (.int x2), some (.int x3), none] [] sh I L P 0 0) (hT2 : ∀ (x2 : Int32) (x3 : Int32) (x4 : Int32) (I : qMI) (L : qML) (P : qMP), T2 x2 x3 x4 I L P → qG X 36 [some (.ref a0), some (.int x1), some (.int x2), some (.int x3), some (.int x4)] [] sh I L P 0 0) (hT3 : ∀ (x2 : Int32) (x3 : Int32) (x4 : Int32) (I : qMI) (L : qML) (P : qMP), T3 x2 x3 x4 I L P → qG X 91 [some (.ref a0), some (.int x1), some (.int x2), some (.int x3), some (.int x4)] [] sh I L P 0 0) (hT4 : ∀ (x2 : Int32) (x3 : Int32) (I : qMI) (L : qML) (P : qMP), T4 x2 x3 I L P → qG X 128 [some (.ref a0), some (.int x1), some (.int x2), some (.int x3), none] [] sh I L P 0 0) (h : vc_X10_seedSlot_3 d sh K T1 T2 T3 T4 a0 x1 x2 x3 x4 I L P) : qG X 91 [some (.ref a0), some (.int x1), some (.int x2), some (.int x3), some (.int x4)] [] sh I L P 0 0 := by
  unfold vc_X10_seedSlot_3 at h
  refine q_iload C dX10_seedSlot_91 rfl ?_
  refine q_iconst (v := 2) C dX10_seedSlot_93 (by decide) ?_
  refine q_iload_n C dX10_seedSlot_94 rfl ?_
  refine q_imul C dX10_seedSlot_95 ?_
  refine q_icmp_ge (tgt := 119) C dX10_seedSlot_96 (by decide) (fun c1 => ?_) (fun c1 => ?_)
  · replace h := h.1 c1
    refine q_iload_n C dX10_seedSlot_119 rfl ?_
    refine q_iconst (v := 2) C dX10_seedSlot_120 (by decide) ?_
    refine q_imul C dX10_seedSlot_121 ?_
    refine q_istore_n (lo1 := [some (.ref a0), some (.int x1), some (.int x2), some (.int (x3 * 2)), some (.int x4)]) C dX10_seedSlot_122 (by decide) rfl ?_
    refine q_goto (tgt := 28) C dX10_seedSlot_123 (by decide) ?_
    refine q_kill 4 (lo1 := [some (.ref a0), some (.int x1), some (.int x2), some (.int (x3 * 2)), none]) rfl ?_
    exact hT1 _ _ _ _ _ h
  · replace h := h.2 c1
    refine q_aload_n C dX10_seedSlot_99 rfl ?_
    have s2 := h.1
    replace h := h.2
    refine q_getP C fl_RX10_31 rfl s2 dX10_seedSlot_100 ?_
    refine q_iload C dX10_seedSlot_103 rfl ?_
    refine q_aload_n C dX10_seedSlot_105 rfl ?_
    refine q_getP C fl_RX10_34 rfl s2 dX10_seedSlot_106 ?_
    refine q_iload C dX10_seedSlot_109 rfl ?_
    have s3 := h.1
    replace h := h.2
    have s4 := h.1
    replace h := h.2
    refine q_iald C s3 s4 dX10_seedSlot_111 ?_
    have s5 := h.1
    replace h := h.2
    have s6 := h.1
    replace h := h.2
    refine q_iast C s5 s6 dX10_seedSlot_112 (fun I7 eI7 => ?_)
    replace h := h I7 eI7
    refine q_iinc (w := 1) (lo1 := [some (.ref a0), some (.int x1), some (.int x2), some (.int x3), some (.int (x4 + 1))]) C dX10_seedSlot_113 rfl (by decide) (by decide) rfl ?_
    refine q_goto (tgt := 91) C dX10_seedSlot_116 (by decide) ?_
    exact hT3 _ _ _ _ _ _ h
def vc_X10_seedSlot_4 (d : Nat) (sh : List qSh) (K : Option Value → qMI → qML → qMP → Prop) (T1 : Int32 → Int32 → qMI → qML → qMP → Prop) (T2 : Int32 → Int32 → Int32 → qMI → qML → qMP → Prop) (T3 : Int32 → Int32 → Int32 → qMI → qML → qMP → Prop) (T4 : Int32 → Int32 → qMI → qML → qMP → Prop) (a0 : Nat) (x1 : Int32) (x2 : Int32) (x3 : Int32) (I : qMI) (L : qML) (P : qMP) : Prop :=
  ((shp sh a0).1 = 10) ∧ (((shp sh (P a0 13)).1 = 20) ∧ ((vp_in x3 (shp sh (P a0 13)).2) ∧ ((((I (P a0 13) (Int32.toNatClampNeg x3)) = x1) → (K (some (.int x3)) I L P)) ∧ ((¬ (I (P a0 13) (Int32.toNatClampNeg x3)) = x1) → (T4 x2 (x3 + 1) I L P)))))
set_option maxRecDepth 100000 in
set_option maxHeartbeats 4000000 in
theorem rg_X10_seedSlot_4 {X : qCT} {d : Nat} {sh : List qSh} {K : Option Value → qMI → qML → qMP → Prop} {T1 : Int32 → Int32 → qMI → qML → qMP → Prop} {T2 : Int32 → Int32 → Int32 → qMI → qML → qMP → Prop} {T3 : Int32 → Int32 → Int32 → qMI → qML → qMP → Prop} {T4 : Int32 → Int32 → qMI → qML → qMP → Prop} {a0 : Nat} {x1 : Int32} {x2 : Int32} {x3 : Int32} {I : qMI} {L : qML} {P : qMP} (C : qCB X RX10 cX10_seedSlot 5 (d + 1) 0 0) (hk : qCK X (some .int) 0 0 (fun v sh' I' L' P' => sh' = sh ∧ K v I' L' P')) (hT1 : ∀ (x2 : Int32) (x3 : Int32) (I : qMI) (L : qML) (P : qMP), T1 x2 x3 I L P → qG X 28 [some (.ref a0), some (.int x1), some (.int x2), some (.int x3), none] [] sh I L P 0 0) (hT2 : ∀ (x2 : Int32) (x3 : Int32) (x4 : Int32) (I : qMI) (L : qML) (P : qMP), T2 x2 x3 x4 I L P → qG X 36 [some (.ref a0), some (.int x1), some (.int x2), some (.int x3), some (.int x4)] [] sh I L P 0 0) (hT3 : ∀ (x2 : Int32) (x3 : Int32) (x4 : Int32) (I : qMI) (L : qML) (P : qMP), T3 x2 x3 x4 I L P → qG X 91 [some (.ref a0), some (.int x1), some (.int x2), some (.int x3), some (.int x4)] [] sh I L P 0 0) (hT4 : ∀ (x2 : Int32) (x3 : Int32) (I : qMI) (L : qML) (P : qMP), T4 x2 x3 I L P → qG X 128 [some (.ref a0), some (.int x1), some (.int x2), some (.int x3), none] [] sh I L P 0 0) (h : vc_X10_seedSlot_4 d sh K T1 T2 T3 T4 a0 x1 x2 x3 I L P) : qG X 128 [some (.ref a0), some (.int x1), some (.int x2), some (.int x3), none] [] sh I L P 0 0 := by
  unfold vc_X10_seedSlot_4 at h
  refine q_aload_n C dX10_seedSlot_128 rfl ?_
  have s1 := h.1
  replace h := h.2
  refine q_getP C fl_RX10_31 rfl s1 dX10_seedSlot_129 ?_
  refine q_iload_n C dX10_seedSlot_132 rfl ?_
  have s2 := h.1
  replace h := h.2
  have s3 := h.1
  replace h := h.2
  refine q_iald C s2 s3 dX10_seedSlot_133 ?_
  refine q_iload_n C dX10_seedSlot_134 rfl ?_
  refine q_icmp_eq (tgt := 144) C dX10_seedSlot_135 (by decide) (fun c4 => ?_) (fun c4 => ?_)
  · replace h := h.1 c4
    refine q_iload_n C dX10_seedSlot_144 rfl ?_
    exact q_iret C hk dX10_seedSlot_145 ⟨rfl, h⟩
  · replace h := h.2 c4
    refine q_iinc (w := 1) (lo1 := [some (.ref a0), some (.int x1), some (.int x2), some (.int (x3 + 1)), none]) C dX10_seedSlot_138 rfl (by decide) (by decide) rfl ?_
    refine q_goto (tgt := 128) C dX10_seedSlot_141 (by decide) ?_
    exact hT4 _ _ _ _ _ h
theorem sp_X10_seedSlot {d : Nat} {sh : List qSh} {K : Option Value → qMI → qML → qMP → Prop} {a0 : Nat} {x1 : Int32} {I : qMI} {L : qML} {P : qMP} (T1 : Int32 → Int32 → qMI → qML → qMP → Prop) (m1 : Int32 → Int32 → qMI → qML → qMP → Nat) (T2 : Int32 → Int32 → Int32 → qMI → qML → qMP → Prop) (m2 : Int32 → Int32 → Int32 → qMI → qML → qMP → Nat) (T3 : Int32 → Int32 → Int32 → qMI → qML → qMP → Prop) (m3 : Int32 → Int32 → Int32 → qMI → qML → qMP → Nat) (T4 : Int32 → Int32 → qMI → qML → qMP → Prop) (m4 : Int32 → Int32 → qMI → qML → qMP → Nat) (h0 : vc_X10_seedSlot_0 d sh K T1 T2 T3 T4 a0 x1 I L P)
    (h1 : ∀ (x2 : Int32) (x3 : Int32) (I : qMI) (L : qML) (P : qMP), T1 x2 x3 I L P → vc_X10_seedSlot_1 d sh K (fun w0 w1 I' L' P' => T1 w0 w1 I' L' P' ∧ m1 w0 w1 I' L' P' < m1 x2 x3 I L P) (fun w0 w1 w2 I' L' P' => T2 w0 w1 w2 I' L' P' ∧ m2 w0 w1 w2 I' L' P' < m1 x2 x3 I L P) (fun w0 w1 w2 I' L' P' => T3 w0 w1 w2 I' L' P' ∧ m3 w0 w1 w2 I' L' P' < m1 x2 x3 I L P) (fun w0 w1 I' L' P' => T4 w0 w1 I' L' P' ∧ m4 w0 w1 I' L' P' < m1 x2 x3 I L P) a0 x1 x2 x3 I L P)
    (h2 : ∀ (x2 : Int32) (x3 : Int32) (x4 : Int32) (I : qMI) (L : qML) (P : qMP), T2 x2 x3 x4 I L P → vc_X10_seedSlot_2 d sh K (fun w0 w1 I' L' P' => T1 w0 w1 I' L' P' ∧ m1 w0 w1 I' L' P' < m2 x2 x3 x4 I L P) (fun w0 w1 w2 I' L' P' => T2 w0 w1 w2 I' L' P' ∧ m2 w0 w1 w2 I' L' P' < m2 x2 x3 x4 I L P) (fun w0 w1 w2 I' L' P' => T3 w0 w1 w2 I' L' P' ∧ m3 w0 w1 w2 I' L' P' < m2 x2 x3 x4 I L P) (fun w0 w1 I' L' P' => T4 w0 w1 I' L' P' ∧ m4 w0 w1 I' L' P' < m2 x2 x3 x4 I L P) a0 x1 x2 x3 x4 I L P)
    (h3 : ∀ (x2 : Int32) (x3 : Int32) (x4 : Int32) (I : qMI) (L : qML) (P : qMP), T3 x2 x3 x4 I L P → vc_X10_seedSlot_3 d sh K (fun w0 w1 I' L' P' => T1 w0 w1 I' L' P' ∧ m1 w0 w1 I' L' P' < m3 x2 x3 x4 I L P) (fun w0 w1 w2 I' L' P' => T2 w0 w1 w2 I' L' P' ∧ m2 w0 w1 w2 I' L' P' < m3 x2 x3 x4 I L P) (fun w0 w1 w2 I' L' P' => T3 w0 w1 w2 I' L' P' ∧ m3 w0 w1 w2 I' L' P' < m3 x2 x3 x4 I L P) (fun w0 w1 I' L' P' => T4 w0 w1 I' L' P' ∧ m4 w0 w1 I' L' P' < m3 x2 x3 x4 I L P) a0 x1 x2 x3 x4 I L P)
    (h4 : ∀ (x2 : Int32) (x3 : Int32) (I : qMI) (L : qML) (P : qMP), T4 x2 x3 I L P → vc_X10_seedSlot_4 d sh K (fun w0 w1 I' L' P' => T1 w0 w1 I' L' P' ∧ m1 w0 w1 I' L' P' < m4 x2 x3 I L P) (fun w0 w1 w2 I' L' P' => T2 w0 w1 w2 I' L' P' ∧ m2 w0 w1 w2 I' L' P' < m4 x2 x3 I L P) (fun w0 w1 w2 I' L' P' => T3 w0 w1 w2 I' L' P' ∧ m3 w0 w1 w2 I' L' P' < m4 x2 x3 I L P) (fun w0 w1 I' L' P' => T4 w0 w1 I' L' P' ∧ m4 w0 w1 I' L' P' < m4 x2 x3 I L P) a0 x1 x2 x3 I L P) : Sq (d + 1) mX10_seedSlot sh [.ref a0, .int x1] I L P K := by
  refine Sq_of (by decide +kernel) (Nat.le_of_ble_eq_true rfl) (fun X C hk hn => ?_)
  have go : ∀ N : Nat, (∀ (x2 : Int32) (x3 : Int32) (I : qMI) (L : qML) (P : qMP), T1 x2 x3 I L P → m1 x2 x3 I L P < N → qG X 28 [some (.ref a0), some (.int x1), some (.int x2), some (.int x3), none] [] sh I L P 0 0) ∧ (∀ (x2 : Int32) (x3 : Int32) (x4 : Int32) (I : qMI) (L : qML) (P : qMP), T2 x2 x3 x4 I L P → m2 x2 x3 x4 I L P < N → qG X 36 [some (.ref a0), some (.int x1), some (.int x2), some (.int x3), some (.int x4)] [] sh I L P 0 0) ∧ (∀ (x2 : Int32) (x3 : Int32) (x4 : Int32) (I : qMI) (L : qML) (P : qMP), T3 x2 x3 x4 I L P → m3 x2 x3 x4 I L P < N → qG X 91 [some (.ref a0), some (.int x1), some (.int x2), some (.int x3), some (.int x4)] [] sh I L P 0 0) ∧ (∀ (x2 : Int32) (x3 : Int32) (I : qMI) (L : qML) (P : qMP), T4 x2 x3 I L P → m4 x2 x3 I L P < N → qG X 128 [some (.ref a0), some (.int x1), some (.int x2), some (.int x3), none] [] sh I L P 0 0) := by
    intro N
    induction N with
    | zero => exact ⟨fun _ _ _ _ _ _ q => absurd q (Nat.not_lt_zero _), fun _ _ _ _ _ _ _ q => absurd q (Nat.not_lt_zero _), fun _ _ _ _ _ _ _ q => absurd q (Nat.not_lt_zero _), fun _ _ _ _ _ _ q => absurd q (Nat.not_lt_zero _)⟩
    | succ N ih =>
      exact ⟨fun b0 b1 I1 L1 P1 t q => rg_X10_seedSlot_1 C hk (fun z0 z1 I2 L2 P2 z => ih.1 z0 z1 I2 L2 P2 z.1 (Nat.lt_of_lt_of_le z.2 (Nat.le_of_lt_succ q))) (fun z0 z1 z2 I2 L2 P2 z => ih.2.1 z0 z1 z2 I2 L2 P2 z.1 (Nat.lt_of_lt_of_le z.2 (Nat.le_of_lt_succ q))) (fun z0 z1 z2 I2 L2 P2 z => ih.2.2.1 z0 z1 z2 I2 L2 P2 z.1 (Nat.lt_of_lt_of_le z.2 (Nat.le_of_lt_succ q))) (fun z0 z1 I2 L2 P2 z => ih.2.2.2 z0 z1 I2 L2 P2 z.1 (Nat.lt_of_lt_of_le z.2 (Nat.le_of_lt_succ q))) (h1 b0 b1 I1 L1 P1 t), fun b0 b1 b2 I1 L1 P1 t q => rg_X10_seedSlot_2 C hk (fun z0 z1 I2 L2 P2 z => ih.1 z0 z1 I2 L2 P2 z.1 (Nat.lt_of_lt_of_le z.2 (Nat.le_of_lt_succ q))) (fun z0 z1 z2 I2 L2 P2 z => ih.2.1 z0 z1 z2 I2 L2 P2 z.1 (Nat.lt_of_lt_of_le z.2 (Nat.le_of_lt_succ q))) (fun z0 z1 z2 I2 L2 P2 z => ih.2.2.1 z0 z1 z2 I2 L2 P2 z.1 (Nat.lt_of_lt_of_le z.2 (Nat.le_of_lt_succ q))) (fun z0 z1 I2 L2 P2 z => ih.2.2.2 z0 z1 I2 L2 P2 z.1 (Nat.lt_of_lt_of_le z.2 (Nat.le_of_lt_succ q))) (h2 b0 b1 b2 I1 L1 P1 t), fun b0 b1 b2 I1 L1 P1 t q => rg_X10_seedSlot_3 C hk (fun z0 z1 I2 L2 P2 z => ih.1 z0 z1 I2 L2 P2 z.1 (Nat.lt_of_lt_of_le z.2 (Nat.le_of_lt_succ q))) (fun z0 z1 z2 I2 L2 P2 z => ih.2.1 z0 z1 z2 I2 L2 P2 z.1 (Nat.lt_of_lt_of_le z.2 (Nat.le_of_lt_succ q))) (fun z0 z1 z2 I2 L2 P2 z => ih.2.2.1 z0 z1 z2 I2 L2 P2 z.1 (Nat.lt_of_lt_of_le z.2 (Nat.le_of_lt_succ q))) (fun z0 z1 I2 L2 P2 z => ih.2.2.2 z0 z1 I2 L2 P2 z.1 (Nat.lt_of_lt_of_le z.2 (Nat.le_of_lt_succ q))) (h3 b0 b1 b2 I1 L1 P1 t), fun b0 b1 I1 L1 P1 t q => rg_X10_seedSlot_4 C hk (fun z0 z1 I2 L2 P2 z => ih.1 z0 z1 I2 L2 P2 z.1 (Nat.lt_of_lt_of_le z.2 (Nat.le_of_lt_succ q))) (fun z0 z1 z2 I2 L2 P2 z => ih.2.1 z0 z1 z2 I2 L2 P2 z.1 (Nat.lt_of_lt_of_le z.2 (Nat.le_of_lt_succ q))) (fun z0 z1 z2 I2 L2 P2 z => ih.2.2.1 z0 z1 z2 I2 L2 P2 z.1 (Nat.lt_of_lt_of_le z.2 (Nat.le_of_lt_succ q))) (fun z0 z1 I2 L2 P2 z => ih.2.2.2 z0 z1 I2 L2 P2 z.1 (Nat.lt_of_lt_of_le z.2 (Nat.le_of_lt_succ q))) (h4 b0 b1 I1 L1 P1 t)⟩
  exact rg_X10_seedSlot_0 C hk (fun b0 b1 I1 L1 P1 t => (go (m1 b0 b1 I1 L1 P1 + 1)).1 b0 b1 I1 L1 P1 t (Nat.lt_succ_self _)) (fun b0 b1 b2 I1 L1 P1 t => (go (m2 b0 b1 b2 I1 L1 P1 + 1)).2.1 b0 b1 b2 I1 L1 P1 t (Nat.lt_succ_self _)) (fun b0 b1 b2 I1 L1 P1 t => (go (m3 b0 b1 b2 I1 L1 P1 + 1)).2.2.1 b0 b1 b2 I1 L1 P1 t (Nat.lt_succ_self _)) (fun b0 b1 I1 L1 P1 t => (go (m4 b0 b1 I1 L1 P1 + 1)).2.2.2 b0 b1 I1 L1 P1 t (Nat.lt_succ_self _)) h0
/-! BracketDrawsModel.blockAt(II)I -/
def vc_X10_blockAt_0 (d : Nat) (sh : List qSh) (K : Option Value → qMI → qML → qMP → Prop) (x0 : Int32) (x1 : Int32) (I : qMI) (L : qML) (P : qMP) : Prop :=
  ((¬ x0 = 0) → (((¬ x0 = 1) → (((¬ x0 = 2) → (((¬ x0 = 3) → (K (some (.int (1024 * (30 + x1)))) I L P)) ∧ ((x0 = 3) → (K (some (.int (1024 * (28 + x1)))) I L P)))) ∧ ((x0 = 2) → (K (some (.int (1024 * (24 + x1)))) I L P)))) ∧ ((x0 = 1) → (K (some (.int (1024 * (16 + x1)))) I L P)))) ∧ ((x0 = 0) → (K (some (.int (1024 * (0 + x1)))) I L P))
set_option maxRecDepth 100000 in
set_option maxHeartbeats 4000000 in
theorem rg_X10_blockAt_0 {X : qCT} {d : Nat} {sh : List qSh} {K : Option Value → qMI → qML → qMP → Prop} {x0 : Int32} {x1 : Int32} {I : qMI} {L : qML} {P : qMP} (C : qCB X RX10 cX10_blockAt 2 (d + 1) 0 0) (hk : qCK X (some .int) 0 0 (fun v sh' I' L' P' => sh' = sh ∧ K v I' L' P')) (h : vc_X10_blockAt_0 d sh K x0 x1 I L P) : qG X 0 [some (.int x0), some (.int x1)] [] sh I L P 0 0 := by
  unfold vc_X10_blockAt_0 at h
  refine q_sipush (v := 1024) C dX10_blockAt_0 (by decide) ?_
  refine q_iload_n C dX10_blockAt_3 rfl ?_
  refine q_if_ne (tgt := 11) C dX10_blockAt_4 (by decide) (fun c1 => ?_) (fun c1 => ?_)
  · replace h := h.1 c1
    refine q_iload_n C dX10_blockAt_11 rfl ?_
    refine q_iconst (v := 1) C dX10_blockAt_12 (by decide) ?_
    refine q_icmp_ne (tgt := 21) C dX10_blockAt_13 (by decide) (fun c2 => ?_) (fun c2 => ?_)
    · replace h := h.1 c2
      refine q_iload_n C dX10_blockAt_21 rfl ?_
      refine q_iconst (v := 2) C dX10_blockAt_22 (by decide) ?_
      refine q_icmp_ne (tgt := 31) C dX10_blockAt_23 (by decide) (fun c3 => ?_) (fun c3 => ?_)
      · replace h := h.1 c3
        refine q_iload_n C dX10_blockAt_31 rfl ?_
        refine q_iconst (v := 3) C dX10_blockAt_32 (by decide) ?_
        refine q_icmp_ne (tgt := 41) C dX10_blockAt_33 (by decide) (fun c4 => ?_) (fun c4 => ?_)
        · replace h := h.1 c4
          refine q_bipush (v := 30) C dX10_blockAt_41 (by decide) ?_
          refine q_iload_n C dX10_blockAt_43 rfl ?_
          refine q_iadd C dX10_blockAt_44 ?_
          refine q_imul C dX10_blockAt_45 ?_
          exact q_iret C hk dX10_blockAt_46 ⟨rfl, h⟩
        · replace h := h.2 c4
          refine q_bipush (v := 28) C dX10_blockAt_36 (by decide) ?_
          refine q_goto (tgt := 43) C dX10_blockAt_38 (by decide) ?_
          refine q_iload_n C dX10_blockAt_43 rfl ?_
          refine q_iadd C dX10_blockAt_44 ?_
          refine q_imul C dX10_blockAt_45 ?_
          exact q_iret C hk dX10_blockAt_46 ⟨rfl, h⟩
      · replace h := h.2 c3
        refine q_bipush (v := 24) C dX10_blockAt_26 (by decide) ?_
        refine q_goto (tgt := 43) C dX10_blockAt_28 (by decide) ?_
        refine q_iload_n C dX10_blockAt_43 rfl ?_
        refine q_iadd C dX10_blockAt_44 ?_
        refine q_imul C dX10_blockAt_45 ?_
        exact q_iret C hk dX10_blockAt_46 ⟨rfl, h⟩
    · replace h := h.2 c2
      refine q_bipush (v := 16) C dX10_blockAt_16 (by decide) ?_
      refine q_goto (tgt := 43) C dX10_blockAt_18 (by decide) ?_
      refine q_iload_n C dX10_blockAt_43 rfl ?_
      refine q_iadd C dX10_blockAt_44 ?_
      refine q_imul C dX10_blockAt_45 ?_
      exact q_iret C hk dX10_blockAt_46 ⟨rfl, h⟩
  · replace h := h.2 c1
    refine q_iconst (v := 0) C dX10_blockAt_7 (by decide) ?_
    refine q_goto (tgt := 43) C dX10_blockAt_8 (by decide) ?_
    refine q_iload_n C dX10_blockAt_43 rfl ?_
    refine q_iadd C dX10_blockAt_44 ?_
    refine q_imul C dX10_blockAt_45 ?_
    exact q_iret C hk dX10_blockAt_46 ⟨rfl, h⟩
theorem sp_X10_blockAt {d : Nat} {sh : List qSh} {K : Option Value → qMI → qML → qMP → Prop} {x0 : Int32} {x1 : Int32} {I : qMI} {L : qML} {P : qMP} (h0 : vc_X10_blockAt_0 d sh K x0 x1 I L P) : Sq (d + 1) mX10_blockAt sh [.int x0, .int x1] I L P K := by
  refine Sq_of (by decide +kernel) (Nat.le_of_ble_eq_true rfl) (fun X C hk hn => ?_)
  exact rg_X10_blockAt_0 C hk h0
/-! BracketDrawsModel.areUnlike(II)Z -/
def vc_X10_areUnlike_0 (d : Nat) (sh : List qSh) (K : Option Value → qMI → qML → qMP → Prop) (T1 : Int32 → Int32 → qMI → qML → qMP → Prop) (a0 : Nat) (x1 : Int32) (x2 : Int32) (I : qMI) (L : qML) (P : qMP) : Prop :=
  T1 0 0 I L P
set_option maxRecDepth 100000 in
set_option maxHeartbeats 4000000 in
theorem rg_X10_areUnlike_0 {X : qCT} {d : Nat} {sh : List qSh} {K : Option Value → qMI → qML → qMP → Prop} {T1 : Int32 → Int32 → qMI → qML → qMP → Prop} {a0 : Nat} {x1 : Int32} {x2 : Int32} {I : qMI} {L : qML} {P : qMP} (C : qCB X RX10 cX10_areUnlike 6 (d + 1) 0 0) (hk : qCK X (some .boolean) 0 0 (fun v sh' I' L' P' => sh' = sh ∧ K v I' L' P')) (hT1 : ∀ (x3 : Int32) (x4 : Int32) (I : qMI) (L : qML) (P : qMP), T1 x3 x4 I L P → qG X 5 [some (.ref a0), some (.int x1), some (.int x2), some (.int x3), some (.int x4), none] [] sh I L P 0 0) (h : vc_X10_areUnlike_0 d sh K T1 a0 x1 x2 I L P) : qG X 0 [some (.ref a0), some (.int x1), some (.int x2), none, none, none] [] sh I L P 0 0 := by
  unfold vc_X10_areUnlike_0 at h
  refine q_iconst (v := 0) C dX10_areUnlike_0 (by decide) ?_
  refine q_istore_n (lo1 := [some (.ref a0), some (.int x1), some (.int x2), some (.int 0), none, none]) C dX10_areUnlike_1 (by decide) rfl ?_
  refine q_iconst (v := 0) C dX10_areUnlike_2 (by decide) ?_
  refine q_istore (lo1 := [some (.ref a0), some (.int x1), some (.int x2), some (.int 0), some (.int 0), none]) C dX10_areUnlike_3 (by decide) rfl ?_
  exact hT1 _ _ _ _ _ h
def vc_X10_areUnlike_1 (d : Nat) (sh : List qSh) (K : Option Value → qMI → qML → qMP → Prop) (T1 : Int32 → Int32 → qMI → qML → qMP → Prop) (a0 : Nat) (x1 : Int32) (x2 : Int32) (x3 : Int32) (x4 : Int32) (I : qMI) (L : qML) (P : qMP) : Prop :=
  ((shp sh a0).1 = 10) ∧ (((shp sh (P a0 0)).1 = 20) ∧ ((vp_in 0 (shp sh (P a0 0)).2) ∧ ((((I (P a0 0) (Int32.toNatClampNeg 0)) ≤ x4) → (K (some (.int 1)) I L P)) ∧ ((¬ (I (P a0 0) (Int32.toNatClampNeg 0)) ≤ x4) → (((¬ ((x1 >>> (x4 &&& 31)) &&& 1) = 1) → (T1 (x3 ||| ((1 : Int32) <<< (0 &&& 31))) (x4 + 1) I L P)) ∧ ((((x1 >>> (x4 &&& 31)) &&& 1) = 1) → ((vp_in (x2 + x4) (shp sh (P a0 0)).2) ∧ ((((I (P a0 0) (Int32.toNatClampNeg (x2 + x4))) ≤ 0) → (T1 (x3 ||| ((1 : Int32) <<< ((I (P a0 0) (Int32.toNatClampNeg (x2 + x4))) &&& 31))) (x4 + 1) I L P)) ∧ ((¬ (I (P a0 0) (Int32.toNatClampNeg (x2 + x4))) ≤ 0) → (((¬ ((x3 >>> ((I (P a0 0) (Int32.toNatClampNeg (x2 + x4))) &&& 31)) &&& 1) = 1) → (T1 (x3 ||| ((1 : Int32) <<< ((I (P a0 0) (Int32.toNatClampNeg (x2 + x4))) &&& 31))) (x4 + 1) I L P)) ∧ ((((x3 >>> ((I (P a0 0) (Int32.toNatClampNeg (x2 + x4))) &&& 31)) &&& 1) = 1) → (K (some (.int 0)) I L P))))))))))))
set_option maxRecDepth 100000 in
set_option maxHeartbeats 4000000 in
theorem rg_X10_areUnlike_1 {X : qCT} {d : Nat} {sh : List qSh} {K : Option Value → qMI → qML → qMP → Prop} {T1 : Int32 → Int32 → qMI → qML → qMP → Prop} {a0 : Nat} {x1 : Int32} {x2 : Int32} {x3 : Int32} {x4 : Int32} {I : qMI} {L : qML} {P : qMP} (C : qCB X RX10 cX10_areUnlike 6 (d + 1) 0 0) (hk : qCK X (some .boolean) 0 0 (fun v sh' I' L' P' => sh' = sh ∧ K v I' L' P')) (hT1 : ∀ (x3 : Int32) (x4 : Int32) (I : qMI) (L : qML) (P : qMP), T1 x3 x4 I L P → qG X 5 [some (.ref a0), some (.int x1), some (.int x2), some (.int x3), some (.int x4), none] [] sh I L P 0 0) (h : vc_X10_areUnlike_1 d sh K T1 a0 x1 x2 x3 x4 I L P) : qG X 5 [some (.ref a0), some (.int x1), some (.int x2), some (.int x3), some (.int x4), none] [] sh I L P 0 0 := by
  unfold vc_X10_areUnlike_1 at h
  refine q_iload C dX10_areUnlike_5 rfl ?_
  refine q_aload_n C dX10_areUnlike_7 rfl ?_
  have s1 := h.1
  replace h := h.2
  refine q_getP C fl_RX10_9 rfl s1 dX10_areUnlike_8 ?_
  refine q_iconst (v := 0) C dX10_areUnlike_11 (by decide) ?_
  have s2 := h.1
  replace h := h.2
  have s3 := h.1
  replace h := h.2
  refine q_iald C s2 s3 dX10_areUnlike_12 ?_
  refine q_icmp_ge (tgt := 71) C dX10_areUnlike_13 (by decide) (fun c4 => ?_) (fun c4 => ?_)
  · replace h := h.1 c4
    refine q_iconst (v := 1) C dX10_areUnlike_71 (by decide) ?_
    exact q_zret C hk (Or.inr rfl) dX10_areUnlike_72 ⟨rfl, h⟩
  · replace h := h.2 c4
    refine q_iload_n C dX10_areUnlike_16 rfl ?_
    refine q_iload C dX10_areUnlike_17 rfl ?_
    refine q_ishr C dX10_areUnlike_19 ?_
    refine q_iconst (v := 1) C dX10_areUnlike_20 (by decide) ?_
    refine q_iand C dX10_areUnlike_21 ?_
    refine q_iconst (v := 1) C dX10_areUnlike_22 (by decide) ?_
    refine q_icmp_ne (tgt := 38) C dX10_areUnlike_23 (by decide) (fun c5 => ?_) (fun c5 => ?_)
    · replace h := h.1 c5
      refine q_iconst (v := 0) C dX10_areUnlike_38 (by decide) ?_
      refine q_istore (lo1 := [some (.ref a0), some (.int x1), some (.int x2), some (.int x3), some (.int x4), some (.int 0)]) C dX10_areUnlike_39 (by decide) rfl ?_
      refine q_iload C dX10_areUnlike_41 rfl ?_
      refine q_if_le (tgt := 58) C dX10_areUnlike_43 (by decide) (fun _ => ?_) (fun c => absurd c (by decide))
      refine q_iload_n C dX10_areUnlike_58 rfl ?_
      refine q_iconst (v := 1) C dX10_areUnlike_59 (by decide) ?_
      refine q_iload C dX10_areUnlike_60 rfl ?_
      refine q_ishl C dX10_areUnlike_62 ?_
      refine q_ior C dX10_areUnlike_63 ?_
      refine q_istore_n (lo1 := [some (.ref a0), some (.int x1), some (.int x2), some (.int (x3 ||| ((1 : Int32) <<< (0 &&& 31)))), some (.int x4), some (.int 0)]) C dX10_areUnlike_64 (by decide) rfl ?_
      refine q_iinc (w := 1) (lo1 := [some (.ref a0), some (.int x1), some (.int x2), some (.int (x3 ||| ((1 : Int32) <<< (0 &&& 31)))), some (.int (x4 + 1)), some (.int 0)]) C dX10_areUnlike_65 rfl (by decide) (by decide) rfl ?_
      refine q_goto (tgt := 5) C dX10_areUnlike_68 (by decide) ?_
      refine q_kill 5 (lo1 := [some (.ref a0), some (.int x1), some (.int x2), some (.int (x3 ||| ((1 : Int32) <<< (0 &&& 31)))), some (.int (x4 + 1)), none]) rfl ?_
      exact hT1 _ _ _ _ _ h
    · replace h := h.2 c5
      refine q_aload_n C dX10_areUnlike_26 rfl ?_
      refine q_getP C fl_RX10_9 rfl s1 dX10_areUnlike_27 ?_
      refine q_iload_n C dX10_areUnlike_30 rfl ?_
      refine q_iload C dX10_areUnlike_31 rfl ?_
      refine q_iadd C dX10_areUnlike_33 ?_
      have s6 := h.1
      replace h := h.2
      refine q_iald C s2 s6 dX10_areUnlike_34 ?_
      refine q_goto (tgt := 39) C dX10_areUnlike_35 (by decide) ?_
      refine q_istore (lo1 := [some (.ref a0), some (.int x1), some (.int x2), some (.int x3), some (.int x4), some (.int (I (P a0 0) (Int32.toNatClampNeg (x2 + x4))))]) C dX10_areUnlike_39 (by decide) rfl ?_
      refine q_iload C dX10_areUnlike_41 rfl ?_
      refine q_if_le (tgt := 58) C dX10_areUnlike_43 (by decide) (fun c7 => ?_) (fun c7 => ?_)
      · replace h := h.1 c7
        refine q_iload_n C dX10_areUnlike_58 rfl ?_
        refine q_iconst (v := 1) C dX10_areUnlike_59 (by decide) ?_
        refine q_iload C dX10_areUnlike_60 rfl ?_
        refine q_ishl C dX10_areUnlike_62 ?_
        refine q_ior C dX10_areUnlike_63 ?_
        refine q_istore_n (lo1 := [some (.ref a0), some (.int x1), some (.int x2), some (.int (x3 ||| ((1 : Int32) <<< ((I (P a0 0) (Int32.toNatClampNeg (x2 + x4))) &&& 31)))), some (.int x4), some (.int (I (P a0 0) (Int32.toNatClampNeg (x2 + x4))))]) C dX10_areUnlike_64 (by decide) rfl ?_
        refine q_iinc (w := 1) (lo1 := [some (.ref a0), some (.int x1), some (.int x2), some (.int (x3 ||| ((1 : Int32) <<< ((I (P a0 0) (Int32.toNatClampNeg (x2 + x4))) &&& 31)))), some (.int (x4 + 1)), some (.int (I (P a0 0) (Int32.toNatClampNeg (x2 + x4))))]) C dX10_areUnlike_65 rfl (by decide) (by decide) rfl ?_
        refine q_goto (tgt := 5) C dX10_areUnlike_68 (by decide) ?_
        refine q_kill 5 (lo1 := [some (.ref a0), some (.int x1), some (.int x2), some (.int (x3 ||| ((1 : Int32) <<< ((I (P a0 0) (Int32.toNatClampNeg (x2 + x4))) &&& 31)))), some (.int (x4 + 1)), none]) rfl ?_
        exact hT1 _ _ _ _ _ h
      · replace h := h.2 c7
        refine q_iload_n C dX10_areUnlike_46 rfl ?_
        refine q_iload C dX10_areUnlike_47 rfl ?_
        refine q_ishr C dX10_areUnlike_49 ?_
        refine q_iconst (v := 1) C dX10_areUnlike_50 (by decide) ?_
        refine q_iand C dX10_areUnlike_51 ?_
        refine q_iconst (v := 1) C dX10_areUnlike_52 (by decide) ?_
        refine q_icmp_ne (tgt := 58) C dX10_areUnlike_53 (by decide) (fun c8 => ?_) (fun c8 => ?_)
        · replace h := h.1 c8
          refine q_iload_n C dX10_areUnlike_58 rfl ?_
          refine q_iconst (v := 1) C dX10_areUnlike_59 (by decide) ?_
          refine q_iload C dX10_areUnlike_60 rfl ?_
          refine q_ishl C dX10_areUnlike_62 ?_
          refine q_ior C dX10_areUnlike_63 ?_
          refine q_istore_n (lo1 := [some (.ref a0), some (.int x1), some (.int x2), some (.int (x3 ||| ((1 : Int32) <<< ((I (P a0 0) (Int32.toNatClampNeg (x2 + x4))) &&& 31)))), some (.int x4), some (.int (I (P a0 0) (Int32.toNatClampNeg (x2 + x4))))]) C dX10_areUnlike_64 (by decide) rfl ?_
          refine q_iinc (w := 1) (lo1 := [some (.ref a0), some (.int x1), some (.int x2), some (.int (x3 ||| ((1 : Int32) <<< ((I (P a0 0) (Int32.toNatClampNeg (x2 + x4))) &&& 31)))), some (.int (x4 + 1)), some (.int (I (P a0 0) (Int32.toNatClampNeg (x2 + x4))))]) C dX10_areUnlike_65 rfl (by decide) (by decide) rfl ?_
          refine q_goto (tgt := 5) C dX10_areUnlike_68 (by decide) ?_
          refine q_kill 5 (lo1 := [some (.ref a0), some (.int x1), some (.int x2), some (.int (x3 ||| ((1 : Int32) <<< ((I (P a0 0) (Int32.toNatClampNeg (x2 + x4))) &&& 31)))), some (.int (x4 + 1)), none]) rfl ?_
          exact hT1 _ _ _ _ _ h
        · replace h := h.2 c8
          refine q_iconst (v := 0) C dX10_areUnlike_56 (by decide) ?_
          exact q_zret C hk (Or.inl rfl) dX10_areUnlike_57 ⟨rfl, h⟩
theorem sp_X10_areUnlike {d : Nat} {sh : List qSh} {K : Option Value → qMI → qML → qMP → Prop} {a0 : Nat} {x1 : Int32} {x2 : Int32} {I : qMI} {L : qML} {P : qMP} (T1 : Int32 → Int32 → qMI → qML → qMP → Prop) (m1 : Int32 → Int32 → qMI → qML → qMP → Nat) (h0 : vc_X10_areUnlike_0 d sh K T1 a0 x1 x2 I L P)
    (h1 : ∀ (x3 : Int32) (x4 : Int32) (I : qMI) (L : qML) (P : qMP), T1 x3 x4 I L P → vc_X10_areUnlike_1 d sh K (fun w0 w1 I' L' P' => T1 w0 w1 I' L' P' ∧ m1 w0 w1 I' L' P' < m1 x3 x4 I L P) a0 x1 x2 x3 x4 I L P) : Sq (d + 1) mX10_areUnlike sh [.ref a0, .int x1, .int x2] I L P K := by
  refine Sq_of (by decide +kernel) (Nat.le_of_ble_eq_true rfl) (fun X C hk hn => ?_)
  have go : ∀ N : Nat, (∀ (x3 : Int32) (x4 : Int32) (I : qMI) (L : qML) (P : qMP), T1 x3 x4 I L P → m1 x3 x4 I L P < N → qG X 5 [some (.ref a0), some (.int x1), some (.int x2), some (.int x3), some (.int x4), none] [] sh I L P 0 0) := by
    intro N
    induction N with
    | zero => exact fun _ _ _ _ _ _ q => absurd q (Nat.not_lt_zero _)
    | succ N ih =>
      exact fun b0 b1 I1 L1 P1 t q => rg_X10_areUnlike_1 C hk (fun z0 z1 I2 L2 P2 z => ih z0 z1 I2 L2 P2 z.1 (Nat.lt_of_lt_of_le z.2 (Nat.le_of_lt_succ q))) (h1 b0 b1 I1 L1 P1 t)
  exact rg_X10_areUnlike_0 C hk (fun b0 b1 I1 L1 P1 t => (go (m1 b0 b1 I1 L1 P1 + 1)) b0 b1 I1 L1 P1 t (Nat.lt_succ_self _)) h0
/-! BracketDrawsModel.prepares()V -/
def vc_X10_prepares_0 (d : Nat) (sh : List qSh) (K : Option Value → qMI → qML → qMP → Prop) (T1 : Int32 → qMI → qML → qMP → Prop) (T2 : Int32 → qMI → qML → qMP → Prop) (a0 : Nat) (I : qMI) (L : qML) (P : qMP) : Prop :=
  ((shp sh a0).1 = 10) ∧ (∀ I2 : qMI, I2 = uI I a0 22 0 → (T1 0 I2 L P))
set_option maxRecDepth 100000 in
set_option maxHeartbeats 4000000 in
theorem rg_X10_prepares_0 {X : qCT} {d : Nat} {sh : List qSh} {K : Option Value → qMI → qML → qMP → Prop} {T1 : Int32 → qMI → qML → qMP → Prop} {T2 : Int32 → qMI → qML → qMP → Prop} {a0 : Nat} {I : qMI} {L : qML} {P : qMP} (C : qCB X RX10 cX10_prepares 2 (d + 1) 0 0) (hk : qCK X (none) 0 0 (fun v sh' I' L' P' => sh' = sh ∧ K v I' L' P')) (hT1 : ∀ (x1 : Int32) (I : qMI) (L : qML) (P : qMP), T1 x1 I L P → qG X 7 [some (.ref a0), some (.int x1)] [] sh I L P 0 0) (hT2 : ∀ (x1 : Int32) (I : qMI) (L : qML) (P : qMP), T2 x1 I L P → qG X 82 [some (.ref a0), some (.int x1)] [] sh I L P 0 0) (h : vc_X10_prepares_0 d sh K T1 T2 a0 I L P) : qG X 0 [some (.ref a0), none] [] sh I L P 0 0 := by
  unfold vc_X10_prepares_0 at h
  refine q_aload_n C dX10_prepares_0 rfl ?_
  refine q_iconst (v := 0) C dX10_prepares_1 (by decide) ?_
  have s1 := h.1
  replace h := h.2
  refine q_putI C fl_RX10_171 (fun T hT => by cases hT; rfl) rfl s1 dX10_prepares_2 (fun I2 eI2 => ?_)
  replace h := h I2 eI2
  refine q_iconst (v := 0) C dX10_prepares_5 (by decide) ?_
  refine q_istore_n (lo1 := [some (.ref a0), some (.int 0)]) C dX10_prepares_6 (by decide) rfl ?_
  exact hT1 _ _ _ _ h
def vc_X10_prepares_1 (d : Nat) (sh : List qSh) (K : Option Value → qMI → qML → qMP → Prop) (T1 : Int32 → qMI → qML → qMP → Prop) (T2 : Int32 → qMI → qML → qMP → Prop) (a0 : Nat) (x1 : Int32) (I : qMI) (L : qML) (P : qMP) : Prop :=
  ((shp sh a0).1 = 10) ∧ (((shp sh (P a0 0)).1 = 20) ∧ ((vp_in 0 (shp sh (P a0 0)).2) ∧ ((((I (P a0 0) (Int32.toNatClampNeg 0)) ≤ x1) → (T2 0 I L P)) ∧ ((¬ (I (P a0 0) (Int32.toNatClampNeg 0)) ≤ x1) → ((vp_in (25 + x1) (shp sh (P a0 0)).2) ∧ (Sq d mX10_seedSlot sh [.ref a0, .int (I (P a0 0) (Int32.toNatClampNeg (25 + x1)))] I L P (KI fun r6 I7 L8 P9 => ((shp sh (P a0 21)).1 = 20) ∧ ((vp_in x1 (shp sh (P a0 21)).2) ∧ (∀ I12 : qMI, I12 = uI I7 (P a0 21) (Int32.toNatClampNeg x1) r6 → (((shp sh (P9 a0 0)).1 = 20) ∧ ((vp_in (25 + x1) (shp sh (P9 a0 0)).2) ∧ (Sq d mX10_byes sh [.ref a0] I12 L8 P9 (KI fun r15 I16 L17 P18 => Sq d mX10_in sh [.long (Int32.toInt64 (I12 (P9 a0 0) (Int32.toNatClampNeg (25 + x1)))), .long 1, .long (Int32.toInt64 r15)] I16 L17 P18 (KI fun r19 I20 L21 P22 => ((r19 = 0) → (∀ I24 : qMI, I24 = uI I20 a0 22 ((I12 a0 22) ||| 0) → (T1 (x1 + 1) I24 L21 P22))) ∧ ((¬ r19 = 0) → (∀ I25 : qMI, I25 = uI I20 a0 22 ((I12 a0 22) ||| ((1 : Int32) <<< (x1 &&& 31))) → (T1 (x1 + 1) I25 L21 P22)))))))))))))))))
set_option maxRecDepth 100000 in
set_option maxHeartbeats 4000000 in
theorem rg_X10_prepares_1 {X : qCT} {d : Nat} {sh : List qSh} {K : Option Value → qMI → qML → qMP → Prop} {T1 : Int32 → qMI → qML → qMP → Prop} {T2 : Int32 → qMI → qML → qMP → Prop} {a0 : Nat} {x1 : Int32} {I : qMI} {L : qML} {P : qMP} (C : qCB X RX10 cX10_prepares 2 (d + 1) 0 0) (hk : qCK X (none) 0 0 (fun v sh' I' L' P' => sh' = sh ∧ K v I' L' P')) (hT1 : ∀ (x1 : Int32) (I : qMI) (L : qML) (P : qMP), T1 x1 I L P → qG X 7 [some (.ref a0), some (.int x1)] [] sh I L P 0 0) (hT2 : ∀ (x1 : Int32) (I : qMI) (L : qML) (P : qMP), T2 x1 I L P → qG X 82 [some (.ref a0), some (.int x1)] [] sh I L P 0 0) (h : vc_X10_prepares_1 d sh K T1 T2 a0 x1 I L P) : qG X 7 [some (.ref a0), some (.int x1)] [] sh I L P 0 0 := by
  unfold vc_X10_prepares_1 at h
  refine q_iload_n C dX10_prepares_7 rfl ?_
  refine q_aload_n C dX10_prepares_8 rfl ?_
  have s1 := h.1
  replace h := h.2
  refine q_getP C fl_RX10_9 rfl s1 dX10_prepares_9 ?_
  refine q_iconst (v := 0) C dX10_prepares_12 (by decide) ?_
  have s2 := h.1
  replace h := h.2
  have s3 := h.1
  replace h := h.2
  refine q_iald C s2 s3 dX10_prepares_13 ?_
  refine q_icmp_ge (tgt := 80) C dX10_prepares_14 (by decide) (fun c4 => ?_) (fun c4 => ?_)
  · replace h := h.1 c4
    refine q_iconst (v := 0) C dX10_prepares_80 (by decide) ?_
    refine q_istore_n (lo1 := [some (.ref a0), some (.int 0)]) C dX10_prepares_81 (by decide) rfl ?_
    exact hT2 _ _ _ _ h
  · replace h := h.2 c4
    refine q_aload_n C dX10_prepares_17 rfl ?_
    refine q_getP C fl_RX10_54 rfl s1 dX10_prepares_18 ?_
    refine q_iload_n C dX10_prepares_21 rfl ?_
    refine q_aload_n C dX10_prepares_22 rfl ?_
    refine q_aload_n C dX10_prepares_23 rfl ?_
    refine q_getP C fl_RX10_9 rfl s1 dX10_prepares_24 ?_
    refine q_bipush (v := 25) C dX10_prepares_27 (by decide) ?_
    refine q_iload_n C dX10_prepares_29 rfl ?_
    refine q_iadd C dX10_prepares_30 ?_
    have s5 := h.1
    replace h := h.2
    refine q_iald C s2 s5 dX10_prepares_31 ?_
    refine q_cVi (as := [.int (I (P a0 0) (Int32.toNatClampNeg (25 + x1)))]) (st := [.int x1, .ref (P a0 21)]) (r := a0) C mv_X10_seedSlot ml_RX10_130 dX10_prepares_32 rfl s1 rfl (Nat.le_of_ble_eq_true rfl) ⟨Nat.le_refl _, Nat.le_refl _⟩ h (fun r6 I7 L8 P9 h => ?_)
    have s10 := h.1
    replace h := h.2
    have s11 := h.1
    replace h := h.2
    refine q_iast C s10 s11 dX10_prepares_35 (fun I12 eI12 => ?_)
    replace h := h I12 eI12
    refine q_aload_n C dX10_prepares_36 rfl ?_
    refine q_dup C dX10_prepares_37 rfl ?_
    refine q_getI C fl_RX10_171 rfl s1 dX10_prepares_38 ?_
    refine q_aload_n C dX10_prepares_41 rfl ?_
    refine q_getP C fl_RX10_9 rfl s1 dX10_prepares_42 ?_
    refine q_bipush (v := 25) C dX10_prepares_45 (by decide) ?_
    refine q_iload_n C dX10_prepares_47 rfl ?_
    refine q_iadd C dX10_prepares_48 ?_
    have s13 := h.1
    replace h := h.2
    have s14 := h.1
    replace h := h.2
    refine q_iald C s13 s14 dX10_prepares_49 ?_
    refine q_i2l C dX10_prepares_50 ?_
    refine q_lconst (v := 1) C dX10_prepares_51 (by decide) ?_
    refine q_aload_n C dX10_prepares_52 rfl ?_
    refine q_cVi (as := []) (st := [.long 1, .long (Int32.toInt64 (I12 (P9 a0 0) (Int32.toNatClampNeg (25 + x1)))), .int (I12 a0 22), .ref a0]) (r := a0) C mv_X10_byes ml_RX10_174 dX10_prepares_53 rfl s1 rfl (Nat.le_of_ble_eq_true rfl) ⟨Nat.le_refl _, Nat.le_refl _⟩ h (fun r15 I16 L17 P18 h => ?_)
    refine q_i2l C dX10_prepares_56 ?_
    refine q_cSi (as := [.long (Int32.toInt64 (I12 (P9 a0 0) (Int32.toNatClampNeg (25 + x1)))), .long 1, .long (Int32.toInt64 r15)]) (st := [.int (I12 a0 22), .ref a0]) C ms_X10_in ml_RX10_63 dX10_prepares_57 rfl rfl (Nat.le_of_ble_eq_true rfl) ⟨Nat.le_refl _, Nat.le_refl _⟩ h (fun r19 I20 L21 P22 h => ?_)
    refine q_if_eq (tgt := 69) C dX10_prepares_60 (by decide) (fun c23 => ?_) (fun c23 => ?_)
    · replace h := h.1 c23
      refine q_iconst (v := 0) C dX10_prepares_69 (by decide) ?_
      refine q_ior C dX10_prepares_70 ?_
      refine q_putI C fl_RX10_171 (fun T hT => by cases hT; rfl) rfl s1 dX10_prepares_71 (fun I24 eI24 => ?_)
      replace h := h I24 eI24
      refine q_iinc (w := 1) (lo1 := [some (.ref a0), some (.int (x1 + 1))]) C dX10_prepares_74 rfl (by decide) (by decide) rfl ?_
      refine q_goto (tgt := 7) C dX10_prepares_77 (by decide) ?_
      exact hT1 _ _ _ _ h
    · replace h := h.2 c23
      refine q_iconst (v := 1) C dX10_prepares_63 (by decide) ?_
      refine q_iload_n C dX10_prepares_64 rfl ?_
      refine q_ishl C dX10_prepares_65 ?_
      refine q_goto (tgt := 70) C dX10_prepares_66 (by decide) ?_
      refine q_ior C dX10_prepares_70 ?_
      refine q_putI C fl_RX10_171 (fun T hT => by cases hT; rfl) rfl s1 dX10_prepares_71 (fun I25 eI25 => ?_)
      replace h := h I25 eI25
      refine q_iinc (w := 1) (lo1 := [some (.ref a0), some (.int (x1 + 1))]) C dX10_prepares_74 rfl (by decide) (by decide) rfl ?_
      refine q_goto (tgt := 7) C dX10_prepares_77 (by decide) ?_
      exact hT1 _ _ _ _ h
def vc_X10_prepares_2 (d : Nat) (sh : List qSh) (K : Option Value → qMI → qML → qMP → Prop) (T1 : Int32 → qMI → qML → qMP → Prop) (T2 : Int32 → qMI → qML → qMP → Prop) (a0 : Nat) (x1 : Int32) (I : qMI) (L : qML) (P : qMP) : Prop :=
  ((shp sh a0).1 = 10) ∧ (((shp sh (P a0 0)).1 = 20) ∧ ((vp_in 0 (shp sh (P a0 0)).2) ∧ (((((1 : Int32) <<< ((I (P a0 0) (Int32.toNatClampNeg 0)) &&& 31)) ≤ x1) → (K none I L P)) ∧ ((¬ ((1 : Int32) <<< ((I (P a0 0) (Int32.toNatClampNeg 0)) &&& 31)) ≤ x1) → (((¬ x1 = 0) → (((shp sh (P a0 20)).1 = 20) ∧ ((vp_in (x1 >>> (1 &&& 31)) (shp sh (P a0 20)).2) ∧ ((vp_in x1 (shp sh (P a0 20)).2) ∧ (∀ I9 : qMI, I9 = uI I (P a0 20) (Int32.toNatClampNeg x1) ((I (P a0 20) (Int32.toNatClampNeg (x1 >>> (1 &&& 31)))) + (x1 &&& 1)) → (Sq d mX10_areUnlike sh [.ref a0, .int x1, .int 5] I9 L P (KI fun r10 I11 L12 P13 => ((shp sh (P a0 18)).1 = 22) ∧ ((vp_in x1 (shp sh (P a0 18)).2) ∧ (∀ I16 : qMI, I16 = uI I11 (P a0 18) (Int32.toNatClampNeg x1) (vp_nar .boolean r10) → (Sq d mX10_areUnlike sh [.ref a0, .int x1, .int 15] I16 L12 P13 (KI fun r17 I18 L19 P20 => ((shp sh (P13 a0 19)).1 = 22) ∧ ((vp_in x1 (shp sh (P13 a0 19)).2) ∧ (∀ I23 : qMI, I23 = uI I18 (P13 a0 19) (Int32.toNatClampNeg x1) (vp_nar .boolean r17) → (T2 (x1 + 1) I23 L19 P20)))))))))))))) ∧ ((x1 = 0) → (((shp sh (P a0 20)).1 = 20) ∧ ((vp_in x1 (shp sh (P a0 20)).2) ∧ (∀ I26 : qMI, I26 = uI I (P a0 20) (Int32.toNatClampNeg x1) 0 → (Sq d mX10_areUnlike sh [.ref a0, .int x1, .int 5] I26 L P (KI fun r27 I28 L29 P30 => ((shp sh (P a0 18)).1 = 22) ∧ ((vp_in x1 (shp sh (P a0 18)).2) ∧ (∀ I33 : qMI, I33 = uI I28 (P a0 18) (Int32.toNatClampNeg x1) (vp_nar .boolean r27) → (Sq d mX10_areUnlike sh [.ref a0, .int x1, .int 15] I33 L29 P30 (KI fun r34 I35 L36 P37 => ((shp sh (P30 a0 19)).1 = 22) ∧ ((vp_in x1 (shp sh (P30 a0 19)).2) ∧ (∀ I40 : qMI, I40 = uI I35 (P30 a0 19) (Int32.toNatClampNeg x1) (vp_nar .boolean r34) → (T2 (x1 + 1) I40 L36 P37))))))))))))))))))
set_option maxRecDepth 100000 in
set_option maxHeartbeats 4000000 in
theorem rg_X10_prepares_2 {X : qCT} {d : Nat} {sh : List qSh} {K : Option Value → qMI → qML → qMP → Prop} {T1 : Int32 → qMI → qML → qMP → Prop} {T2 : Int32 → qMI → qML → qMP → Prop} {a0 : Nat} {x1 : Int32} {I : qMI} {L : qML} {P : qMP} (C : qCB X RX10 cX10_prepares 2 (d + 1) 0 0) (hk : qCK X (none) 0 0 (fun v sh' I' L' P' => sh' = sh ∧ K v I' L' P')) (hT1 : ∀ (x1 : Int32) (I : qMI) (L : qML) (P : qMP), T1 x1 I L P → qG X 7 [some (.ref a0), some (.int x1)] [] sh I L P 0 0) (hT2 : ∀ (x1 : Int32) (I : qMI) (L : qML) (P : qMP), T2 x1 I L P → qG X 82 [some (.ref a0), some (.int x1)] [] sh I L P 0 0) (h : vc_X10_prepares_2 d sh K T1 T2 a0 x1 I L P) : qG X 82 [some (.ref a0), some (.int x1)] [] sh I L P 0 0 := by
  unfold vc_X10_prepares_2 at h
  refine q_iload_n C dX10_prepares_82 rfl ?_
  refine q_iconst (v := 1) C dX10_prepares_83 (by decide) ?_
  refine q_aload_n C dX10_prepares_84 rfl ?_
  have s1 := h.1
  replace h := h.2
  refine q_getP C fl_RX10_9 rfl s1 dX10_prepares_85 ?_
  refine q_iconst (v := 0) C dX10_prepares_88 (by decide) ?_
  have s2 := h.1
  replace h := h.2
  have s3 := h.1
  replace h := h.2
  refine q_iald C s2 s3 dX10_prepares_89 ?_
  refine q_ishl C dX10_prepares_90 ?_
  refine q_icmp_ge (tgt := 151) C dX10_prepares_91 (by decide) (fun c4 => ?_) (fun c4 => ?_)
  · replace h := h.1 c4
    exact q_vret C hk dX10_prepares_151 ⟨rfl, h⟩
  · replace h := h.2 c4
    refine q_aload_n C dX10_prepares_94 rfl ?_
    refine q_getP C fl_RX10_51 rfl s1 dX10_prepares_95 ?_
    refine q_iload_n C dX10_prepares_98 rfl ?_
    refine q_iload_n C dX10_prepares_99 rfl ?_
    refine q_if_ne (tgt := 107) C dX10_prepares_100 (by decide) (fun c5 => ?_) (fun c5 => ?_)
    · replace h := h.1 c5
      refine q_aload_n C dX10_prepares_107 rfl ?_
      refine q_getP C fl_RX10_51 rfl s1 dX10_prepares_108 ?_
      refine q_iload_n C dX10_prepares_111 rfl ?_
      refine q_iconst (v := 1) C dX10_prepares_112 (by decide) ?_
      refine q_ishr C dX10_prepares_113 ?_
      have s6 := h.1
      replace h := h.2
      have s7 := h.1
      replace h := h.2
      refine q_iald C s6 s7 dX10_prepares_114 ?_
      refine q_iload_n C dX10_prepares_115 rfl ?_
      refine q_iconst (v := 1) C dX10_prepares_116 (by decide) ?_
      refine q_iand C dX10_prepares_117 ?_
      refine q_iadd C dX10_prepares_118 ?_
      have s8 := h.1
      replace h := h.2
      refine q_iast C s6 s8 dX10_prepares_119 (fun I9 eI9 => ?_)
      replace h := h I9 eI9
      refine q_aload_n C dX10_prepares_120 rfl ?_
      refine q_getP C fl_RX10_44 rfl s1 dX10_prepares_121 ?_
      refine q_iload_n C dX10_prepares_124 rfl ?_
      refine q_aload_n C dX10_prepares_125 rfl ?_
      refine q_iload_n C dX10_prepares_126 rfl ?_
      refine q_iconst (v := 5) C dX10_prepares_127 (by decide) ?_
      refine q_cVi (as := [.int x1, .int 5]) (st := [.int x1, .ref (P a0 18)]) (r := a0) C mv_X10_areUnlike ml_RX10_177 dX10_prepares_128 rfl s1 rfl (Nat.le_of_ble_eq_true rfl) ⟨Nat.le_refl _, Nat.le_refl _⟩ h (fun r10 I11 L12 P13 h => ?_)
      have s14 := h.1
      replace h := h.2
      have s15 := h.1
      replace h := h.2
      refine q_zast C s14 s15 dX10_prepares_131 (fun I16 eI16 => ?_)
      replace h := h I16 eI16
      refine q_aload_n C dX10_prepares_132 rfl ?_
      refine q_getP C fl_RX10_48 rfl s1 dX10_prepares_133 ?_
      refine q_iload_n C dX10_prepares_136 rfl ?_
      refine q_aload_n C dX10_prepares_137 rfl ?_
      refine q_iload_n C dX10_prepares_138 rfl ?_
      refine q_bipush (v := 15) C dX10_prepares_139 (by decide) ?_
      refine q_cVi (as := [.int x1, .int 15]) (st := [.int x1, .ref (P13 a0 19)]) (r := a0) C mv_X10_areUnlike ml_RX10_177 dX10_prepares_141 rfl s1 rfl (Nat.le_of_ble_eq_true rfl) ⟨Nat.le_refl _, Nat.le_refl _⟩ h (fun r17 I18 L19 P20 h => ?_)
      have s21 := h.1
      replace h := h.2
      have s22 := h.1
      replace h := h.2
      refine q_zast C s21 s22 dX10_prepares_144 (fun I23 eI23 => ?_)
      replace h := h I23 eI23
      refine q_iinc (w := 1) (lo1 := [some (.ref a0), some (.int (x1 + 1))]) C dX10_prepares_145 rfl (by decide) (by decide) rfl ?_
      refine q_goto (tgt := 82) C dX10_prepares_148 (by decide) ?_
      exact hT2 _ _ _ _ h
    · replace h := h.2 c5
      refine q_iconst (v := 0) C dX10_prepares_103 (by decide) ?_
      refine q_goto (tgt := 119) C dX10_prepares_104 (by decide) ?_
      have s24 := h.1
      replace h := h.2
      have s25 := h.1
      replace h := h.2
      refine q_iast C s24 s25 dX10_prepares_119 (fun I26 eI26 => ?_)
      replace h := h I26 eI26
      refine q_aload_n C dX10_prepares_120 rfl ?_
      refine q_getP C fl_RX10_44 rfl s1 dX10_prepares_121 ?_
      refine q_iload_n C dX10_prepares_124 rfl ?_
      refine q_aload_n C dX10_prepares_125 rfl ?_
      refine q_iload_n C dX10_prepares_126 rfl ?_
      refine q_iconst (v := 5) C dX10_prepares_127 (by decide) ?_
      refine q_cVi (as := [.int x1, .int 5]) (st := [.int x1, .ref (P a0 18)]) (r := a0) C mv_X10_areUnlike ml_RX10_177 dX10_prepares_128 rfl s1 rfl (Nat.le_of_ble_eq_true rfl) ⟨Nat.le_refl _, Nat.le_refl _⟩ h (fun r27 I28 L29 P30 h => ?_)
      have s31 := h.1
      replace h := h.2
      have s32 := h.1
      replace h := h.2
      refine q_zast C s31 s32 dX10_prepares_131 (fun I33 eI33 => ?_)
      replace h := h I33 eI33
      refine q_aload_n C dX10_prepares_132 rfl ?_
      refine q_getP C fl_RX10_48 rfl s1 dX10_prepares_133 ?_
      refine q_iload_n C dX10_prepares_136 rfl ?_
      refine q_aload_n C dX10_prepares_137 rfl ?_
      refine q_iload_n C dX10_prepares_138 rfl ?_
      refine q_bipush (v := 15) C dX10_prepares_139 (by decide) ?_
      refine q_cVi (as := [.int x1, .int 15]) (st := [.int x1, .ref (P30 a0 19)]) (r := a0) C mv_X10_areUnlike ml_RX10_177 dX10_prepares_141 rfl s1 rfl (Nat.le_of_ble_eq_true rfl) ⟨Nat.le_refl _, Nat.le_refl _⟩ h (fun r34 I35 L36 P37 h => ?_)
      have s38 := h.1
      replace h := h.2
      have s39 := h.1
      replace h := h.2
      refine q_zast C s38 s39 dX10_prepares_144 (fun I40 eI40 => ?_)
      replace h := h I40 eI40
      refine q_iinc (w := 1) (lo1 := [some (.ref a0), some (.int (x1 + 1))]) C dX10_prepares_145 rfl (by decide) (by decide) rfl ?_
      refine q_goto (tgt := 82) C dX10_prepares_148 (by decide) ?_
      exact hT2 _ _ _ _ h
theorem sp_X10_prepares {d : Nat} {sh : List qSh} {K : Option Value → qMI → qML → qMP → Prop} {a0 : Nat} {I : qMI} {L : qML} {P : qMP} (T1 : Int32 → qMI → qML → qMP → Prop) (m1 : Int32 → qMI → qML → qMP → Nat) (T2 : Int32 → qMI → qML → qMP → Prop) (m2 : Int32 → qMI → qML → qMP → Nat) (h0 : vc_X10_prepares_0 d sh K T1 T2 a0 I L P)
    (h1 : ∀ (x1 : Int32) (I : qMI) (L : qML) (P : qMP), T1 x1 I L P → vc_X10_prepares_1 d sh K (fun w0 I' L' P' => T1 w0 I' L' P' ∧ m1 w0 I' L' P' < m1 x1 I L P) (fun w0 I' L' P' => T2 w0 I' L' P' ∧ m2 w0 I' L' P' < m1 x1 I L P) a0 x1 I L P)
    (h2 : ∀ (x1 : Int32) (I : qMI) (L : qML) (P : qMP), T2 x1 I L P → vc_X10_prepares_2 d sh K (fun w0 I' L' P' => T1 w0 I' L' P' ∧ m1 w0 I' L' P' < m2 x1 I L P) (fun w0 I' L' P' => T2 w0 I' L' P' ∧ m2 w0 I' L' P' < m2 x1 I L P) a0 x1 I L P) : Sq (d + 1) mX10_prepares sh [.ref a0] I L P K := by
  refine Sq_of (by decide +kernel) (Nat.le_of_ble_eq_true rfl) (fun X C hk hn => ?_)
  have go : ∀ N : Nat, (∀ (x1 : Int32) (I : qMI) (L : qML) (P : qMP), T1 x1 I L P → m1 x1 I L P < N → qG X 7 [some (.ref a0), some (.int x1)] [] sh I L P 0 0) ∧ (∀ (x1 : Int32) (I : qMI) (L : qML) (P : qMP), T2 x1 I L P → m2 x1 I L P < N → qG X 82 [some (.ref a0), some (.int x1)] [] sh I L P 0 0) := by
    intro N
    induction N with
    | zero => exact ⟨fun _ _ _ _ _ q => absurd q (Nat.not_lt_zero _), fun _ _ _ _ _ q => absurd q (Nat.not_lt_zero _)⟩
    | succ N ih =>
      exact ⟨fun b0 I1 L1 P1 t q => rg_X10_prepares_1 C hk (fun z0 I2 L2 P2 z => ih.1 z0 I2 L2 P2 z.1 (Nat.lt_of_lt_of_le z.2 (Nat.le_of_lt_succ q))) (fun z0 I2 L2 P2 z => ih.2 z0 I2 L2 P2 z.1 (Nat.lt_of_lt_of_le z.2 (Nat.le_of_lt_succ q))) (h1 b0 I1 L1 P1 t), fun b0 I1 L1 P1 t q => rg_X10_prepares_2 C hk (fun z0 I2 L2 P2 z => ih.1 z0 I2 L2 P2 z.1 (Nat.lt_of_lt_of_le z.2 (Nat.le_of_lt_succ q))) (fun z0 I2 L2 P2 z => ih.2 z0 I2 L2 P2 z.1 (Nat.lt_of_lt_of_le z.2 (Nat.le_of_lt_succ q))) (h2 b0 I1 L1 P1 t)⟩
  exact rg_X10_prepares_0 C hk (fun b0 I1 L1 P1 t => (go (m1 b0 I1 L1 P1 + 1)).1 b0 I1 L1 P1 t (Nat.lt_succ_self _)) (fun b0 I1 L1 P1 t => (go (m2 b0 I1 L1 P1 + 1)).2 b0 I1 L1 P1 t (Nat.lt_succ_self _)) h0
/-! BracketDrawsModel.isSeated(III)Z -/
def vc_X10_isSeated_0 (d : Nat) (sh : List qSh) (K : Option Value → qMI → qML → qMP → Prop) (T1 : Int32 → Int32 → qMI → qML → qMP → Prop) (a0 : Nat) (x1 : Int32) (x2 : Int32) (x3 : Int32) (I : qMI) (L : qML) (P : qMP) : Prop :=
  T1 1 0 I L P
set_option maxRecDepth 100000 in
set_option maxHeartbeats 4000000 in
theorem rg_X10_isSeated_0 {X : qCT} {d : Nat} {sh : List qSh} {K : Option Value → qMI → qML → qMP → Prop} {T1 : Int32 → Int32 → qMI → qML → qMP → Prop} {a0 : Nat} {x1 : Int32} {x2 : Int32} {x3 : Int32} {I : qMI} {L : qML} {P : qMP} (C : qCB X RX10 cX10_isSeated 6 (d + 1) 0 0) (hk : qCK X (some .boolean) 0 0 (fun v sh' I' L' P' => sh' = sh ∧ K v I' L' P')) (hT1 : ∀ (x4 : Int32) (x5 : Int32) (I : qMI) (L : qML) (P : qMP), T1 x4 x5 I L P → qG X 6 [some (.ref a0), some (.int x1), some (.int x2), some (.int x3), some (.int x4), some (.int x5)] [] sh I L P 0 0) (h : vc_X10_isSeated_0 d sh K T1 a0 x1 x2 x3 I L P) : qG X 0 [some (.ref a0), some (.int x1), some (.int x2), some (.int x3), none, none] [] sh I L P 0 0 := by
  unfold vc_X10_isSeated_0 at h
  refine q_iconst (v := 1) C dX10_isSeated_0 (by decide) ?_
  refine q_istore (lo1 := [some (.ref a0), some (.int x1), some (.int x2), some (.int x3), some (.int 1), none]) C dX10_isSeated_1 (by decide) rfl ?_
  refine q_iconst (v := 0) C dX10_isSeated_3 (by decide) ?_
  refine q_istore (lo1 := [some (.ref a0), some (.int x1), some (.int x2), some (.int x3), some (.int 1), some (.int 0)]) C dX10_isSeated_4 (by decide) rfl ?_
  exact hT1 _ _ _ _ _ h
def vc_X10_isSeated_1 (d : Nat) (sh : List qSh) (K : Option Value → qMI → qML → qMP → Prop) (T1 : Int32 → Int32 → qMI → qML → qMP → Prop) (a0 : Nat) (x1 : Int32) (x2 : Int32) (x3 : Int32) (x4 : Int32) (x5 : Int32) (I : qMI) (L : qML) (P : qMP) : Prop :=
  ((shp sh a0).1 = 10) ∧ (((shp sh (P a0 0)).1 = 20) ∧ ((vp_in 0 (shp sh (P a0 0)).2) ∧ ((((I (P a0 0) (Int32.toNatClampNeg 0)) ≤ x5) → ((x4 = 0 ∨ x4 = 1) ∧ (K (some (.int x4)) I L P))) ∧ ((¬ (I (P a0 0) (Int32.toNatClampNeg 0)) ≤ x5) → (((x4 = 0) → (T1 0 (x5 + 1) I L P)) ∧ ((¬ x4 = 0) → (((shp sh (P a0 21)).1 = 20) ∧ ((vp_in x5 (shp sh (P a0 21)).2) ∧ ((((I (P a0 21) (Int32.toNatClampNeg x5)) < 0) → (T1 1 (x5 + 1) I L P)) ∧ ((¬ (I (P a0 21) (Int32.toNatClampNeg x5)) < 0) → (((¬ ((I (P a0 21) (Int32.toNatClampNeg x5)) >>> (x1 &&& 31)) = x2) → (((¬ ((x3 >>> (x5 &&& 31)) &&& 1) = 1) → (T1 1 (x5 + 1) I L P)) ∧ ((((x3 >>> (x5 &&& 31)) &&& 1) = 1) → (T1 0 (x5 + 1) I L P)))) ∧ ((((I (P a0 21) (Int32.toNatClampNeg x5)) >>> (x1 &&& 31)) = x2) → (((¬ ((x3 >>> (x5 &&& 31)) &&& 1) = 1) → (T1 0 (x5 + 1) I L P)) ∧ ((((x3 >>> (x5 &&& 31)) &&& 1) = 1) → (T1 1 (x5 + 1) I L P)))))))))))))))
set_option maxRecDepth 100000 in
set_option maxHeartbeats 4000000 in
theorem rg_X10_isSeated_1 {X : qCT} {d : Nat} {sh : List qSh} {K : Option Value → qMI → qML → qMP → Prop} {T1 : Int32 → Int32 → qMI → qML → qMP → Prop} {a0 : Nat} {x1 : Int32} {x2 : Int32} {x3 : Int32} {x4 : Int32} {x5 : Int32} {I : qMI} {L : qML} {P : qMP} (C : qCB X RX10 cX10_isSeated 6 (d + 1) 0 0) (hk : qCK X (some .boolean) 0 0 (fun v sh' I' L' P' => sh' = sh ∧ K v I' L' P')) (hT1 : ∀ (x4 : Int32) (x5 : Int32) (I : qMI) (L : qML) (P : qMP), T1 x4 x5 I L P → qG X 6 [some (.ref a0), some (.int x1), some (.int x2), some (.int x3), some (.int x4), some (.int x5)] [] sh I L P 0 0) (h : vc_X10_isSeated_1 d sh K T1 a0 x1 x2 x3 x4 x5 I L P) : qG X 6 [some (.ref a0), some (.int x1), some (.int x2), some (.int x3), some (.int x4), some (.int x5)] [] sh I L P 0 0 := by
  unfold vc_X10_isSeated_1 at h
  refine q_iload C dX10_isSeated_6 rfl ?_
  refine q_aload_n C dX10_isSeated_8 rfl ?_
  have s1 := h.1
  replace h := h.2
  refine q_getP C fl_RX10_9 rfl s1 dX10_isSeated_9 ?_
  refine q_iconst (v := 0) C dX10_isSeated_12 (by decide) ?_
  have s2 := h.1
  replace h := h.2
  have s3 := h.1
  replace h := h.2
  refine q_iald C s2 s3 dX10_isSeated_13 ?_
  refine q_icmp_ge (tgt := 81) C dX10_isSeated_14 (by decide) (fun c4 => ?_) (fun c4 => ?_)
  · replace h := h.1 c4
    refine q_iload C dX10_isSeated_81 rfl ?_
    have s5 := h.1
    replace h := h.2
    exact q_zret C hk s5 dX10_isSeated_83 ⟨rfl, h⟩
  · replace h := h.2 c4
    refine q_iload C dX10_isSeated_17 rfl ?_
    refine q_if_eq (tgt := 72) C dX10_isSeated_19 (by decide) (fun c6 => ?_) (fun c6 => ?_)
    · replace h := h.1 c6
      refine q_iconst (v := 0) C dX10_isSeated_72 (by decide) ?_
      refine q_istore (lo1 := [some (.ref a0), some (.int x1), some (.int x2), some (.int x3), some (.int 0), some (.int x5)]) C dX10_isSeated_73 (by decide) rfl ?_
      refine q_iinc (w := 1) (lo1 := [some (.ref a0), some (.int x1), some (.int x2), some (.int x3), some (.int 0), some (.int (x5 + 1))]) C dX10_isSeated_75 rfl (by decide) (by decide) rfl ?_
      refine q_goto (tgt := 6) C dX10_isSeated_78 (by decide) ?_
      exact hT1 _ _ _ _ _ h
    · replace h := h.2 c6
      refine q_aload_n C dX10_isSeated_22 rfl ?_
      refine q_getP C fl_RX10_54 rfl s1 dX10_isSeated_23 ?_
      refine q_iload C dX10_isSeated_26 rfl ?_
      have s7 := h.1
      replace h := h.2
      have s8 := h.1
      replace h := h.2
      refine q_iald C s7 s8 dX10_isSeated_28 ?_
      refine q_if_lt (tgt := 68) C dX10_isSeated_29 (by decide) (fun c9 => ?_) (fun c9 => ?_)
      · replace h := h.1 c9
        refine q_iconst (v := 1) C dX10_isSeated_68 (by decide) ?_
        refine q_goto (tgt := 73) C dX10_isSeated_69 (by decide) ?_
        refine q_istore (lo1 := [some (.ref a0), some (.int x1), some (.int x2), some (.int x3), some (.int 1), some (.int x5)]) C dX10_isSeated_73 (by decide) rfl ?_
        refine q_iinc (w := 1) (lo1 := [some (.ref a0), some (.int x1), some (.int x2), some (.int x3), some (.int 1), some (.int (x5 + 1))]) C dX10_isSeated_75 rfl (by decide) (by decide) rfl ?_
        refine q_goto (tgt := 6) C dX10_isSeated_78 (by decide) ?_
        exact hT1 _ _ _ _ _ h
      · replace h := h.2 c9
        refine q_aload_n C dX10_isSeated_32 rfl ?_
        refine q_getP C fl_RX10_54 rfl s1 dX10_isSeated_33 ?_
        refine q_iload C dX10_isSeated_36 rfl ?_
        refine q_iald C s7 s8 dX10_isSeated_38 ?_
        refine q_iload_n C dX10_isSeated_39 rfl ?_
        refine q_ishr C dX10_isSeated_40 ?_
        refine q_iload_n C dX10_isSeated_41 rfl ?_
        refine q_icmp_ne (tgt := 49) C dX10_isSeated_42 (by decide) (fun c10 => ?_) (fun c10 => ?_)
        · replace h := h.1 c10
          refine q_iconst (v := 0) C dX10_isSeated_49 (by decide) ?_
          refine q_iload_n C dX10_isSeated_50 rfl ?_
          refine q_iload C dX10_isSeated_51 rfl ?_
          refine q_ishr C dX10_isSeated_53 ?_
          refine q_iconst (v := 1) C dX10_isSeated_54 (by decide) ?_
          refine q_iand C dX10_isSeated_55 ?_
          refine q_iconst (v := 1) C dX10_isSeated_56 (by decide) ?_
          refine q_icmp_ne (tgt := 64) C dX10_isSeated_57 (by decide) (fun c11 => ?_) (fun c11 => ?_)
          · replace h := h.1 c11
            refine q_iconst (v := 0) C dX10_isSeated_64 (by decide) ?_
            refine q_icmp_ne (tgt := 72) C dX10_isSeated_65 (by decide) (fun c => absurd c (by decide)) (fun _ => ?_)
            refine q_iconst (v := 1) C dX10_isSeated_68 (by decide) ?_
            refine q_goto (tgt := 73) C dX10_isSeated_69 (by decide) ?_
            refine q_istore (lo1 := [some (.ref a0), some (.int x1), some (.int x2), some (.int x3), some (.int 1), some (.int x5)]) C dX10_isSeated_73 (by decide) rfl ?_
            refine q_iinc (w := 1) (lo1 := [some (.ref a0), some (.int x1), some (.int x2), some (.int x3), some (.int 1), some (.int (x5 + 1))]) C dX10_isSeated_75 rfl (by decide) (by decide) rfl ?_
            refine q_goto (tgt := 6) C dX10_isSeated_78 (by decide) ?_
            exact hT1 _ _ _ _ _ h
          · replace h := h.2 c11
            refine q_iconst (v := 1) C dX10_isSeated_60 (by decide) ?_
            refine q_goto (tgt := 65) C dX10_isSeated_61 (by decide) ?_
            refine q_icmp_ne (tgt := 72) C dX10_isSeated_65 (by decide) (fun _ => ?_) (fun c => absurd c (by decide))
            refine q_iconst (v := 0) C dX10_isSeated_72 (by decide) ?_
            refine q_istore (lo1 := [some (.ref a0), some (.int x1), some (.int x2), some (.int x3), some (.int 0), some (.int x5)]) C dX10_isSeated_73 (by decide) rfl ?_
            refine q_iinc (w := 1) (lo1 := [some (.ref a0), some (.int x1), some (.int x2), some (.int x3), some (.int 0), some (.int (x5 + 1))]) C dX10_isSeated_75 rfl (by decide) (by decide) rfl ?_
            refine q_goto (tgt := 6) C dX10_isSeated_78 (by decide) ?_
            exact hT1 _ _ _ _ _ h
        · replace h := h.2 c10
          refine q_iconst (v := 1) C dX10_isSeated_45 (by decide) ?_
          refine q_goto (tgt := 50) C dX10_isSeated_46 (by decide) ?_
          refine q_iload_n C dX10_isSeated_50 rfl ?_
          refine q_iload C dX10_isSeated_51 rfl ?_
          refine q_ishr C dX10_isSeated_53 ?_
          refine q_iconst (v := 1) C dX10_isSeated_54 (by decide) ?_
          refine q_iand C dX10_isSeated_55 ?_
          refine q_iconst (v := 1) C dX10_isSeated_56 (by decide) ?_
          refine q_icmp_ne (tgt := 64) C dX10_isSeated_57 (by decide) (fun c12 => ?_) (fun c12 => ?_)
          · replace h := h.1 c12
            refine q_iconst (v := 0) C dX10_isSeated_64 (by decide) ?_
            refine q_icmp_ne (tgt := 72) C dX10_isSeated_65 (by decide) (fun _ => ?_) (fun c => absurd c (by decide))
            refine q_iconst (v := 0) C dX10_isSeated_72 (by decide) ?_
            refine q_istore (lo1 := [some (.ref a0), some (.int x1), some (.int x2), some (.int x3), some (.int 0), some (.int x5)]) C dX10_isSeated_73 (by decide) rfl ?_
            refine q_iinc (w := 1) (lo1 := [some (.ref a0), some (.int x1), some (.int x2), some (.int x3), some (.int 0), some (.int (x5 + 1))]) C dX10_isSeated_75 rfl (by decide) (by decide) rfl ?_
            refine q_goto (tgt := 6) C dX10_isSeated_78 (by decide) ?_
            exact hT1 _ _ _ _ _ h
          · replace h := h.2 c12
            refine q_iconst (v := 1) C dX10_isSeated_60 (by decide) ?_
            refine q_goto (tgt := 65) C dX10_isSeated_61 (by decide) ?_
            refine q_icmp_ne (tgt := 72) C dX10_isSeated_65 (by decide) (fun c => absurd c (by decide)) (fun _ => ?_)
            refine q_iconst (v := 1) C dX10_isSeated_68 (by decide) ?_
            refine q_goto (tgt := 73) C dX10_isSeated_69 (by decide) ?_
            refine q_istore (lo1 := [some (.ref a0), some (.int x1), some (.int x2), some (.int x3), some (.int 1), some (.int x5)]) C dX10_isSeated_73 (by decide) rfl ?_
            refine q_iinc (w := 1) (lo1 := [some (.ref a0), some (.int x1), some (.int x2), some (.int x3), some (.int 1), some (.int (x5 + 1))]) C dX10_isSeated_75 rfl (by decide) (by decide) rfl ?_
            refine q_goto (tgt := 6) C dX10_isSeated_78 (by decide) ?_
            exact hT1 _ _ _ _ _ h
theorem sp_X10_isSeated {d : Nat} {sh : List qSh} {K : Option Value → qMI → qML → qMP → Prop} {a0 : Nat} {x1 : Int32} {x2 : Int32} {x3 : Int32} {I : qMI} {L : qML} {P : qMP} (T1 : Int32 → Int32 → qMI → qML → qMP → Prop) (m1 : Int32 → Int32 → qMI → qML → qMP → Nat) (h0 : vc_X10_isSeated_0 d sh K T1 a0 x1 x2 x3 I L P)
    (h1 : ∀ (x4 : Int32) (x5 : Int32) (I : qMI) (L : qML) (P : qMP), T1 x4 x5 I L P → vc_X10_isSeated_1 d sh K (fun w0 w1 I' L' P' => T1 w0 w1 I' L' P' ∧ m1 w0 w1 I' L' P' < m1 x4 x5 I L P) a0 x1 x2 x3 x4 x5 I L P) : Sq (d + 1) mX10_isSeated sh [.ref a0, .int x1, .int x2, .int x3] I L P K := by
  refine Sq_of (by decide +kernel) (Nat.le_of_ble_eq_true rfl) (fun X C hk hn => ?_)
  have go : ∀ N : Nat, (∀ (x4 : Int32) (x5 : Int32) (I : qMI) (L : qML) (P : qMP), T1 x4 x5 I L P → m1 x4 x5 I L P < N → qG X 6 [some (.ref a0), some (.int x1), some (.int x2), some (.int x3), some (.int x4), some (.int x5)] [] sh I L P 0 0) := by
    intro N
    induction N with
    | zero => exact fun _ _ _ _ _ _ q => absurd q (Nat.not_lt_zero _)
    | succ N ih =>
      exact fun b0 b1 I1 L1 P1 t q => rg_X10_isSeated_1 C hk (fun z0 z1 I2 L2 P2 z => ih z0 z1 I2 L2 P2 z.1 (Nat.lt_of_lt_of_le z.2 (Nat.le_of_lt_succ q))) (h1 b0 b1 I1 L1 P1 t)
  exact rg_X10_isSeated_0 C hk (fun b0 b1 I1 L1 P1 t => (go (m1 b0 b1 I1 L1 P1 + 1)) b0 b1 I1 L1 P1 t (Nat.lt_succ_self _)) h0
/-! BracketDrawsModel.isAllowed(III)Z -/
def vc_X10_isAllowed_0 (d : Nat) (sh : List qSh) (K : Option Value → qMI → qML → qMP → Prop) (a0 : Nat) (x1 : Int32) (x2 : Int32) (x3 : Int32) (I : qMI) (L : qML) (P : qMP) : Prop :=
  ((shp sh a0).1 = 10) ∧ (((shp sh (P a0 20)).1 = 20) ∧ ((vp_in x3 (shp sh (P a0 20)).2) ∧ (((((1 : Int32) <<< (x1 &&& 31)) < (I (P a0 20) (Int32.toNatClampNeg x3))) → (K (some (.int 0)) I L P)) ∧ ((¬ ((1 : Int32) <<< (x1 &&& 31)) < (I (P a0 20) (Int32.toNatClampNeg x3))) → (((¬ x1 = 1) → (((¬ x1 = 1) → (((shp sh (P a0 0)).1 = 20) ∧ ((vp_in 1 (shp sh (P a0 0)).2) ∧ ((((I (P a0 0) (Int32.toNatClampNeg 1)) < x1) → ((vp_in 2 (shp sh (P a0 0)).2) ∧ ((((I (P a0 0) (Int32.toNatClampNeg 2)) < x1) → (Sq d mX10_isSeated sh [.ref a0, .int x1, .int x2, .int x3] I L P (KI fun r12 I13 L14 P15 => ((r12 = 0) → (K (some (.int 0)) I13 L14 P15)) ∧ ((¬ r12 = 0) → (K (some (.int 1)) I13 L14 P15))))) ∧ ((¬ (I (P a0 0) (Int32.toNatClampNeg 2)) < x1) → (((shp sh (P a0 19)).1 = 22) ∧ ((vp_in x3 (shp sh (P a0 19)).2) ∧ ((((I (P a0 19) (Int32.toNatClampNeg x3)) = 0) → (K (some (.int 0)) I L P)) ∧ ((¬ (I (P a0 19) (Int32.toNatClampNeg x3)) = 0) → (Sq d mX10_isSeated sh [.ref a0, .int x1, .int x2, .int x3] I L P (KI fun r20 I21 L22 P23 => ((r20 = 0) → (K (some (.int 0)) I21 L22 P23)) ∧ ((¬ r20 = 0) → (K (some (.int 1)) I21 L22 P23)))))))))))) ∧ ((¬ (I (P a0 0) (Int32.toNatClampNeg 1)) < x1) → (((shp sh (P a0 18)).1 = 22) ∧ ((vp_in x3 (shp sh (P a0 18)).2) ∧ ((((I (P a0 18) (Int32.toNatClampNeg x3)) = 0) → (K (some (.int 0)) I L P)) ∧ ((¬ (I (P a0 18) (Int32.toNatClampNeg x3)) = 0) → ((vp_in 2 (shp sh (P a0 0)).2) ∧ ((((I (P a0 0) (Int32.toNatClampNeg 2)) < x1) → (Sq d mX10_isSeated sh [.ref a0, .int x1, .int x2, .int x3] I L P (KI fun r30 I31 L32 P33 => ((r30 = 0) → (K (some (.int 0)) I31 L32 P33)) ∧ ((¬ r30 = 0) → (K (some (.int 1)) I31 L32 P33))))) ∧ ((¬ (I (P a0 0) (Int32.toNatClampNeg 2)) < x1) → (((shp sh (P a0 19)).1 = 22) ∧ ((vp_in x3 (shp sh (P a0 19)).2) ∧ ((((I (P a0 19) (Int32.toNatClampNeg x3)) = 0) → (K (some (.int 0)) I L P)) ∧ ((¬ (I (P a0 19) (Int32.toNatClampNeg x3)) = 0) → (Sq d mX10_isSeated sh [.ref a0, .int x1, .int x2, .int x3] I L P (KI fun r38 I39 L40 P41 => ((r38 = 0) → (K (some (.int 0)) I39 L40 P41)) ∧ ((¬ r38 = 0) → (K (some (.int 1)) I39 L40 P41)))))))))))))))))))) ∧ ((x1 = 1) → (((¬ (I (P a0 20) (Int32.toNatClampNeg x3)) = 2) → (((shp sh (P a0 0)).1 = 20) ∧ ((vp_in 1 (shp sh (P a0 0)).2) ∧ ((((I (P a0 0) (Int32.toNatClampNeg 1)) < x1) → ((vp_in 2 (shp sh (P a0 0)).2) ∧ ((((I (P a0 0) (Int32.toNatClampNeg 2)) < x1) → (Sq d mX10_isSeated sh [.ref a0, .int x1, .int x2, .int x3] I L P (KI fun r49 I50 L51 P52 => ((r49 = 0) → (K (some (.int 0)) I50 L51 P52)) ∧ ((¬ r49 = 0) → (K (some (.int 1)) I50 L51 P52))))) ∧ ((¬ (I (P a0 0) (Int32.toNatClampNeg 2)) < x1) → (((shp sh (P a0 19)).1 = 22) ∧ ((vp_in x3 (shp sh (P a0 19)).2) ∧ ((((I (P a0 19) (Int32.toNatClampNeg x3)) = 0) → (K (some (.int 0)) I L P)) ∧ ((¬ (I (P a0 19) (Int32.toNatClampNeg x3)) = 0) → (Sq d mX10_isSeated sh [.ref a0, .int x1, .int x2, .int x3] I L P (KI fun r57 I58 L59 P60 => ((r57 = 0) → (K (some (.int 0)) I58 L59 P60)) ∧ ((¬ r57 = 0) → (K (some (.int 1)) I58 L59 P60)))))))))))) ∧ ((¬ (I (P a0 0) (Int32.toNatClampNeg 1)) < x1) → (((shp sh (P a0 18)).1 = 22) ∧ ((vp_in x3 (shp sh (P a0 18)).2) ∧ ((((I (P a0 18) (Int32.toNatClampNeg x3)) = 0) → (K (some (.int 0)) I L P)) ∧ ((¬ (I (P a0 18) (Int32.toNatClampNeg x3)) = 0) → ((vp_in 2 (shp sh (P a0 0)).2) ∧ ((((I (P a0 0) (Int32.toNatClampNeg 2)) < x1) → (Sq d mX10_isSeated sh [.ref a0, .int x1, .int x2, .int x3] I L P (KI fun r67 I68 L69 P70 => ((r67 = 0) → (K (some (.int 0)) I68 L69 P70)) ∧ ((¬ r67 = 0) → (K (some (.int 1)) I68 L69 P70))))) ∧ ((¬ (I (P a0 0) (Int32.toNatClampNeg 2)) < x1) → (((shp sh (P a0 19)).1 = 22) ∧ ((vp_in x3 (shp sh (P a0 19)).2) ∧ ((((I (P a0 19) (Int32.toNatClampNeg x3)) = 0) → (K (some (.int 0)) I L P)) ∧ ((¬ (I (P a0 19) (Int32.toNatClampNeg x3)) = 0) → (Sq d mX10_isSeated sh [.ref a0, .int x1, .int x2, .int x3] I L P (KI fun r75 I76 L77 P78 => ((r75 = 0) → (K (some (.int 0)) I76 L77 P78)) ∧ ((¬ r75 = 0) → (K (some (.int 1)) I76 L77 P78)))))))))))))))))))) ∧ (((I (P a0 20) (Int32.toNatClampNeg x3)) = 2) → ((((x3 &&& (I a0 22)) = 0) → (((shp sh (P a0 0)).1 = 20) ∧ ((vp_in 1 (shp sh (P a0 0)).2) ∧ ((((I (P a0 0) (Int32.toNatClampNeg 1)) < x1) → ((vp_in 2 (shp sh (P a0 0)).2) ∧ ((((I (P a0 0) (Int32.toNatClampNeg 2)) < x1) → (Sq d mX10_isSeated sh [.ref a0, .int x1, .int x2, .int x3] I L P (KI fun r86 I87 L88 P89 => ((r86 = 0) → (K (some (.int 0)) I87 L88 P89)) ∧ ((¬ r86 = 0) → (K (some (.int 1)) I87 L88 P89))))) ∧ ((¬ (I (P a0 0) (Int32.toNatClampNeg 2)) < x1) → (((shp sh (P a0 19)).1 = 22) ∧ ((vp_in x3 (shp sh (P a0 19)).2) ∧ ((((I (P a0 19) (Int32.toNatClampNeg x3)) = 0) → (K (some (.int 0)) I L P)) ∧ ((¬ (I (P a0 19) (Int32.toNatClampNeg x3)) = 0) → (Sq d mX10_isSeated sh [.ref a0, .int x1, .int x2, .int x3] I L P (KI fun r94 I95 L96 P97 => ((r94 = 0) → (K (some (.int 0)) I95 L96 P97)) ∧ ((¬ r94 = 0) → (K (some (.int 1)) I95 L96 P97)))))))))))) ∧ ((¬ (I (P a0 0) (Int32.toNatClampNeg 1)) < x1) → (((shp sh (P a0 18)).1 = 22) ∧ ((vp_in x3 (shp sh (P a0 18)).2) ∧ ((((I (P a0 18) (Int32.toNatClampNeg x3)) = 0) → (K (some (.int 0)) I L P)) ∧ ((¬ (I (P a0 18) (Int32.toNatClampNeg x3)) = 0) → ((vp_in 2 (shp sh (P a0 0)).2) ∧ ((((I (P a0 0) (Int32.toNatClampNeg 2)) < x1) → (Sq d mX10_isSeated sh [.ref a0, .int x1, .int x2, .int x3] I L P (KI fun r104 I105 L106 P107 => ((r104 = 0) → (K (some (.int 0)) I105 L106 P107)) ∧ ((¬ r104 = 0) → (K (some (.int 1)) I105 L106 P107))))) ∧ ((¬ (I (P a0 0) (Int32.toNatClampNeg 2)) < x1) → (((shp sh (P a0 19)).1 = 22) ∧ ((vp_in x3 (shp sh (P a0 19)).2) ∧ ((((I (P a0 19) (Int32.toNatClampNeg x3)) = 0) → (K (some (.int 0)) I L P)) ∧ ((¬ (I (P a0 19) (Int32.toNatClampNeg x3)) = 0) → (Sq d mX10_isSeated sh [.ref a0, .int x1, .int x2, .int x3] I L P (KI fun r112 I113 L114 P115 => ((r112 = 0) → (K (some (.int 0)) I113 L114 P115)) ∧ ((¬ r112 = 0) → (K (some (.int 1)) I113 L114 P115)))))))))))))))))))) ∧ ((¬ (x3 &&& (I a0 22)) = 0) → (K (some (.int 0)) I L P)))))))) ∧ ((x1 = 1) → ((((I (P a0 20) (Int32.toNatClampNeg x3)) = 0) → (K (some (.int 0)) I L P)) ∧ ((¬ (I (P a0 20) (Int32.toNatClampNeg x3)) = 0) → (((¬ x1 = 1) → (((shp sh (P a0 0)).1 = 20) ∧ ((vp_in 1 (shp sh (P a0 0)).2) ∧ ((((I (P a0 0) (Int32.toNatClampNeg 1)) < x1) → ((vp_in 2 (shp sh (P a0 0)).2) ∧ ((((I (P a0 0) (Int32.toNatClampNeg 2)) < x1) → (Sq d mX10_isSeated sh [.ref a0, .int x1, .int x2, .int x3] I L P (KI fun r124 I125 L126 P127 => ((r124 = 0) → (K (some (.int 0)) I125 L126 P127)) ∧ ((¬ r124 = 0) → (K (some (.int 1)) I125 L126 P127))))) ∧ ((¬ (I (P a0 0) (Int32.toNatClampNeg 2)) < x1) → (((shp sh (P a0 19)).1 = 22) ∧ ((vp_in x3 (shp sh (P a0 19)).2) ∧ ((((I (P a0 19) (Int32.toNatClampNeg x3)) = 0) → (K (some (.int 0)) I L P)) ∧ ((¬ (I (P a0 19) (Int32.toNatClampNeg x3)) = 0) → (Sq d mX10_isSeated sh [.ref a0, .int x1, .int x2, .int x3] I L P (KI fun r132 I133 L134 P135 => ((r132 = 0) → (K (some (.int 0)) I133 L134 P135)) ∧ ((¬ r132 = 0) → (K (some (.int 1)) I133 L134 P135)))))))))))) ∧ ((¬ (I (P a0 0) (Int32.toNatClampNeg 1)) < x1) → (((shp sh (P a0 18)).1 = 22) ∧ ((vp_in x3 (shp sh (P a0 18)).2) ∧ ((((I (P a0 18) (Int32.toNatClampNeg x3)) = 0) → (K (some (.int 0)) I L P)) ∧ ((¬ (I (P a0 18) (Int32.toNatClampNeg x3)) = 0) → ((vp_in 2 (shp sh (P a0 0)).2) ∧ ((((I (P a0 0) (Int32.toNatClampNeg 2)) < x1) → (Sq d mX10_isSeated sh [.ref a0, .int x1, .int x2, .int x3] I L P (KI fun r142 I143 L144 P145 => ((r142 = 0) → (K (some (.int 0)) I143 L144 P145)) ∧ ((¬ r142 = 0) → (K (some (.int 1)) I143 L144 P145))))) ∧ ((¬ (I (P a0 0) (Int32.toNatClampNeg 2)) < x1) → (((shp sh (P a0 19)).1 = 22) ∧ ((vp_in x3 (shp sh (P a0 19)).2) ∧ ((((I (P a0 19) (Int32.toNatClampNeg x3)) = 0) → (K (some (.int 0)) I L P)) ∧ ((¬ (I (P a0 19) (Int32.toNatClampNeg x3)) = 0) → (Sq d mX10_isSeated sh [.ref a0, .int x1, .int x2, .int x3] I L P (KI fun r150 I151 L152 P153 => ((r150 = 0) → (K (some (.int 0)) I151 L152 P153)) ∧ ((¬ r150 = 0) → (K (some (.int 1)) I151 L152 P153)))))))))))))))))))) ∧ ((x1 = 1) → (((¬ (I (P a0 20) (Int32.toNatClampNeg x3)) = 2) → (((shp sh (P a0 0)).1 = 20) ∧ ((vp_in 1 (shp sh (P a0 0)).2) ∧ ((((I (P a0 0) (Int32.toNatClampNeg 1)) < x1) → ((vp_in 2 (shp sh (P a0 0)).2) ∧ ((((I (P a0 0) (Int32.toNatClampNeg 2)) < x1) → (Sq d mX10_isSeated sh [.ref a0, .int x1, .int x2, .int x3] I L P (KI fun r161 I162 L163 P164 => ((r161 = 0) → (K (some (.int 0)) I162 L163 P164)) ∧ ((¬ r161 = 0) → (K (some (.int 1)) I162 L163 P164))))) ∧ ((¬ (I (P a0 0) (Int32.toNatClampNeg 2)) < x1) → (((shp sh (P a0 19)).1 = 22) ∧ ((vp_in x3 (shp sh (P a0 19)).2) ∧ ((((I (P a0 19) (Int32.toNatClampNeg x3)) = 0) → (K (some (.int 0)) I L P)) ∧ ((¬ (I (P a0 19) (Int32.toNatClampNeg x3)) = 0) → (Sq d mX10_isSeated sh [.ref a0, .int x1, .int x2, .int x3] I L P (KI fun r169 I170 L171 P172 => ((r169 = 0) → (K (some (.int 0)) I170 L171 P172)) ∧ ((¬ r169 = 0) → (K (some (.int 1)) I170 L171 P172)))))))))))) ∧ ((¬ (I (P a0 0) (Int32.toNatClampNeg 1)) < x1) → (((shp sh (P a0 18)).1 = 22) ∧ ((vp_in x3 (shp sh (P a0 18)).2) ∧ ((((I (P a0 18) (Int32.toNatClampNeg x3)) = 0) → (K (some (.int 0)) I L P)) ∧ ((¬ (I (P a0 18) (Int32.toNatClampNeg x3)) = 0) → ((vp_in 2 (shp sh (P a0 0)).2) ∧ ((((I (P a0 0) (Int32.toNatClampNeg 2)) < x1) → (Sq d mX10_isSeated sh [.ref a0, .int x1, .int x2, .int x3] I L P (KI fun r179 I180 L181 P182 => ((r179 = 0) → (K (some (.int 0)) I180 L181 P182)) ∧ ((¬ r179 = 0) → (K (some (.int 1)) I180 L181 P182))))) ∧ ((¬ (I (P a0 0) (Int32.toNatClampNeg 2)) < x1) → (((shp sh (P a0 19)).1 = 22) ∧ ((vp_in x3 (shp sh (P a0 19)).2) ∧ ((((I (P a0 19) (Int32.toNatClampNeg x3)) = 0) → (K (some (.int 0)) I L P)) ∧ ((¬ (I (P a0 19) (Int32.toNatClampNeg x3)) = 0) → (Sq d mX10_isSeated sh [.ref a0, .int x1, .int x2, .int x3] I L P (KI fun r187 I188 L189 P190 => ((r187 = 0) → (K (some (.int 0)) I188 L189 P190)) ∧ ((¬ r187 = 0) → (K (some (.int 1)) I188 L189 P190)))))))))))))))))))) ∧ (((I (P a0 20) (Int32.toNatClampNeg x3)) = 2) → ((((x3 &&& (I a0 22)) = 0) → (((shp sh (P a0 0)).1 = 20) ∧ ((vp_in 1 (shp sh (P a0 0)).2) ∧ ((((I (P a0 0) (Int32.toNatClampNeg 1)) < x1) → ((vp_in 2 (shp sh (P a0 0)).2) ∧ ((((I (P a0 0) (Int32.toNatClampNeg 2)) < x1) → (Sq d mX10_isSeated sh [.ref a0, .int x1, .int x2, .int x3] I L P (KI fun r198 I199 L200 P201 => ((r198 = 0) → (K (some (.int 0)) I199 L200 P201)) ∧ ((¬ r198 = 0) → (K (some (.int 1)) I199 L200 P201))))) ∧ ((¬ (I (P a0 0) (Int32.toNatClampNeg 2)) < x1) → (((shp sh (P a0 19)).1 = 22) ∧ ((vp_in x3 (shp sh (P a0 19)).2) ∧ ((((I (P a0 19) (Int32.toNatClampNeg x3)) = 0) → (K (some (.int 0)) I L P)) ∧ ((¬ (I (P a0 19) (Int32.toNatClampNeg x3)) = 0) → (Sq d mX10_isSeated sh [.ref a0, .int x1, .int x2, .int x3] I L P (KI fun r206 I207 L208 P209 => ((r206 = 0) → (K (some (.int 0)) I207 L208 P209)) ∧ ((¬ r206 = 0) → (K (some (.int 1)) I207 L208 P209)))))))))))) ∧ ((¬ (I (P a0 0) (Int32.toNatClampNeg 1)) < x1) → (((shp sh (P a0 18)).1 = 22) ∧ ((vp_in x3 (shp sh (P a0 18)).2) ∧ ((((I (P a0 18) (Int32.toNatClampNeg x3)) = 0) → (K (some (.int 0)) I L P)) ∧ ((¬ (I (P a0 18) (Int32.toNatClampNeg x3)) = 0) → ((vp_in 2 (shp sh (P a0 0)).2) ∧ ((((I (P a0 0) (Int32.toNatClampNeg 2)) < x1) → (Sq d mX10_isSeated sh [.ref a0, .int x1, .int x2, .int x3] I L P (KI fun r216 I217 L218 P219 => ((r216 = 0) → (K (some (.int 0)) I217 L218 P219)) ∧ ((¬ r216 = 0) → (K (some (.int 1)) I217 L218 P219))))) ∧ ((¬ (I (P a0 0) (Int32.toNatClampNeg 2)) < x1) → (((shp sh (P a0 19)).1 = 22) ∧ ((vp_in x3 (shp sh (P a0 19)).2) ∧ ((((I (P a0 19) (Int32.toNatClampNeg x3)) = 0) → (K (some (.int 0)) I L P)) ∧ ((¬ (I (P a0 19) (Int32.toNatClampNeg x3)) = 0) → (Sq d mX10_isSeated sh [.ref a0, .int x1, .int x2, .int x3] I L P (KI fun r224 I225 L226 P227 => ((r224 = 0) → (K (some (.int 0)) I225 L226 P227)) ∧ ((¬ r224 = 0) → (K (some (.int 1)) I225 L226 P227)))))))))))))))))))) ∧ ((¬ (x3 &&& (I a0 22)) = 0) → (K (some (.int 0)) I L P)))))))))))))))
set_option maxRecDepth 100000 in
set_option maxHeartbeats 4000000 in
theorem rg_X10_isAllowed_0 {X : qCT} {d : Nat} {sh : List qSh} {K : Option Value → qMI → qML → qMP → Prop} {a0 : Nat} {x1 : Int32} {x2 : Int32} {x3 : Int32} {I : qMI} {L : qML} {P : qMP} (C : qCB X RX10 cX10_isAllowed 4 (d + 1) 0 0) (hk : qCK X (some .boolean) 0 0 (fun v sh' I' L' P' => sh' = sh ∧ K v I' L' P')) (h : vc_X10_isAllowed_0 d sh K a0 x1 x2 x3 I L P) : qG X 0 [some (.ref a0), some (.int x1), some (.int x2), some (.int x3)] [] sh I L P 0 0 := by
  unfold vc_X10_isAllowed_0 at h
  refine q_aload_n C dX10_isAllowed_0 rfl ?_
  have s1 := h.1
  replace h := h.2
  refine q_getP C fl_RX10_51 rfl s1 dX10_isAllowed_1 ?_
  refine q_iload_n C dX10_isAllowed_4 rfl ?_
  have s2 := h.1
  replace h := h.2
  have s3 := h.1
  replace h := h.2
  refine q_iald C s2 s3 dX10_isAllowed_5 ?_
  refine q_iconst (v := 1) C dX10_isAllowed_6 (by decide) ?_
  refine q_iload_n C dX10_isAllowed_7 rfl ?_
  refine q_ishl C dX10_isAllowed_8 ?_
  refine q_icmp_gt (tgt := 50) C dX10_isAllowed_9 (by decide) (fun c4 => ?_) (fun c4 => ?_)
  · replace h := h.1 c4
    refine q_iconst (v := 0) C dX10_isAllowed_50 (by decide) ?_
    exact q_zret C hk (Or.inl rfl) dX10_isAllowed_51 ⟨rfl, h⟩
  · replace h := h.2 c4
    refine q_iload_n C dX10_isAllowed_12 rfl ?_
    refine q_iconst (v := 1) C dX10_isAllowed_13 (by decide) ?_
    refine q_icmp_ne (tgt := 26) C dX10_isAllowed_14 (by decide) (fun c5 => ?_) (fun c5 => ?_)
    · replace h := h.1 c5
      refine q_iload_n C dX10_isAllowed_26 rfl ?_
      refine q_iconst (v := 1) C dX10_isAllowed_27 (by decide) ?_
      refine q_icmp_ne (tgt := 52) C dX10_isAllowed_28 (by decide) (fun c6 => ?_) (fun c6 => ?_)
      · replace h := h.1 c6
        refine q_iload_n C dX10_isAllowed_52 rfl ?_
        refine q_aload_n C dX10_isAllowed_53 rfl ?_
        refine q_getP C fl_RX10_9 rfl s1 dX10_isAllowed_54 ?_
        refine q_iconst (v := 1) C dX10_isAllowed_57 (by decide) ?_
        have s7 := h.1
        replace h := h.2
        have s8 := h.1
        replace h := h.2
        refine q_iald C s7 s8 dX10_isAllowed_58 ?_
        refine q_icmp_gt (tgt := 71) C dX10_isAllowed_59 (by decide) (fun c9 => ?_) (fun c9 => ?_)
        · replace h := h.1 c9
          refine q_iload_n C dX10_isAllowed_71 rfl ?_
          refine q_aload_n C dX10_isAllowed_72 rfl ?_
          refine q_getP C fl_RX10_9 rfl s1 dX10_isAllowed_73 ?_
          refine q_iconst (v := 2) C dX10_isAllowed_76 (by decide) ?_
          have s10 := h.1
          replace h := h.2
          refine q_iald C s7 s10 dX10_isAllowed_77 ?_
          refine q_icmp_gt (tgt := 90) C dX10_isAllowed_78 (by decide) (fun c11 => ?_) (fun c11 => ?_)
          · replace h := h.1 c11
            refine q_aload_n C dX10_isAllowed_90 rfl ?_
            refine q_iload_n C dX10_isAllowed_91 rfl ?_
            refine q_iload_n C dX10_isAllowed_92 rfl ?_
            refine q_iload_n C dX10_isAllowed_93 rfl ?_
            refine q_cVi (as := [.int x1, .int x2, .int x3]) (st := []) (r := a0) C mv_X10_isSeated ml_RX10_180 dX10_isAllowed_94 rfl s1 rfl (Nat.le_of_ble_eq_true rfl) ⟨Nat.le_refl _, Nat.le_refl _⟩ h (fun r12 I13 L14 P15 h => ?_)
            refine q_if_eq (tgt := 104) C dX10_isAllowed_97 (by decide) (fun c16 => ?_) (fun c16 => ?_)
            · replace h := h.1 c16
              refine q_iconst (v := 0) C dX10_isAllowed_104 (by decide) ?_
              exact q_zret C hk (Or.inl rfl) dX10_isAllowed_105 ⟨rfl, h⟩
            · replace h := h.2 c16
              refine q_iconst (v := 1) C dX10_isAllowed_100 (by decide) ?_
              refine q_goto (tgt := 105) C dX10_isAllowed_101 (by decide) ?_
              exact q_zret C hk (Or.inr rfl) dX10_isAllowed_105 ⟨rfl, h⟩
          · replace h := h.2 c11
            refine q_aload_n C dX10_isAllowed_81 rfl ?_
            refine q_getP C fl_RX10_48 rfl s1 dX10_isAllowed_82 ?_
            refine q_iload_n C dX10_isAllowed_85 rfl ?_
            have s17 := h.1
            replace h := h.2
            have s18 := h.1
            replace h := h.2
            refine q_zald C s17 s18 dX10_isAllowed_86 ?_
            refine q_if_eq (tgt := 104) C dX10_isAllowed_87 (by decide) (fun c19 => ?_) (fun c19 => ?_)
            · replace h := h.1 c19
              refine q_iconst (v := 0) C dX10_isAllowed_104 (by decide) ?_
              exact q_zret C hk (Or.inl rfl) dX10_isAllowed_105 ⟨rfl, h⟩
            · replace h := h.2 c19
              refine q_aload_n C dX10_isAllowed_90 rfl ?_
              refine q_iload_n C dX10_isAllowed_91 rfl ?_
              refine q_iload_n C dX10_isAllowed_92 rfl ?_
              refine q_iload_n C dX10_isAllowed_93 rfl ?_
              refine q_cVi (as := [.int x1, .int x2, .int x3]) (st := []) (r := a0) C mv_X10_isSeated ml_RX10_180 dX10_isAllowed_94 rfl s1 rfl (Nat.le_of_ble_eq_true rfl) ⟨Nat.le_refl _, Nat.le_refl _⟩ h (fun r20 I21 L22 P23 h => ?_)
              refine q_if_eq (tgt := 104) C dX10_isAllowed_97 (by decide) (fun c24 => ?_) (fun c24 => ?_)
              · replace h := h.1 c24
                refine q_iconst (v := 0) C dX10_isAllowed_104 (by decide) ?_
                exact q_zret C hk (Or.inl rfl) dX10_isAllowed_105 ⟨rfl, h⟩
              · replace h := h.2 c24
                refine q_iconst (v := 1) C dX10_isAllowed_100 (by decide) ?_
                refine q_goto (tgt := 105) C dX10_isAllowed_101 (by decide) ?_
                exact q_zret C hk (Or.inr rfl) dX10_isAllowed_105 ⟨rfl, h⟩
        · replace h := h.2 c9
          refine q_aload_n C dX10_isAllowed_62 rfl ?_
          refine q_getP C fl_RX10_44 rfl s1 dX10_isAllowed_63 ?_
          refine q_iload_n C dX10_isAllowed_66 rfl ?_
          have s25 := h.1
          replace h := h.2
          have s26 := h.1
          replace h := h.2
          refine q_zald C s25 s26 dX10_isAllowed_67 ?_
          refine q_if_eq (tgt := 104) C dX10_isAllowed_68 (by decide) (fun c27 => ?_) (fun c27 => ?_)
          · replace h := h.1 c27
            refine q_iconst (v := 0) C dX10_isAllowed_104 (by decide) ?_
            exact q_zret C hk (Or.inl rfl) dX10_isAllowed_105 ⟨rfl, h⟩
          · replace h := h.2 c27
            refine q_iload_n C dX10_isAllowed_71 rfl ?_
            refine q_aload_n C dX10_isAllowed_72 rfl ?_
            refine q_getP C fl_RX10_9 rfl s1 dX10_isAllowed_73 ?_
            refine q_iconst (v := 2) C dX10_isAllowed_76 (by decide) ?_
            have s28 := h.1
            replace h := h.2
            refine q_iald C s7 s28 dX10_isAllowed_77 ?_
            refine q_icmp_gt (tgt := 90) C dX10_isAllowed_78 (by decide) (fun c29 => ?_) (fun c29 => ?_)
            · replace h := h.1 c29
              refine q_aload_n C dX10_isAllowed_90 rfl ?_
              refine q_iload_n C dX10_isAllowed_91 rfl ?_
              refine q_iload_n C dX10_isAllowed_92 rfl ?_
              refine q_iload_n C dX10_isAllowed_93 rfl ?_
              refine q_cVi (as := [.int x1, .int x2, .int x3]) (st := []) (r := a0) C mv_X10_isSeated ml_RX10_180 dX10_isAllowed_94 rfl s1 rfl (Nat.le_of_ble_eq_true rfl) ⟨Nat.le_refl _, Nat.le_refl _⟩ h (fun r30 I31 L32 P33 h => ?_)
              refine q_if_eq (tgt := 104) C dX10_isAllowed_97 (by decide) (fun c34 => ?_) (fun c34 => ?_)
              · replace h := h.1 c34
                refine q_iconst (v := 0) C dX10_isAllowed_104 (by decide) ?_
                exact q_zret C hk (Or.inl rfl) dX10_isAllowed_105 ⟨rfl, h⟩
              · replace h := h.2 c34
                refine q_iconst (v := 1) C dX10_isAllowed_100 (by decide) ?_
                refine q_goto (tgt := 105) C dX10_isAllowed_101 (by decide) ?_
                exact q_zret C hk (Or.inr rfl) dX10_isAllowed_105 ⟨rfl, h⟩
            · replace h := h.2 c29
              refine q_aload_n C dX10_isAllowed_81 rfl ?_
              refine q_getP C fl_RX10_48 rfl s1 dX10_isAllowed_82 ?_
              refine q_iload_n C dX10_isAllowed_85 rfl ?_
              have s35 := h.1
              replace h := h.2
              have s36 := h.1
              replace h := h.2
              refine q_zald C s35 s36 dX10_isAllowed_86 ?_
              refine q_if_eq (tgt := 104) C dX10_isAllowed_87 (by decide) (fun c37 => ?_) (fun c37 => ?_)
              · replace h := h.1 c37
                refine q_iconst (v := 0) C dX10_isAllowed_104 (by decide) ?_
                exact q_zret C hk (Or.inl rfl) dX10_isAllowed_105 ⟨rfl, h⟩
              · replace h := h.2 c37
                refine q_aload_n C dX10_isAllowed_90 rfl ?_
                refine q_iload_n C dX10_isAllowed_91 rfl ?_
                refine q_iload_n C dX10_isAllowed_92 rfl ?_
                refine q_iload_n C dX10_isAllowed_93 rfl ?_
                refine q_cVi (as := [.int x1, .int x2, .int x3]) (st := []) (r := a0) C mv_X10_isSeated ml_RX10_180 dX10_isAllowed_94 rfl s1 rfl (Nat.le_of_ble_eq_true rfl) ⟨Nat.le_refl _, Nat.le_refl _⟩ h (fun r38 I39 L40 P41 h => ?_)
                refine q_if_eq (tgt := 104) C dX10_isAllowed_97 (by decide) (fun c42 => ?_) (fun c42 => ?_)
                · replace h := h.1 c42
                  refine q_iconst (v := 0) C dX10_isAllowed_104 (by decide) ?_
                  exact q_zret C hk (Or.inl rfl) dX10_isAllowed_105 ⟨rfl, h⟩
                · replace h := h.2 c42
                  refine q_iconst (v := 1) C dX10_isAllowed_100 (by decide) ?_
                  refine q_goto (tgt := 105) C dX10_isAllowed_101 (by decide) ?_
                  exact q_zret C hk (Or.inr rfl) dX10_isAllowed_105 ⟨rfl, h⟩
      · replace h := h.2 c6
        refine q_aload_n C dX10_isAllowed_31 rfl ?_
        refine q_getP C fl_RX10_51 rfl s1 dX10_isAllowed_32 ?_
        refine q_iload_n C dX10_isAllowed_35 rfl ?_
        refine q_iald C s2 s3 dX10_isAllowed_36 ?_
        refine q_iconst (v := 2) C dX10_isAllowed_37 (by decide) ?_
        refine q_icmp_ne (tgt := 52) C dX10_isAllowed_38 (by decide) (fun c43 => ?_) (fun c43 => ?_)
        · replace h := h.1 c43
          refine q_iload_n C dX10_isAllowed_52 rfl ?_
          refine q_aload_n C dX10_isAllowed_53 rfl ?_
          refine q_getP C fl_RX10_9 rfl s1 dX10_isAllowed_54 ?_
          refine q_iconst (v := 1) C dX10_isAllowed_57 (by decide) ?_
          have s44 := h.1
          replace h := h.2
          have s45 := h.1
          replace h := h.2
          refine q_iald C s44 s45 dX10_isAllowed_58 ?_
          refine q_icmp_gt (tgt := 71) C dX10_isAllowed_59 (by decide) (fun c46 => ?_) (fun c46 => ?_)
          · replace h := h.1 c46
            refine q_iload_n C dX10_isAllowed_71 rfl ?_
            refine q_aload_n C dX10_isAllowed_72 rfl ?_
            refine q_getP C fl_RX10_9 rfl s1 dX10_isAllowed_73 ?_
            refine q_iconst (v := 2) C dX10_isAllowed_76 (by decide) ?_
            have s47 := h.1
            replace h := h.2
            refine q_iald C s44 s47 dX10_isAllowed_77 ?_
            refine q_icmp_gt (tgt := 90) C dX10_isAllowed_78 (by decide) (fun c48 => ?_) (fun c48 => ?_)
            · replace h := h.1 c48
              refine q_aload_n C dX10_isAllowed_90 rfl ?_
              refine q_iload_n C dX10_isAllowed_91 rfl ?_
              refine q_iload_n C dX10_isAllowed_92 rfl ?_
              refine q_iload_n C dX10_isAllowed_93 rfl ?_
              refine q_cVi (as := [.int x1, .int x2, .int x3]) (st := []) (r := a0) C mv_X10_isSeated ml_RX10_180 dX10_isAllowed_94 rfl s1 rfl (Nat.le_of_ble_eq_true rfl) ⟨Nat.le_refl _, Nat.le_refl _⟩ h (fun r49 I50 L51 P52 h => ?_)
              refine q_if_eq (tgt := 104) C dX10_isAllowed_97 (by decide) (fun c53 => ?_) (fun c53 => ?_)
              · replace h := h.1 c53
                refine q_iconst (v := 0) C dX10_isAllowed_104 (by decide) ?_
                exact q_zret C hk (Or.inl rfl) dX10_isAllowed_105 ⟨rfl, h⟩
              · replace h := h.2 c53
                refine q_iconst (v := 1) C dX10_isAllowed_100 (by decide) ?_
                refine q_goto (tgt := 105) C dX10_isAllowed_101 (by decide) ?_
                exact q_zret C hk (Or.inr rfl) dX10_isAllowed_105 ⟨rfl, h⟩
            · replace h := h.2 c48
              refine q_aload_n C dX10_isAllowed_81 rfl ?_
              refine q_getP C fl_RX10_48 rfl s1 dX10_isAllowed_82 ?_
              refine q_iload_n C dX10_isAllowed_85 rfl ?_
              have s54 := h.1
              replace h := h.2
              have s55 := h.1
              replace h := h.2
              refine q_zald C s54 s55 dX10_isAllowed_86 ?_
              refine q_if_eq (tgt := 104) C dX10_isAllowed_87 (by decide) (fun c56 => ?_) (fun c56 => ?_)
              · replace h := h.1 c56
                refine q_iconst (v := 0) C dX10_isAllowed_104 (by decide) ?_
                exact q_zret C hk (Or.inl rfl) dX10_isAllowed_105 ⟨rfl, h⟩
              · replace h := h.2 c56
                refine q_aload_n C dX10_isAllowed_90 rfl ?_
                refine q_iload_n C dX10_isAllowed_91 rfl ?_
                refine q_iload_n C dX10_isAllowed_92 rfl ?_
                refine q_iload_n C dX10_isAllowed_93 rfl ?_
                refine q_cVi (as := [.int x1, .int x2, .int x3]) (st := []) (r := a0) C mv_X10_isSeated ml_RX10_180 dX10_isAllowed_94 rfl s1 rfl (Nat.le_of_ble_eq_true rfl) ⟨Nat.le_refl _, Nat.le_refl _⟩ h (fun r57 I58 L59 P60 h => ?_)
                refine q_if_eq (tgt := 104) C dX10_isAllowed_97 (by decide) (fun c61 => ?_) (fun c61 => ?_)
                · replace h := h.1 c61
                  refine q_iconst (v := 0) C dX10_isAllowed_104 (by decide) ?_
                  exact q_zret C hk (Or.inl rfl) dX10_isAllowed_105 ⟨rfl, h⟩
                · replace h := h.2 c61
                  refine q_iconst (v := 1) C dX10_isAllowed_100 (by decide) ?_
                  refine q_goto (tgt := 105) C dX10_isAllowed_101 (by decide) ?_
                  exact q_zret C hk (Or.inr rfl) dX10_isAllowed_105 ⟨rfl, h⟩
          · replace h := h.2 c46
            refine q_aload_n C dX10_isAllowed_62 rfl ?_
            refine q_getP C fl_RX10_44 rfl s1 dX10_isAllowed_63 ?_
            refine q_iload_n C dX10_isAllowed_66 rfl ?_
            have s62 := h.1
            replace h := h.2
            have s63 := h.1
            replace h := h.2
            refine q_zald C s62 s63 dX10_isAllowed_67 ?_
            refine q_if_eq (tgt := 104) C dX10_isAllowed_68 (by decide) (fun c64 => ?_) (fun c64 => ?_)
            · replace h := h.1 c64
              refine q_iconst (v := 0) C dX10_isAllowed_104 (by decide) ?_
              exact q_zret C hk (Or.inl rfl) dX10_isAllowed_105 ⟨rfl, h⟩
            · replace h := h.2 c64
              refine q_iload_n C dX10_isAllowed_71 rfl ?_
              refine q_aload_n C dX10_isAllowed_72 rfl ?_
              refine q_getP C fl_RX10_9 rfl s1 dX10_isAllowed_73 ?_
              refine q_iconst (v := 2) C dX10_isAllowed_76 (by decide) ?_
              have s65 := h.1
              replace h := h.2
              refine q_iald C s44 s65 dX10_isAllowed_77 ?_
              refine q_icmp_gt (tgt := 90) C dX10_isAllowed_78 (by decide) (fun c66 => ?_) (fun c66 => ?_)
              · replace h := h.1 c66
                refine q_aload_n C dX10_isAllowed_90 rfl ?_
                refine q_iload_n C dX10_isAllowed_91 rfl ?_
                refine q_iload_n C dX10_isAllowed_92 rfl ?_
                refine q_iload_n C dX10_isAllowed_93 rfl ?_
                refine q_cVi (as := [.int x1, .int x2, .int x3]) (st := []) (r := a0) C mv_X10_isSeated ml_RX10_180 dX10_isAllowed_94 rfl s1 rfl (Nat.le_of_ble_eq_true rfl) ⟨Nat.le_refl _, Nat.le_refl _⟩ h (fun r67 I68 L69 P70 h => ?_)
                refine q_if_eq (tgt := 104) C dX10_isAllowed_97 (by decide) (fun c71 => ?_) (fun c71 => ?_)
                · replace h := h.1 c71
                  refine q_iconst (v := 0) C dX10_isAllowed_104 (by decide) ?_
                  exact q_zret C hk (Or.inl rfl) dX10_isAllowed_105 ⟨rfl, h⟩
                · replace h := h.2 c71
                  refine q_iconst (v := 1) C dX10_isAllowed_100 (by decide) ?_
                  refine q_goto (tgt := 105) C dX10_isAllowed_101 (by decide) ?_
                  exact q_zret C hk (Or.inr rfl) dX10_isAllowed_105 ⟨rfl, h⟩
              · replace h := h.2 c66
                refine q_aload_n C dX10_isAllowed_81 rfl ?_
                refine q_getP C fl_RX10_48 rfl s1 dX10_isAllowed_82 ?_
                refine q_iload_n C dX10_isAllowed_85 rfl ?_
                have s72 := h.1
                replace h := h.2
                have s73 := h.1
                replace h := h.2
                refine q_zald C s72 s73 dX10_isAllowed_86 ?_
                refine q_if_eq (tgt := 104) C dX10_isAllowed_87 (by decide) (fun c74 => ?_) (fun c74 => ?_)
                · replace h := h.1 c74
                  refine q_iconst (v := 0) C dX10_isAllowed_104 (by decide) ?_
                  exact q_zret C hk (Or.inl rfl) dX10_isAllowed_105 ⟨rfl, h⟩
                · replace h := h.2 c74
                  refine q_aload_n C dX10_isAllowed_90 rfl ?_
                  refine q_iload_n C dX10_isAllowed_91 rfl ?_
                  refine q_iload_n C dX10_isAllowed_92 rfl ?_
                  refine q_iload_n C dX10_isAllowed_93 rfl ?_
                  refine q_cVi (as := [.int x1, .int x2, .int x3]) (st := []) (r := a0) C mv_X10_isSeated ml_RX10_180 dX10_isAllowed_94 rfl s1 rfl (Nat.le_of_ble_eq_true rfl) ⟨Nat.le_refl _, Nat.le_refl _⟩ h (fun r75 I76 L77 P78 h => ?_)
                  refine q_if_eq (tgt := 104) C dX10_isAllowed_97 (by decide) (fun c79 => ?_) (fun c79 => ?_)
                  · replace h := h.1 c79
                    refine q_iconst (v := 0) C dX10_isAllowed_104 (by decide) ?_
                    exact q_zret C hk (Or.inl rfl) dX10_isAllowed_105 ⟨rfl, h⟩
                  · replace h := h.2 c79
                    refine q_iconst (v := 1) C dX10_isAllowed_100 (by decide) ?_
                    refine q_goto (tgt := 105) C dX10_isAllowed_101 (by decide) ?_
                    exact q_zret C hk (Or.inr rfl) dX10_isAllowed_105 ⟨rfl, h⟩
        · replace h := h.2 c43
          refine q_iload_n C dX10_isAllowed_41 rfl ?_
          refine q_aload_n C dX10_isAllowed_42 rfl ?_
          refine q_getI C fl_RX10_171 rfl s1 dX10_isAllowed_43 ?_
          refine q_iand C dX10_isAllowed_46 ?_
          refine q_if_eq (tgt := 52) C dX10_isAllowed_47 (by decide) (fun c80 => ?_) (fun c80 => ?_)
          · replace h := h.1 c80
            refine q_iload_n C dX10_isAllowed_52 rfl ?_
            refine q_aload_n C dX10_isAllowed_53 rfl ?_
            refine q_getP C fl_RX10_9 rfl s1 dX10_isAllowed_54 ?_
            refine q_iconst (v := 1) C dX10_isAllowed_57 (by decide) ?_
            have s81 := h.1
            replace h := h.2
            have s82 := h.1
            replace h := h.2
            refine q_iald C s81 s82 dX10_isAllowed_58 ?_
            refine q_icmp_gt (tgt := 71) C dX10_isAllowed_59 (by decide) (fun c83 => ?_) (fun c83 => ?_)
            · replace h := h.1 c83
              refine q_iload_n C dX10_isAllowed_71 rfl ?_
              refine q_aload_n C dX10_isAllowed_72 rfl ?_
              refine q_getP C fl_RX10_9 rfl s1 dX10_isAllowed_73 ?_
              refine q_iconst (v := 2) C dX10_isAllowed_76 (by decide) ?_
              have s84 := h.1
              replace h := h.2
              refine q_iald C s81 s84 dX10_isAllowed_77 ?_
              refine q_icmp_gt (tgt := 90) C dX10_isAllowed_78 (by decide) (fun c85 => ?_) (fun c85 => ?_)
              · replace h := h.1 c85
                refine q_aload_n C dX10_isAllowed_90 rfl ?_
                refine q_iload_n C dX10_isAllowed_91 rfl ?_
                refine q_iload_n C dX10_isAllowed_92 rfl ?_
                refine q_iload_n C dX10_isAllowed_93 rfl ?_
                refine q_cVi (as := [.int x1, .int x2, .int x3]) (st := []) (r := a0) C mv_X10_isSeated ml_RX10_180 dX10_isAllowed_94 rfl s1 rfl (Nat.le_of_ble_eq_true rfl) ⟨Nat.le_refl _, Nat.le_refl _⟩ h (fun r86 I87 L88 P89 h => ?_)
                refine q_if_eq (tgt := 104) C dX10_isAllowed_97 (by decide) (fun c90 => ?_) (fun c90 => ?_)
                · replace h := h.1 c90
                  refine q_iconst (v := 0) C dX10_isAllowed_104 (by decide) ?_
                  exact q_zret C hk (Or.inl rfl) dX10_isAllowed_105 ⟨rfl, h⟩
                · replace h := h.2 c90
                  refine q_iconst (v := 1) C dX10_isAllowed_100 (by decide) ?_
                  refine q_goto (tgt := 105) C dX10_isAllowed_101 (by decide) ?_
                  exact q_zret C hk (Or.inr rfl) dX10_isAllowed_105 ⟨rfl, h⟩
              · replace h := h.2 c85
                refine q_aload_n C dX10_isAllowed_81 rfl ?_
                refine q_getP C fl_RX10_48 rfl s1 dX10_isAllowed_82 ?_
                refine q_iload_n C dX10_isAllowed_85 rfl ?_
                have s91 := h.1
                replace h := h.2
                have s92 := h.1
                replace h := h.2
                refine q_zald C s91 s92 dX10_isAllowed_86 ?_
                refine q_if_eq (tgt := 104) C dX10_isAllowed_87 (by decide) (fun c93 => ?_) (fun c93 => ?_)
                · replace h := h.1 c93
                  refine q_iconst (v := 0) C dX10_isAllowed_104 (by decide) ?_
                  exact q_zret C hk (Or.inl rfl) dX10_isAllowed_105 ⟨rfl, h⟩
                · replace h := h.2 c93
                  refine q_aload_n C dX10_isAllowed_90 rfl ?_
                  refine q_iload_n C dX10_isAllowed_91 rfl ?_
                  refine q_iload_n C dX10_isAllowed_92 rfl ?_
                  refine q_iload_n C dX10_isAllowed_93 rfl ?_
                  refine q_cVi (as := [.int x1, .int x2, .int x3]) (st := []) (r := a0) C mv_X10_isSeated ml_RX10_180 dX10_isAllowed_94 rfl s1 rfl (Nat.le_of_ble_eq_true rfl) ⟨Nat.le_refl _, Nat.le_refl _⟩ h (fun r94 I95 L96 P97 h => ?_)
                  refine q_if_eq (tgt := 104) C dX10_isAllowed_97 (by decide) (fun c98 => ?_) (fun c98 => ?_)
                  · replace h := h.1 c98
                    refine q_iconst (v := 0) C dX10_isAllowed_104 (by decide) ?_
                    exact q_zret C hk (Or.inl rfl) dX10_isAllowed_105 ⟨rfl, h⟩
                  · replace h := h.2 c98
                    refine q_iconst (v := 1) C dX10_isAllowed_100 (by decide) ?_
                    refine q_goto (tgt := 105) C dX10_isAllowed_101 (by decide) ?_
                    exact q_zret C hk (Or.inr rfl) dX10_isAllowed_105 ⟨rfl, h⟩
            · replace h := h.2 c83
              refine q_aload_n C dX10_isAllowed_62 rfl ?_
              refine q_getP C fl_RX10_44 rfl s1 dX10_isAllowed_63 ?_
              refine q_iload_n C dX10_isAllowed_66 rfl ?_
              have s99 := h.1
              replace h := h.2
              have s100 := h.1
              replace h := h.2
              refine q_zald C s99 s100 dX10_isAllowed_67 ?_
              refine q_if_eq (tgt := 104) C dX10_isAllowed_68 (by decide) (fun c101 => ?_) (fun c101 => ?_)
              · replace h := h.1 c101
                refine q_iconst (v := 0) C dX10_isAllowed_104 (by decide) ?_
                exact q_zret C hk (Or.inl rfl) dX10_isAllowed_105 ⟨rfl, h⟩
              · replace h := h.2 c101
                refine q_iload_n C dX10_isAllowed_71 rfl ?_
                refine q_aload_n C dX10_isAllowed_72 rfl ?_
                refine q_getP C fl_RX10_9 rfl s1 dX10_isAllowed_73 ?_
                refine q_iconst (v := 2) C dX10_isAllowed_76 (by decide) ?_
                have s102 := h.1
                replace h := h.2
                refine q_iald C s81 s102 dX10_isAllowed_77 ?_
                refine q_icmp_gt (tgt := 90) C dX10_isAllowed_78 (by decide) (fun c103 => ?_) (fun c103 => ?_)
                · replace h := h.1 c103
                  refine q_aload_n C dX10_isAllowed_90 rfl ?_
                  refine q_iload_n C dX10_isAllowed_91 rfl ?_
                  refine q_iload_n C dX10_isAllowed_92 rfl ?_
                  refine q_iload_n C dX10_isAllowed_93 rfl ?_
                  refine q_cVi (as := [.int x1, .int x2, .int x3]) (st := []) (r := a0) C mv_X10_isSeated ml_RX10_180 dX10_isAllowed_94 rfl s1 rfl (Nat.le_of_ble_eq_true rfl) ⟨Nat.le_refl _, Nat.le_refl _⟩ h (fun r104 I105 L106 P107 h => ?_)
                  refine q_if_eq (tgt := 104) C dX10_isAllowed_97 (by decide) (fun c108 => ?_) (fun c108 => ?_)
                  · replace h := h.1 c108
                    refine q_iconst (v := 0) C dX10_isAllowed_104 (by decide) ?_
                    exact q_zret C hk (Or.inl rfl) dX10_isAllowed_105 ⟨rfl, h⟩
                  · replace h := h.2 c108
                    refine q_iconst (v := 1) C dX10_isAllowed_100 (by decide) ?_
                    refine q_goto (tgt := 105) C dX10_isAllowed_101 (by decide) ?_
                    exact q_zret C hk (Or.inr rfl) dX10_isAllowed_105 ⟨rfl, h⟩
                · replace h := h.2 c103
                  refine q_aload_n C dX10_isAllowed_81 rfl ?_
                  refine q_getP C fl_RX10_48 rfl s1 dX10_isAllowed_82 ?_
                  refine q_iload_n C dX10_isAllowed_85 rfl ?_
                  have s109 := h.1
                  replace h := h.2
                  have s110 := h.1
                  replace h := h.2
                  refine q_zald C s109 s110 dX10_isAllowed_86 ?_
                  refine q_if_eq (tgt := 104) C dX10_isAllowed_87 (by decide) (fun c111 => ?_) (fun c111 => ?_)
                  · replace h := h.1 c111
                    refine q_iconst (v := 0) C dX10_isAllowed_104 (by decide) ?_
                    exact q_zret C hk (Or.inl rfl) dX10_isAllowed_105 ⟨rfl, h⟩
                  · replace h := h.2 c111
                    refine q_aload_n C dX10_isAllowed_90 rfl ?_
                    refine q_iload_n C dX10_isAllowed_91 rfl ?_
                    refine q_iload_n C dX10_isAllowed_92 rfl ?_
                    refine q_iload_n C dX10_isAllowed_93 rfl ?_
                    refine q_cVi (as := [.int x1, .int x2, .int x3]) (st := []) (r := a0) C mv_X10_isSeated ml_RX10_180 dX10_isAllowed_94 rfl s1 rfl (Nat.le_of_ble_eq_true rfl) ⟨Nat.le_refl _, Nat.le_refl _⟩ h (fun r112 I113 L114 P115 h => ?_)
                    refine q_if_eq (tgt := 104) C dX10_isAllowed_97 (by decide) (fun c116 => ?_) (fun c116 => ?_)
                    · replace h := h.1 c116
                      refine q_iconst (v := 0) C dX10_isAllowed_104 (by decide) ?_
                      exact q_zret C hk (Or.inl rfl) dX10_isAllowed_105 ⟨rfl, h⟩
                    · replace h := h.2 c116
                      refine q_iconst (v := 1) C dX10_isAllowed_100 (by decide) ?_
                      refine q_goto (tgt := 105) C dX10_isAllowed_101 (by decide) ?_
                      exact q_zret C hk (Or.inr rfl) dX10_isAllowed_105 ⟨rfl, h⟩
          · replace h := h.2 c80
            refine q_iconst (v := 0) C dX10_isAllowed_50 (by decide) ?_
            exact q_zret C hk (Or.inl rfl) dX10_isAllowed_51 ⟨rfl, h⟩
    · replace h := h.2 c5
      refine q_aload_n C dX10_isAllowed_17 rfl ?_
      refine q_getP C fl_RX10_51 rfl s1 dX10_isAllowed_18 ?_
      refine q_iload_n C dX10_isAllowed_21 rfl ?_
      refine q_iald C s2 s3 dX10_isAllowed_22 ?_
      refine q_if_eq (tgt := 50) C dX10_isAllowed_23 (by decide) (fun c117 => ?_) (fun c117 => ?_)
      · replace h := h.1 c117
        refine q_iconst (v := 0) C dX10_isAllowed_50 (by decide) ?_
        exact q_zret C hk (Or.inl rfl) dX10_isAllowed_51 ⟨rfl, h⟩
      · replace h := h.2 c117
        refine q_iload_n C dX10_isAllowed_26 rfl ?_
        refine q_iconst (v := 1) C dX10_isAllowed_27 (by decide) ?_
        refine q_icmp_ne (tgt := 52) C dX10_isAllowed_28 (by decide) (fun c118 => ?_) (fun c118 => ?_)
        · replace h := h.1 c118
          refine q_iload_n C dX10_isAllowed_52 rfl ?_
          refine q_aload_n C dX10_isAllowed_53 rfl ?_
          refine q_getP C fl_RX10_9 rfl s1 dX10_isAllowed_54 ?_
          refine q_iconst (v := 1) C dX10_isAllowed_57 (by decide) ?_
          have s119 := h.1
          replace h := h.2
          have s120 := h.1
          replace h := h.2
          refine q_iald C s119 s120 dX10_isAllowed_58 ?_
          refine q_icmp_gt (tgt := 71) C dX10_isAllowed_59 (by decide) (fun c121 => ?_) (fun c121 => ?_)
          · replace h := h.1 c121
            refine q_iload_n C dX10_isAllowed_71 rfl ?_
            refine q_aload_n C dX10_isAllowed_72 rfl ?_
            refine q_getP C fl_RX10_9 rfl s1 dX10_isAllowed_73 ?_
            refine q_iconst (v := 2) C dX10_isAllowed_76 (by decide) ?_
            have s122 := h.1
            replace h := h.2
            refine q_iald C s119 s122 dX10_isAllowed_77 ?_
            refine q_icmp_gt (tgt := 90) C dX10_isAllowed_78 (by decide) (fun c123 => ?_) (fun c123 => ?_)
            · replace h := h.1 c123
              refine q_aload_n C dX10_isAllowed_90 rfl ?_
              refine q_iload_n C dX10_isAllowed_91 rfl ?_
              refine q_iload_n C dX10_isAllowed_92 rfl ?_
              refine q_iload_n C dX10_isAllowed_93 rfl ?_
              refine q_cVi (as := [.int x1, .int x2, .int x3]) (st := []) (r := a0) C mv_X10_isSeated ml_RX10_180 dX10_isAllowed_94 rfl s1 rfl (Nat.le_of_ble_eq_true rfl) ⟨Nat.le_refl _, Nat.le_refl _⟩ h (fun r124 I125 L126 P127 h => ?_)
              refine q_if_eq (tgt := 104) C dX10_isAllowed_97 (by decide) (fun c128 => ?_) (fun c128 => ?_)
              · replace h := h.1 c128
                refine q_iconst (v := 0) C dX10_isAllowed_104 (by decide) ?_
                exact q_zret C hk (Or.inl rfl) dX10_isAllowed_105 ⟨rfl, h⟩
              · replace h := h.2 c128
                refine q_iconst (v := 1) C dX10_isAllowed_100 (by decide) ?_
                refine q_goto (tgt := 105) C dX10_isAllowed_101 (by decide) ?_
                exact q_zret C hk (Or.inr rfl) dX10_isAllowed_105 ⟨rfl, h⟩
            · replace h := h.2 c123
              refine q_aload_n C dX10_isAllowed_81 rfl ?_
              refine q_getP C fl_RX10_48 rfl s1 dX10_isAllowed_82 ?_
              refine q_iload_n C dX10_isAllowed_85 rfl ?_
              have s129 := h.1
              replace h := h.2
              have s130 := h.1
              replace h := h.2
              refine q_zald C s129 s130 dX10_isAllowed_86 ?_
              refine q_if_eq (tgt := 104) C dX10_isAllowed_87 (by decide) (fun c131 => ?_) (fun c131 => ?_)
              · replace h := h.1 c131
                refine q_iconst (v := 0) C dX10_isAllowed_104 (by decide) ?_
                exact q_zret C hk (Or.inl rfl) dX10_isAllowed_105 ⟨rfl, h⟩
              · replace h := h.2 c131
                refine q_aload_n C dX10_isAllowed_90 rfl ?_
                refine q_iload_n C dX10_isAllowed_91 rfl ?_
                refine q_iload_n C dX10_isAllowed_92 rfl ?_
                refine q_iload_n C dX10_isAllowed_93 rfl ?_
                refine q_cVi (as := [.int x1, .int x2, .int x3]) (st := []) (r := a0) C mv_X10_isSeated ml_RX10_180 dX10_isAllowed_94 rfl s1 rfl (Nat.le_of_ble_eq_true rfl) ⟨Nat.le_refl _, Nat.le_refl _⟩ h (fun r132 I133 L134 P135 h => ?_)
                refine q_if_eq (tgt := 104) C dX10_isAllowed_97 (by decide) (fun c136 => ?_) (fun c136 => ?_)
                · replace h := h.1 c136
                  refine q_iconst (v := 0) C dX10_isAllowed_104 (by decide) ?_
                  exact q_zret C hk (Or.inl rfl) dX10_isAllowed_105 ⟨rfl, h⟩
                · replace h := h.2 c136
                  refine q_iconst (v := 1) C dX10_isAllowed_100 (by decide) ?_
                  refine q_goto (tgt := 105) C dX10_isAllowed_101 (by decide) ?_
                  exact q_zret C hk (Or.inr rfl) dX10_isAllowed_105 ⟨rfl, h⟩
          · replace h := h.2 c121
            refine q_aload_n C dX10_isAllowed_62 rfl ?_
            refine q_getP C fl_RX10_44 rfl s1 dX10_isAllowed_63 ?_
            refine q_iload_n C dX10_isAllowed_66 rfl ?_
            have s137 := h.1
            replace h := h.2
            have s138 := h.1
            replace h := h.2
            refine q_zald C s137 s138 dX10_isAllowed_67 ?_
            refine q_if_eq (tgt := 104) C dX10_isAllowed_68 (by decide) (fun c139 => ?_) (fun c139 => ?_)
            · replace h := h.1 c139
              refine q_iconst (v := 0) C dX10_isAllowed_104 (by decide) ?_
              exact q_zret C hk (Or.inl rfl) dX10_isAllowed_105 ⟨rfl, h⟩
            · replace h := h.2 c139
              refine q_iload_n C dX10_isAllowed_71 rfl ?_
              refine q_aload_n C dX10_isAllowed_72 rfl ?_
              refine q_getP C fl_RX10_9 rfl s1 dX10_isAllowed_73 ?_
              refine q_iconst (v := 2) C dX10_isAllowed_76 (by decide) ?_
              have s140 := h.1
              replace h := h.2
              refine q_iald C s119 s140 dX10_isAllowed_77 ?_
              refine q_icmp_gt (tgt := 90) C dX10_isAllowed_78 (by decide) (fun c141 => ?_) (fun c141 => ?_)
              · replace h := h.1 c141
                refine q_aload_n C dX10_isAllowed_90 rfl ?_
                refine q_iload_n C dX10_isAllowed_91 rfl ?_
                refine q_iload_n C dX10_isAllowed_92 rfl ?_
                refine q_iload_n C dX10_isAllowed_93 rfl ?_
                refine q_cVi (as := [.int x1, .int x2, .int x3]) (st := []) (r := a0) C mv_X10_isSeated ml_RX10_180 dX10_isAllowed_94 rfl s1 rfl (Nat.le_of_ble_eq_true rfl) ⟨Nat.le_refl _, Nat.le_refl _⟩ h (fun r142 I143 L144 P145 h => ?_)
                refine q_if_eq (tgt := 104) C dX10_isAllowed_97 (by decide) (fun c146 => ?_) (fun c146 => ?_)
                · replace h := h.1 c146
                  refine q_iconst (v := 0) C dX10_isAllowed_104 (by decide) ?_
                  exact q_zret C hk (Or.inl rfl) dX10_isAllowed_105 ⟨rfl, h⟩
                · replace h := h.2 c146
                  refine q_iconst (v := 1) C dX10_isAllowed_100 (by decide) ?_
                  refine q_goto (tgt := 105) C dX10_isAllowed_101 (by decide) ?_
                  exact q_zret C hk (Or.inr rfl) dX10_isAllowed_105 ⟨rfl, h⟩
              · replace h := h.2 c141
                refine q_aload_n C dX10_isAllowed_81 rfl ?_
                refine q_getP C fl_RX10_48 rfl s1 dX10_isAllowed_82 ?_
                refine q_iload_n C dX10_isAllowed_85 rfl ?_
                have s147 := h.1
                replace h := h.2
                have s148 := h.1
                replace h := h.2
                refine q_zald C s147 s148 dX10_isAllowed_86 ?_
                refine q_if_eq (tgt := 104) C dX10_isAllowed_87 (by decide) (fun c149 => ?_) (fun c149 => ?_)
                · replace h := h.1 c149
                  refine q_iconst (v := 0) C dX10_isAllowed_104 (by decide) ?_
                  exact q_zret C hk (Or.inl rfl) dX10_isAllowed_105 ⟨rfl, h⟩
                · replace h := h.2 c149
                  refine q_aload_n C dX10_isAllowed_90 rfl ?_
                  refine q_iload_n C dX10_isAllowed_91 rfl ?_
                  refine q_iload_n C dX10_isAllowed_92 rfl ?_
                  refine q_iload_n C dX10_isAllowed_93 rfl ?_
                  refine q_cVi (as := [.int x1, .int x2, .int x3]) (st := []) (r := a0) C mv_X10_isSeated ml_RX10_180 dX10_isAllowed_94 rfl s1 rfl (Nat.le_of_ble_eq_true rfl) ⟨Nat.le_refl _, Nat.le_refl _⟩ h (fun r150 I151 L152 P153 h => ?_)
                  refine q_if_eq (tgt := 104) C dX10_isAllowed_97 (by decide) (fun c154 => ?_) (fun c154 => ?_)
                  · replace h := h.1 c154
                    refine q_iconst (v := 0) C dX10_isAllowed_104 (by decide) ?_
                    exact q_zret C hk (Or.inl rfl) dX10_isAllowed_105 ⟨rfl, h⟩
                  · replace h := h.2 c154
                    refine q_iconst (v := 1) C dX10_isAllowed_100 (by decide) ?_
                    refine q_goto (tgt := 105) C dX10_isAllowed_101 (by decide) ?_
                    exact q_zret C hk (Or.inr rfl) dX10_isAllowed_105 ⟨rfl, h⟩
        · replace h := h.2 c118
          refine q_aload_n C dX10_isAllowed_31 rfl ?_
          refine q_getP C fl_RX10_51 rfl s1 dX10_isAllowed_32 ?_
          refine q_iload_n C dX10_isAllowed_35 rfl ?_
          refine q_iald C s2 s3 dX10_isAllowed_36 ?_
          refine q_iconst (v := 2) C dX10_isAllowed_37 (by decide) ?_
          refine q_icmp_ne (tgt := 52) C dX10_isAllowed_38 (by decide) (fun c155 => ?_) (fun c155 => ?_)
          · replace h := h.1 c155
            refine q_iload_n C dX10_isAllowed_52 rfl ?_
            refine q_aload_n C dX10_isAllowed_53 rfl ?_
            refine q_getP C fl_RX10_9 rfl s1 dX10_isAllowed_54 ?_
            refine q_iconst (v := 1) C dX10_isAllowed_57 (by decide) ?_
            have s156 := h.1
            replace h := h.2
            have s157 := h.1
            replace h := h.2
            refine q_iald C s156 s157 dX10_isAllowed_58 ?_
            refine q_icmp_gt (tgt := 71) C dX10_isAllowed_59 (by decide) (fun c158 => ?_) (fun c158 => ?_)
            · replace h := h.1 c158
              refine q_iload_n C dX10_isAllowed_71 rfl ?_
              refine q_aload_n C dX10_isAllowed_72 rfl ?_
              refine q_getP C fl_RX10_9 rfl s1 dX10_isAllowed_73 ?_
              refine q_iconst (v := 2) C dX10_isAllowed_76 (by decide) ?_
              have s159 := h.1
              replace h := h.2
              refine q_iald C s156 s159 dX10_isAllowed_77 ?_
              refine q_icmp_gt (tgt := 90) C dX10_isAllowed_78 (by decide) (fun c160 => ?_) (fun c160 => ?_)
              · replace h := h.1 c160
                refine q_aload_n C dX10_isAllowed_90 rfl ?_
                refine q_iload_n C dX10_isAllowed_91 rfl ?_
                refine q_iload_n C dX10_isAllowed_92 rfl ?_
                refine q_iload_n C dX10_isAllowed_93 rfl ?_
                refine q_cVi (as := [.int x1, .int x2, .int x3]) (st := []) (r := a0) C mv_X10_isSeated ml_RX10_180 dX10_isAllowed_94 rfl s1 rfl (Nat.le_of_ble_eq_true rfl) ⟨Nat.le_refl _, Nat.le_refl _⟩ h (fun r161 I162 L163 P164 h => ?_)
                refine q_if_eq (tgt := 104) C dX10_isAllowed_97 (by decide) (fun c165 => ?_) (fun c165 => ?_)
                · replace h := h.1 c165
                  refine q_iconst (v := 0) C dX10_isAllowed_104 (by decide) ?_
                  exact q_zret C hk (Or.inl rfl) dX10_isAllowed_105 ⟨rfl, h⟩
                · replace h := h.2 c165
                  refine q_iconst (v := 1) C dX10_isAllowed_100 (by decide) ?_
                  refine q_goto (tgt := 105) C dX10_isAllowed_101 (by decide) ?_
                  exact q_zret C hk (Or.inr rfl) dX10_isAllowed_105 ⟨rfl, h⟩
              · replace h := h.2 c160
                refine q_aload_n C dX10_isAllowed_81 rfl ?_
                refine q_getP C fl_RX10_48 rfl s1 dX10_isAllowed_82 ?_
                refine q_iload_n C dX10_isAllowed_85 rfl ?_
                have s166 := h.1
                replace h := h.2
                have s167 := h.1
                replace h := h.2
                refine q_zald C s166 s167 dX10_isAllowed_86 ?_
                refine q_if_eq (tgt := 104) C dX10_isAllowed_87 (by decide) (fun c168 => ?_) (fun c168 => ?_)
                · replace h := h.1 c168
                  refine q_iconst (v := 0) C dX10_isAllowed_104 (by decide) ?_
                  exact q_zret C hk (Or.inl rfl) dX10_isAllowed_105 ⟨rfl, h⟩
                · replace h := h.2 c168
                  refine q_aload_n C dX10_isAllowed_90 rfl ?_
                  refine q_iload_n C dX10_isAllowed_91 rfl ?_
                  refine q_iload_n C dX10_isAllowed_92 rfl ?_
                  refine q_iload_n C dX10_isAllowed_93 rfl ?_
                  refine q_cVi (as := [.int x1, .int x2, .int x3]) (st := []) (r := a0) C mv_X10_isSeated ml_RX10_180 dX10_isAllowed_94 rfl s1 rfl (Nat.le_of_ble_eq_true rfl) ⟨Nat.le_refl _, Nat.le_refl _⟩ h (fun r169 I170 L171 P172 h => ?_)
                  refine q_if_eq (tgt := 104) C dX10_isAllowed_97 (by decide) (fun c173 => ?_) (fun c173 => ?_)
                  · replace h := h.1 c173
                    refine q_iconst (v := 0) C dX10_isAllowed_104 (by decide) ?_
                    exact q_zret C hk (Or.inl rfl) dX10_isAllowed_105 ⟨rfl, h⟩
                  · replace h := h.2 c173
                    refine q_iconst (v := 1) C dX10_isAllowed_100 (by decide) ?_
                    refine q_goto (tgt := 105) C dX10_isAllowed_101 (by decide) ?_
                    exact q_zret C hk (Or.inr rfl) dX10_isAllowed_105 ⟨rfl, h⟩
            · replace h := h.2 c158
              refine q_aload_n C dX10_isAllowed_62 rfl ?_
              refine q_getP C fl_RX10_44 rfl s1 dX10_isAllowed_63 ?_
              refine q_iload_n C dX10_isAllowed_66 rfl ?_
              have s174 := h.1
              replace h := h.2
              have s175 := h.1
              replace h := h.2
              refine q_zald C s174 s175 dX10_isAllowed_67 ?_
              refine q_if_eq (tgt := 104) C dX10_isAllowed_68 (by decide) (fun c176 => ?_) (fun c176 => ?_)
              · replace h := h.1 c176
                refine q_iconst (v := 0) C dX10_isAllowed_104 (by decide) ?_
                exact q_zret C hk (Or.inl rfl) dX10_isAllowed_105 ⟨rfl, h⟩
              · replace h := h.2 c176
                refine q_iload_n C dX10_isAllowed_71 rfl ?_
                refine q_aload_n C dX10_isAllowed_72 rfl ?_
                refine q_getP C fl_RX10_9 rfl s1 dX10_isAllowed_73 ?_
                refine q_iconst (v := 2) C dX10_isAllowed_76 (by decide) ?_
                have s177 := h.1
                replace h := h.2
                refine q_iald C s156 s177 dX10_isAllowed_77 ?_
                refine q_icmp_gt (tgt := 90) C dX10_isAllowed_78 (by decide) (fun c178 => ?_) (fun c178 => ?_)
                · replace h := h.1 c178
                  refine q_aload_n C dX10_isAllowed_90 rfl ?_
                  refine q_iload_n C dX10_isAllowed_91 rfl ?_
                  refine q_iload_n C dX10_isAllowed_92 rfl ?_
                  refine q_iload_n C dX10_isAllowed_93 rfl ?_
                  refine q_cVi (as := [.int x1, .int x2, .int x3]) (st := []) (r := a0) C mv_X10_isSeated ml_RX10_180 dX10_isAllowed_94 rfl s1 rfl (Nat.le_of_ble_eq_true rfl) ⟨Nat.le_refl _, Nat.le_refl _⟩ h (fun r179 I180 L181 P182 h => ?_)
                  refine q_if_eq (tgt := 104) C dX10_isAllowed_97 (by decide) (fun c183 => ?_) (fun c183 => ?_)
                  · replace h := h.1 c183
                    refine q_iconst (v := 0) C dX10_isAllowed_104 (by decide) ?_
                    exact q_zret C hk (Or.inl rfl) dX10_isAllowed_105 ⟨rfl, h⟩
                  · replace h := h.2 c183
                    refine q_iconst (v := 1) C dX10_isAllowed_100 (by decide) ?_
                    refine q_goto (tgt := 105) C dX10_isAllowed_101 (by decide) ?_
                    exact q_zret C hk (Or.inr rfl) dX10_isAllowed_105 ⟨rfl, h⟩
                · replace h := h.2 c178
                  refine q_aload_n C dX10_isAllowed_81 rfl ?_
                  refine q_getP C fl_RX10_48 rfl s1 dX10_isAllowed_82 ?_
                  refine q_iload_n C dX10_isAllowed_85 rfl ?_
                  have s184 := h.1
                  replace h := h.2
                  have s185 := h.1
                  replace h := h.2
                  refine q_zald C s184 s185 dX10_isAllowed_86 ?_
                  refine q_if_eq (tgt := 104) C dX10_isAllowed_87 (by decide) (fun c186 => ?_) (fun c186 => ?_)
                  · replace h := h.1 c186
                    refine q_iconst (v := 0) C dX10_isAllowed_104 (by decide) ?_
                    exact q_zret C hk (Or.inl rfl) dX10_isAllowed_105 ⟨rfl, h⟩
                  · replace h := h.2 c186
                    refine q_aload_n C dX10_isAllowed_90 rfl ?_
                    refine q_iload_n C dX10_isAllowed_91 rfl ?_
                    refine q_iload_n C dX10_isAllowed_92 rfl ?_
                    refine q_iload_n C dX10_isAllowed_93 rfl ?_
                    refine q_cVi (as := [.int x1, .int x2, .int x3]) (st := []) (r := a0) C mv_X10_isSeated ml_RX10_180 dX10_isAllowed_94 rfl s1 rfl (Nat.le_of_ble_eq_true rfl) ⟨Nat.le_refl _, Nat.le_refl _⟩ h (fun r187 I188 L189 P190 h => ?_)
                    refine q_if_eq (tgt := 104) C dX10_isAllowed_97 (by decide) (fun c191 => ?_) (fun c191 => ?_)
                    · replace h := h.1 c191
                      refine q_iconst (v := 0) C dX10_isAllowed_104 (by decide) ?_
                      exact q_zret C hk (Or.inl rfl) dX10_isAllowed_105 ⟨rfl, h⟩
                    · replace h := h.2 c191
                      refine q_iconst (v := 1) C dX10_isAllowed_100 (by decide) ?_
                      refine q_goto (tgt := 105) C dX10_isAllowed_101 (by decide) ?_
                      exact q_zret C hk (Or.inr rfl) dX10_isAllowed_105 ⟨rfl, h⟩
          · replace h := h.2 c155
            refine q_iload_n C dX10_isAllowed_41 rfl ?_
            refine q_aload_n C dX10_isAllowed_42 rfl ?_
            refine q_getI C fl_RX10_171 rfl s1 dX10_isAllowed_43 ?_
            refine q_iand C dX10_isAllowed_46 ?_
            refine q_if_eq (tgt := 52) C dX10_isAllowed_47 (by decide) (fun c192 => ?_) (fun c192 => ?_)
            · replace h := h.1 c192
              refine q_iload_n C dX10_isAllowed_52 rfl ?_
              refine q_aload_n C dX10_isAllowed_53 rfl ?_
              refine q_getP C fl_RX10_9 rfl s1 dX10_isAllowed_54 ?_
              refine q_iconst (v := 1) C dX10_isAllowed_57 (by decide) ?_
              have s193 := h.1
              replace h := h.2
              have s194 := h.1
              replace h := h.2
              refine q_iald C s193 s194 dX10_isAllowed_58 ?_
              refine q_icmp_gt (tgt := 71) C dX10_isAllowed_59 (by decide) (fun c195 => ?_) (fun c195 => ?_)
              · replace h := h.1 c195
                refine q_iload_n C dX10_isAllowed_71 rfl ?_
                refine q_aload_n C dX10_isAllowed_72 rfl ?_
                refine q_getP C fl_RX10_9 rfl s1 dX10_isAllowed_73 ?_
                refine q_iconst (v := 2) C dX10_isAllowed_76 (by decide) ?_
                have s196 := h.1
                replace h := h.2
                refine q_iald C s193 s196 dX10_isAllowed_77 ?_
                refine q_icmp_gt (tgt := 90) C dX10_isAllowed_78 (by decide) (fun c197 => ?_) (fun c197 => ?_)
                · replace h := h.1 c197
                  refine q_aload_n C dX10_isAllowed_90 rfl ?_
                  refine q_iload_n C dX10_isAllowed_91 rfl ?_
                  refine q_iload_n C dX10_isAllowed_92 rfl ?_
                  refine q_iload_n C dX10_isAllowed_93 rfl ?_
                  refine q_cVi (as := [.int x1, .int x2, .int x3]) (st := []) (r := a0) C mv_X10_isSeated ml_RX10_180 dX10_isAllowed_94 rfl s1 rfl (Nat.le_of_ble_eq_true rfl) ⟨Nat.le_refl _, Nat.le_refl _⟩ h (fun r198 I199 L200 P201 h => ?_)
                  refine q_if_eq (tgt := 104) C dX10_isAllowed_97 (by decide) (fun c202 => ?_) (fun c202 => ?_)
                  · replace h := h.1 c202
                    refine q_iconst (v := 0) C dX10_isAllowed_104 (by decide) ?_
                    exact q_zret C hk (Or.inl rfl) dX10_isAllowed_105 ⟨rfl, h⟩
                  · replace h := h.2 c202
                    refine q_iconst (v := 1) C dX10_isAllowed_100 (by decide) ?_
                    refine q_goto (tgt := 105) C dX10_isAllowed_101 (by decide) ?_
                    exact q_zret C hk (Or.inr rfl) dX10_isAllowed_105 ⟨rfl, h⟩
                · replace h := h.2 c197
                  refine q_aload_n C dX10_isAllowed_81 rfl ?_
                  refine q_getP C fl_RX10_48 rfl s1 dX10_isAllowed_82 ?_
                  refine q_iload_n C dX10_isAllowed_85 rfl ?_
                  have s203 := h.1
                  replace h := h.2
                  have s204 := h.1
                  replace h := h.2
                  refine q_zald C s203 s204 dX10_isAllowed_86 ?_
                  refine q_if_eq (tgt := 104) C dX10_isAllowed_87 (by decide) (fun c205 => ?_) (fun c205 => ?_)
                  · replace h := h.1 c205
                    refine q_iconst (v := 0) C dX10_isAllowed_104 (by decide) ?_
                    exact q_zret C hk (Or.inl rfl) dX10_isAllowed_105 ⟨rfl, h⟩
                  · replace h := h.2 c205
                    refine q_aload_n C dX10_isAllowed_90 rfl ?_
                    refine q_iload_n C dX10_isAllowed_91 rfl ?_
                    refine q_iload_n C dX10_isAllowed_92 rfl ?_
                    refine q_iload_n C dX10_isAllowed_93 rfl ?_
                    refine q_cVi (as := [.int x1, .int x2, .int x3]) (st := []) (r := a0) C mv_X10_isSeated ml_RX10_180 dX10_isAllowed_94 rfl s1 rfl (Nat.le_of_ble_eq_true rfl) ⟨Nat.le_refl _, Nat.le_refl _⟩ h (fun r206 I207 L208 P209 h => ?_)
                    refine q_if_eq (tgt := 104) C dX10_isAllowed_97 (by decide) (fun c210 => ?_) (fun c210 => ?_)
                    · replace h := h.1 c210
                      refine q_iconst (v := 0) C dX10_isAllowed_104 (by decide) ?_
                      exact q_zret C hk (Or.inl rfl) dX10_isAllowed_105 ⟨rfl, h⟩
                    · replace h := h.2 c210
                      refine q_iconst (v := 1) C dX10_isAllowed_100 (by decide) ?_
                      refine q_goto (tgt := 105) C dX10_isAllowed_101 (by decide) ?_
                      exact q_zret C hk (Or.inr rfl) dX10_isAllowed_105 ⟨rfl, h⟩
              · replace h := h.2 c195
                refine q_aload_n C dX10_isAllowed_62 rfl ?_
                refine q_getP C fl_RX10_44 rfl s1 dX10_isAllowed_63 ?_
                refine q_iload_n C dX10_isAllowed_66 rfl ?_
                have s211 := h.1
                replace h := h.2
                have s212 := h.1
                replace h := h.2
                refine q_zald C s211 s212 dX10_isAllowed_67 ?_
                refine q_if_eq (tgt := 104) C dX10_isAllowed_68 (by decide) (fun c213 => ?_) (fun c213 => ?_)
                · replace h := h.1 c213
                  refine q_iconst (v := 0) C dX10_isAllowed_104 (by decide) ?_
                  exact q_zret C hk (Or.inl rfl) dX10_isAllowed_105 ⟨rfl, h⟩
                · replace h := h.2 c213
                  refine q_iload_n C dX10_isAllowed_71 rfl ?_
                  refine q_aload_n C dX10_isAllowed_72 rfl ?_
                  refine q_getP C fl_RX10_9 rfl s1 dX10_isAllowed_73 ?_
                  refine q_iconst (v := 2) C dX10_isAllowed_76 (by decide) ?_
                  have s214 := h.1
                  replace h := h.2
                  refine q_iald C s193 s214 dX10_isAllowed_77 ?_
                  refine q_icmp_gt (tgt := 90) C dX10_isAllowed_78 (by decide) (fun c215 => ?_) (fun c215 => ?_)
                  · replace h := h.1 c215
                    refine q_aload_n C dX10_isAllowed_90 rfl ?_
                    refine q_iload_n C dX10_isAllowed_91 rfl ?_
                    refine q_iload_n C dX10_isAllowed_92 rfl ?_
                    refine q_iload_n C dX10_isAllowed_93 rfl ?_
                    refine q_cVi (as := [.int x1, .int x2, .int x3]) (st := []) (r := a0) C mv_X10_isSeated ml_RX10_180 dX10_isAllowed_94 rfl s1 rfl (Nat.le_of_ble_eq_true rfl) ⟨Nat.le_refl _, Nat.le_refl _⟩ h (fun r216 I217 L218 P219 h => ?_)
                    refine q_if_eq (tgt := 104) C dX10_isAllowed_97 (by decide) (fun c220 => ?_) (fun c220 => ?_)
                    · replace h := h.1 c220
                      refine q_iconst (v := 0) C dX10_isAllowed_104 (by decide) ?_
                      exact q_zret C hk (Or.inl rfl) dX10_isAllowed_105 ⟨rfl, h⟩
                    · replace h := h.2 c220
                      refine q_iconst (v := 1) C dX10_isAllowed_100 (by decide) ?_
                      refine q_goto (tgt := 105) C dX10_isAllowed_101 (by decide) ?_
                      exact q_zret C hk (Or.inr rfl) dX10_isAllowed_105 ⟨rfl, h⟩
                  · replace h := h.2 c215
                    refine q_aload_n C dX10_isAllowed_81 rfl ?_
                    refine q_getP C fl_RX10_48 rfl s1 dX10_isAllowed_82 ?_
                    refine q_iload_n C dX10_isAllowed_85 rfl ?_
                    have s221 := h.1
                    replace h := h.2
                    have s222 := h.1
                    replace h := h.2
                    refine q_zald C s221 s222 dX10_isAllowed_86 ?_
                    refine q_if_eq (tgt := 104) C dX10_isAllowed_87 (by decide) (fun c223 => ?_) (fun c223 => ?_)
                    · replace h := h.1 c223
                      refine q_iconst (v := 0) C dX10_isAllowed_104 (by decide) ?_
                      exact q_zret C hk (Or.inl rfl) dX10_isAllowed_105 ⟨rfl, h⟩
                    · replace h := h.2 c223
                      refine q_aload_n C dX10_isAllowed_90 rfl ?_
                      refine q_iload_n C dX10_isAllowed_91 rfl ?_
                      refine q_iload_n C dX10_isAllowed_92 rfl ?_
                      refine q_iload_n C dX10_isAllowed_93 rfl ?_
                      refine q_cVi (as := [.int x1, .int x2, .int x3]) (st := []) (r := a0) C mv_X10_isSeated ml_RX10_180 dX10_isAllowed_94 rfl s1 rfl (Nat.le_of_ble_eq_true rfl) ⟨Nat.le_refl _, Nat.le_refl _⟩ h (fun r224 I225 L226 P227 h => ?_)
                      refine q_if_eq (tgt := 104) C dX10_isAllowed_97 (by decide) (fun c228 => ?_) (fun c228 => ?_)
                      · replace h := h.1 c228
                        refine q_iconst (v := 0) C dX10_isAllowed_104 (by decide) ?_
                        exact q_zret C hk (Or.inl rfl) dX10_isAllowed_105 ⟨rfl, h⟩
                      · replace h := h.2 c228
                        refine q_iconst (v := 1) C dX10_isAllowed_100 (by decide) ?_
                        refine q_goto (tgt := 105) C dX10_isAllowed_101 (by decide) ?_
                        exact q_zret C hk (Or.inr rfl) dX10_isAllowed_105 ⟨rfl, h⟩
            · replace h := h.2 c192
              refine q_iconst (v := 0) C dX10_isAllowed_50 (by decide) ?_
              exact q_zret C hk (Or.inl rfl) dX10_isAllowed_51 ⟨rfl, h⟩
theorem sp_X10_isAllowed {d : Nat} {sh : List qSh} {K : Option Value → qMI → qML → qMP → Prop} {a0 : Nat} {x1 : Int32} {x2 : Int32} {x3 : Int32} {I : qMI} {L : qML} {P : qMP} (h0 : vc_X10_isAllowed_0 d sh K a0 x1 x2 x3 I L P) : Sq (d + 1) mX10_isAllowed sh [.ref a0, .int x1, .int x2, .int x3] I L P K := by
  refine Sq_of (by decide +kernel) (Nat.le_of_ble_eq_true rfl) (fun X C hk hn => ?_)
  exact rg_X10_isAllowed_0 C hk h0
/-! BracketDrawsModel.isMore(III)Z -/
def vc_X10_isMore_0 (d : Nat) (sh : List qSh) (K : Option Value → qMI → qML → qMP → Prop) (a0 : Nat) (x1 : Int32) (x2 : Int32) (x3 : Int32) (I : qMI) (L : qML) (P : qMP) : Prop :=
  ((shp sh a0).1 = 10) ∧ ((((I a0 23) < 0) → (((¬ x1 = (I a0 25)) → (K (some (.int 1)) I L P)) ∧ ((x1 = (I a0 25)) → (((shp sh (P a0 20)).1 = 20) ∧ ((vp_in (x3 &&& (I a0 24)) (shp sh (P a0 20)).2) ∧ (((2 ≤ (I (P a0 20) (Int32.toNatClampNeg (x3 &&& (I a0 24))))) → (K (some (.int 0)) I L P)) ∧ ((¬ 2 ≤ (I (P a0 20) (Int32.toNatClampNeg (x3 &&& (I a0 24))))) → (K (some (.int 1)) I L P)))))))) ∧ ((¬ (I a0 23) < 0) → (((0 < x1) → (K (some (.int 1)) I L P)) ∧ ((¬ 0 < x1) → (((¬ x2 = (I a0 23)) → (K (some (.int 1)) I L P)) ∧ ((x2 = (I a0 23)) → (((¬ x3 = (I a0 24)) → (K (some (.int 0)) I L P)) ∧ ((x3 = (I a0 24)) → (K (some (.int 1)) I L P)))))))))
set_option maxRecDepth 100000 in
set_option maxHeartbeats 4000000 in
theorem rg_X10_isMore_0 {X : qCT} {d : Nat} {sh : List qSh} {K : Option Value → qMI → qML → qMP → Prop} {a0 : Nat} {x1 : Int32} {x2 : Int32} {x3 : Int32} {I : qMI} {L : qML} {P : qMP} (C : qCB X RX10 cX10_isMore 4 (d + 1) 0 0) (hk : qCK X (some .boolean) 0 0 (fun v sh' I' L' P' => sh' = sh ∧ K v I' L' P')) (h : vc_X10_isMore_0 d sh K a0 x1 x2 x3 I L P) : qG X 0 [some (.ref a0), some (.int x1), some (.int x2), some (.int x3)] [] sh I L P 0 0 := by
  unfold vc_X10_isMore_0 at h
  refine q_aload_n C dX10_isMore_0 rfl ?_
  have s1 := h.1
  replace h := h.2
  refine q_getI C fl_RX10_184 rfl s1 dX10_isMore_1 ?_
  refine q_if_lt (tgt := 33) C dX10_isMore_4 (by decide) (fun c2 => ?_) (fun c2 => ?_)
  · replace h := h.1 c2
    refine q_iload_n C dX10_isMore_33 rfl ?_
    refine q_aload_n C dX10_isMore_34 rfl ?_
    refine q_getI C fl_RX10_190 rfl s1 dX10_isMore_35 ?_
    refine q_icmp_ne (tgt := 56) C dX10_isMore_38 (by decide) (fun c3 => ?_) (fun c3 => ?_)
    · replace h := h.1 c3
      refine q_iconst (v := 1) C dX10_isMore_56 (by decide) ?_
      refine q_goto (tgt := 61) C dX10_isMore_57 (by decide) ?_
      exact q_zret C hk (Or.inr rfl) dX10_isMore_61 ⟨rfl, h⟩
    · replace h := h.2 c3
      refine q_aload_n C dX10_isMore_41 rfl ?_
      refine q_getP C fl_RX10_51 rfl s1 dX10_isMore_42 ?_
      refine q_iload_n C dX10_isMore_45 rfl ?_
      refine q_aload_n C dX10_isMore_46 rfl ?_
      refine q_getI C fl_RX10_187 rfl s1 dX10_isMore_47 ?_
      refine q_iand C dX10_isMore_50 ?_
      have s4 := h.1
      replace h := h.2
      have s5 := h.1
      replace h := h.2
      refine q_iald C s4 s5 dX10_isMore_51 ?_
      refine q_iconst (v := 2) C dX10_isMore_52 (by decide) ?_
      refine q_icmp_ge (tgt := 60) C dX10_isMore_53 (by decide) (fun c6 => ?_) (fun c6 => ?_)
      · replace h := h.1 c6
        refine q_iconst (v := 0) C dX10_isMore_60 (by decide) ?_
        exact q_zret C hk (Or.inl rfl) dX10_isMore_61 ⟨rfl, h⟩
      · replace h := h.2 c6
        refine q_iconst (v := 1) C dX10_isMore_56 (by decide) ?_
        refine q_goto (tgt := 61) C dX10_isMore_57 (by decide) ?_
        exact q_zret C hk (Or.inr rfl) dX10_isMore_61 ⟨rfl, h⟩
  · replace h := h.2 c2
    refine q_iload_n C dX10_isMore_7 rfl ?_
    refine q_if_gt (tgt := 27) C dX10_isMore_8 (by decide) (fun c7 => ?_) (fun c7 => ?_)
    · replace h := h.1 c7
      refine q_iconst (v := 1) C dX10_isMore_27 (by decide) ?_
      refine q_goto (tgt := 32) C dX10_isMore_28 (by decide) ?_
      exact q_zret C hk (Or.inr rfl) dX10_isMore_32 ⟨rfl, h⟩
    · replace h := h.2 c7
      refine q_iload_n C dX10_isMore_11 rfl ?_
      refine q_aload_n C dX10_isMore_12 rfl ?_
      refine q_getI C fl_RX10_184 rfl s1 dX10_isMore_13 ?_
      refine q_icmp_ne (tgt := 27) C dX10_isMore_16 (by decide) (fun c8 => ?_) (fun c8 => ?_)
      · replace h := h.1 c8
        refine q_iconst (v := 1) C dX10_isMore_27 (by decide) ?_
        refine q_goto (tgt := 32) C dX10_isMore_28 (by decide) ?_
        exact q_zret C hk (Or.inr rfl) dX10_isMore_32 ⟨rfl, h⟩
      · replace h := h.2 c8
        refine q_iload_n C dX10_isMore_19 rfl ?_
        refine q_aload_n C dX10_isMore_20 rfl ?_
        refine q_getI C fl_RX10_187 rfl s1 dX10_isMore_21 ?_
        refine q_icmp_ne (tgt := 31) C dX10_isMore_24 (by decide) (fun c9 => ?_) (fun c9 => ?_)
        · replace h := h.1 c9
          refine q_iconst (v := 0) C dX10_isMore_31 (by decide) ?_
          exact q_zret C hk (Or.inl rfl) dX10_isMore_32 ⟨rfl, h⟩
        · replace h := h.2 c9
          refine q_iconst (v := 1) C dX10_isMore_27 (by decide) ?_
          refine q_goto (tgt := 32) C dX10_isMore_28 (by decide) ?_
          exact q_zret C hk (Or.inr rfl) dX10_isMore_32 ⟨rfl, h⟩
theorem sp_X10_isMore {d : Nat} {sh : List qSh} {K : Option Value → qMI → qML → qMP → Prop} {a0 : Nat} {x1 : Int32} {x2 : Int32} {x3 : Int32} {I : qMI} {L : qML} {P : qMP} (h0 : vc_X10_isMore_0 d sh K a0 x1 x2 x3 I L P) : Sq (d + 1) mX10_isMore sh [.ref a0, .int x1, .int x2, .int x3] I L P K := by
  refine Sq_of (by decide +kernel) (Nat.le_of_ble_eq_true rfl) (fun X C hk hn => ?_)
  exact rg_X10_isMore_0 C hk h0
/-! BracketDrawsModel.sumOf([JIII)J -/
def vc_X10_sumOf_0 (d : Nat) (sh : List qSh) (K : Option Value → qMI → qML → qMP → Prop) (T1 : Int32 → Int32 → Int64 → Int32 → qMI → qML → qMP → Prop) (a0 : Nat) (a1 : Nat) (x2 : Int32) (x3 : Int32) (x4 : Int32) (I : qMI) (L : qML) (P : qMP) : Prop :=
  Sq d mX10_blockAt sh [.int (x2 - 1), .int (2 * x3)] I L P (KI fun r1 I2 L3 P4 => Sq d mX10_blockAt sh [.int (x2 - 1), .int ((2 * x3) + 1)] I2 L3 P4 (KI fun r5 I6 L7 P8 => ((shp sh a1).1 = 21) ∧ ((vp_in r1 (shp sh a1).2) ∧ ((vp_in (r5 + x4) (shp sh a1).2) ∧ (T1 r1 r5 ((L7 a1 (Int32.toNatClampNeg r1)) * (L7 a1 (Int32.toNatClampNeg (r5 + x4)))) x4 I6 L7 P8)))))
set_option maxRecDepth 100000 in
set_option maxHeartbeats 4000000 in
theorem rg_X10_sumOf_0 {X : qCT} {d : Nat} {sh : List qSh} {K : Option Value → qMI → qML → qMP → Prop} {T1 : Int32 → Int32 → Int64 → Int32 → qMI → qML → qMP → Prop} {a0 : Nat} {a1 : Nat} {x2 : Int32} {x3 : Int32} {x4 : Int32} {I : qMI} {L : qML} {P : qMP} (C : qCB X RX10 cX10_sumOf 10 (d + 1) 0 0) (hk : qCK X (some .long) 0 0 (fun v sh' I' L' P' => sh' = sh ∧ K v I' L' P')) (hT1 : ∀ (x5 : Int32) (x6 : Int32) (l7 : Int64) (x9 : Int32) (I : qMI) (L : qML) (P : qMP), T1 x5 x6 l7 x9 I L P → qG X 42 [some (.ref a0), some (.ref a1), some (.int x2), some (.int x3), some (.int x4), some (.int x5), some (.int x6), some (.long l7), none, some (.int x9)] [] sh I L P 0 0) (h : vc_X10_sumOf_0 d sh K T1 a0 a1 x2 x3 x4 I L P) : qG X 0 [some (.ref a0), some (.ref a1), some (.int x2), some (.int x3), some (.int x4), none, none, none, none, none] [] sh I L P 0 0 := by
  unfold vc_X10_sumOf_0 at h
  refine q_iload_n C dX10_sumOf_0 rfl ?_
  refine q_iconst (v := 1) C dX10_sumOf_1 (by decide) ?_
  refine q_isub C dX10_sumOf_2 ?_
  refine q_iconst (v := 2) C dX10_sumOf_3 (by decide) ?_
  refine q_iload_n C dX10_sumOf_4 rfl ?_
  refine q_imul C dX10_sumOf_5 ?_
  refine q_cSi (as := [.int (x2 - 1), .int (2 * x3)]) (st := []) C ms_X10_blockAt ml_RX10_193 dX10_sumOf_6 rfl rfl (Nat.le_of_ble_eq_true rfl) ⟨Nat.le_refl _, Nat.le_refl _⟩ h (fun r1 I2 L3 P4 h => ?_)
  refine q_istore (lo1 := [some (.ref a0), some (.ref a1), some (.int x2), some (.int x3), some (.int x4), some (.int r1), none, none, none, none]) C dX10_sumOf_9 (by decide) rfl ?_
  refine q_iload_n C dX10_sumOf_11 rfl ?_
  refine q_iconst (v := 1) C dX10_sumOf_12 (by decide) ?_
  refine q_isub C dX10_sumOf_13 ?_
  refine q_iconst (v := 2) C dX10_sumOf_14 (by decide) ?_
  refine q_iload_n C dX10_sumOf_15 rfl ?_
  refine q_imul C dX10_sumOf_16 ?_
  refine q_iconst (v := 1) C dX10_sumOf_17 (by decide) ?_
  refine q_iadd C dX10_sumOf_18 ?_
  refine q_cSi (as := [.int (x2 - 1), .int ((2 * x3) + 1)]) (st := []) C ms_X10_blockAt ml_RX10_193 dX10_sumOf_19 rfl rfl (Nat.le_of_ble_eq_true rfl) ⟨Nat.le_refl _, Nat.le_refl _⟩ h (fun r5 I6 L7 P8 h => ?_)
  refine q_istore (lo1 := [some (.ref a0), some (.ref a1), some (.int x2), some (.int x3), some (.int x4), some (.int r1), some (.int r5), none, none, none]) C dX10_sumOf_22 (by decide) rfl ?_
  refine q_aload_n C dX10_sumOf_24 rfl ?_
  refine q_iload C dX10_sumOf_25 rfl ?_
  have s9 := h.1
  replace h := h.2
  have s10 := h.1
  replace h := h.2
  refine q_lald C s9 s10 dX10_sumOf_27 ?_
  refine q_aload_n C dX10_sumOf_28 rfl ?_
  refine q_iload C dX10_sumOf_29 rfl ?_
  refine q_iload C dX10_sumOf_31 rfl ?_
  refine q_iadd C dX10_sumOf_33 ?_
  have s11 := h.1
  replace h := h.2
  refine q_lald C s9 s11 dX10_sumOf_34 ?_
  refine q_lmul C dX10_sumOf_35 ?_
  refine q_lstore (lo1 := [some (.ref a0), some (.ref a1), some (.int x2), some (.int x3), some (.int x4), some (.int r1), some (.int r5), some (.long ((L7 a1 (Int32.toNatClampNeg r1)) * (L7 a1 (Int32.toNatClampNeg (r5 + x4))))), none, none]) C dX10_sumOf_36 (by decide) rfl ?_
  refine q_iload C dX10_sumOf_38 rfl ?_
  refine q_istore (lo1 := [some (.ref a0), some (.ref a1), some (.int x2), some (.int x3), some (.int x4), some (.int r1), some (.int r5), some (.long ((L7 a1 (Int32.toNatClampNeg r1)) * (L7 a1 (Int32.toNatClampNeg (r5 + x4))))), none, some (.int x4)]) C dX10_sumOf_40 (by decide) rfl ?_
  exact hT1 _ _ _ _ _ _ _ h
def vc_X10_sumOf_1 (d : Nat) (sh : List qSh) (K : Option Value → qMI → qML → qMP → Prop) (T1 : Int32 → Int32 → Int64 → Int32 → qMI → qML → qMP → Prop) (a0 : Nat) (a1 : Nat) (x2 : Int32) (x3 : Int32) (x4 : Int32) (x5 : Int32) (x6 : Int32) (l7 : Int64) (x9 : Int32) (I : qMI) (L : qML) (P : qMP) : Prop :=
  ((x9 ≤ 0) → (K (some (.long l7)) I L P)) ∧ ((¬ x9 ≤ 0) → (((shp sh a1).1 = 21) ∧ ((vp_in (x5 + x9) (shp sh a1).2) ∧ (((¬ (L a1 (Int32.toNatClampNeg (x5 + x9))) = 0) → ((vp_in (x6 + (x4 &&& (x9 ^^^ ((-1))))) (shp sh a1).2) ∧ (T1 x5 x6 (l7 + ((L a1 (Int32.toNatClampNeg (x5 + x9))) * (L a1 (Int32.toNatClampNeg (x6 + (x4 &&& (x9 ^^^ ((-1))))))))) ((x9 - 1) &&& x4) I L P))) ∧ (((L a1 (Int32.toNatClampNeg (x5 + x9))) = 0) → (T1 x5 x6 (l7 + 0) ((x9 - 1) &&& x4) I L P))))))
set_option maxRecDepth 100000 in
set_option maxHeartbeats 4000000 in
theorem rg_X10_sumOf_1 {X : qCT} {d : Nat} {sh : List qSh} {K : Option Value → qMI → qML → qMP → Prop} {T1 : Int32 → Int32 → Int64 → Int32 → qMI → qML → qMP → Prop} {a0 : Nat} {a1 : Nat} {x2 : Int32} {x3 : Int32} {x4 : Int32} {x5 : Int32} {x6 : Int32} {l7 : Int64} {x9 : Int32} {I : qMI} {L : qML} {P : qMP} (C : qCB X RX10 cX10_sumOf 10 (d + 1) 0 0) (hk : qCK X (some .long) 0 0 (fun v sh' I' L' P' => sh' = sh ∧ K v I' L' P')) (hT1 : ∀ (x5 : Int32) (x6 : Int32) (l7 : Int64) (x9 : Int32) (I : qMI) (L : qML) (P : qMP), T1 x5 x6 l7 x9 I L P → qG X 42 [some (.ref a0), some (.ref a1), some (.int x2), some (.int x3), some (.int x4), some (.int x5), some (.int x6), some (.long l7), none, some (.int x9)] [] sh I L P 0 0) (h : vc_X10_sumOf_1 d sh K T1 a0 a1 x2 x3 x4 x5 x6 l7 x9 I L P) : qG X 42 [some (.ref a0), some (.ref a1), some (.int x2), some (.int x3), some (.int x4), some (.int x5), some (.int x6), some (.long l7), none, some (.int x9)] [] sh I L P 0 0 := by
  unfold vc_X10_sumOf_1 at h
  refine q_iload C dX10_sumOf_42 rfl ?_
  refine q_if_le (tgt := 100) C dX10_sumOf_44 (by decide) (fun c1 => ?_) (fun c1 => ?_)
  · replace h := h.1 c1
    refine q_lload C dX10_sumOf_100 rfl ?_
    exact q_lret C hk dX10_sumOf_102 ⟨rfl, h⟩
  · replace h := h.2 c1
    refine q_lload C dX10_sumOf_47 rfl ?_
    refine q_aload_n C dX10_sumOf_49 rfl ?_
    refine q_iload C dX10_sumOf_50 rfl ?_
    refine q_iload C dX10_sumOf_52 rfl ?_
    refine q_iadd C dX10_sumOf_54 ?_
    have s2 := h.1
    replace h := h.2
    have s3 := h.1
    replace h := h.2
    refine q_lald C s2 s3 dX10_sumOf_55 ?_
    refine q_lconst (v := 0) C dX10_sumOf_56 (by decide) ?_
    refine q_lcmp_ne (tgt := 65) C dX10_sumOf_57 dX10_sumOf_58 (by decide) (fun c4 => ?_) (fun c4 => ?_)
    · replace h := h.1 c4
      refine q_aload_n C dX10_sumOf_65 rfl ?_
      refine q_iload C dX10_sumOf_66 rfl ?_
      refine q_iload C dX10_sumOf_68 rfl ?_
      refine q_iadd C dX10_sumOf_70 ?_
      refine q_lald C s2 s3 dX10_sumOf_71 ?_
      refine q_aload_n C dX10_sumOf_72 rfl ?_
      refine q_iload C dX10_sumOf_73 rfl ?_
      refine q_iload C dX10_sumOf_75 rfl ?_
      refine q_iload C dX10_sumOf_77 rfl ?_
      refine q_iconst (v := (-1)) C dX10_sumOf_79 (by decide) ?_
      refine q_ixor C dX10_sumOf_80 ?_
      refine q_iand C dX10_sumOf_81 ?_
      refine q_iadd C dX10_sumOf_82 ?_
      have s5 := h.1
      replace h := h.2
      refine q_lald C s2 s5 dX10_sumOf_83 ?_
      refine q_lmul C dX10_sumOf_84 ?_
      refine q_ladd C dX10_sumOf_85 ?_
      refine q_lstore (lo1 := [some (.ref a0), some (.ref a1), some (.int x2), some (.int x3), some (.int x4), some (.int x5), some (.int x6), some (.long (l7 + ((L a1 (Int32.toNatClampNeg (x5 + x9))) * (L a1 (Int32.toNatClampNeg (x6 + (x4 &&& (x9 ^^^ ((-1)))))))))), none, some (.int x9)]) C dX10_sumOf_86 (by decide) rfl ?_
      refine q_iload C dX10_sumOf_88 rfl ?_
      refine q_iconst (v := 1) C dX10_sumOf_90 (by decide) ?_
      refine q_isub C dX10_sumOf_91 ?_
      refine q_iload C dX10_sumOf_92 rfl ?_
      refine q_iand C dX10_sumOf_94 ?_
      refine q_istore (lo1 := [some (.ref a0), some (.ref a1), some (.int x2), some (.int x3), some (.int x4), some (.int x5), some (.int x6), some (.long (l7 + ((L a1 (Int32.toNatClampNeg (x5 + x9))) * (L a1 (Int32.toNatClampNeg (x6 + (x4 &&& (x9 ^^^ ((-1)))))))))), none, some (.int ((x9 - 1) &&& x4))]) C dX10_sumOf_95 (by decide) rfl ?_
      refine q_goto (tgt := 42) C dX10_sumOf_97 (by decide) ?_
      exact hT1 _ _ _ _ _ _ _ h
    · replace h := h.2 c4
      refine q_lconst (v := 0) C dX10_sumOf_61 (by decide) ?_
      refine q_goto (tgt := 85) C dX10_sumOf_62 (by decide) ?_
      refine q_ladd C dX10_sumOf_85 ?_
      refine q_lstore (lo1 := [some (.ref a0), some (.ref a1), some (.int x2), some (.int x3), some (.int x4), some (.int x5), some (.int x6), some (.long (l7 + 0)), none, some (.int x9)]) C dX10_sumOf_86 (by decide) rfl ?_
      refine q_iload C dX10_sumOf_88 rfl ?_
      refine q_iconst (v := 1) C dX10_sumOf_90 (by decide) ?_
      refine q_isub C dX10_sumOf_91 ?_
      refine q_iload C dX10_sumOf_92 rfl ?_
      refine q_iand C dX10_sumOf_94 ?_
      refine q_istore (lo1 := [some (.ref a0), some (.ref a1), some (.int x2), some (.int x3), some (.int x4), some (.int x5), some (.int x6), some (.long (l7 + 0)), none, some (.int ((x9 - 1) &&& x4))]) C dX10_sumOf_95 (by decide) rfl ?_
      refine q_goto (tgt := 42) C dX10_sumOf_97 (by decide) ?_
      exact hT1 _ _ _ _ _ _ _ h
theorem sp_X10_sumOf {d : Nat} {sh : List qSh} {K : Option Value → qMI → qML → qMP → Prop} {a0 : Nat} {a1 : Nat} {x2 : Int32} {x3 : Int32} {x4 : Int32} {I : qMI} {L : qML} {P : qMP} (T1 : Int32 → Int32 → Int64 → Int32 → qMI → qML → qMP → Prop) (m1 : Int32 → Int32 → Int64 → Int32 → qMI → qML → qMP → Nat) (h0 : vc_X10_sumOf_0 d sh K T1 a0 a1 x2 x3 x4 I L P)
    (h1 : ∀ (x5 : Int32) (x6 : Int32) (l7 : Int64) (x9 : Int32) (I : qMI) (L : qML) (P : qMP), T1 x5 x6 l7 x9 I L P → vc_X10_sumOf_1 d sh K (fun w0 w1 w2 w3 I' L' P' => T1 w0 w1 w2 w3 I' L' P' ∧ m1 w0 w1 w2 w3 I' L' P' < m1 x5 x6 l7 x9 I L P) a0 a1 x2 x3 x4 x5 x6 l7 x9 I L P) : Sq (d + 1) mX10_sumOf sh [.ref a0, .ref a1, .int x2, .int x3, .int x4] I L P K := by
  refine Sq_of (by decide +kernel) (Nat.le_of_ble_eq_true rfl) (fun X C hk hn => ?_)
  have go : ∀ N : Nat, (∀ (x5 : Int32) (x6 : Int32) (l7 : Int64) (x9 : Int32) (I : qMI) (L : qML) (P : qMP), T1 x5 x6 l7 x9 I L P → m1 x5 x6 l7 x9 I L P < N → qG X 42 [some (.ref a0), some (.ref a1), some (.int x2), some (.int x3), some (.int x4), some (.int x5), some (.int x6), some (.long l7), none, some (.int x9)] [] sh I L P 0 0) := by
    intro N
    induction N with
    | zero => exact fun _ _ _ _ _ _ _ _ q => absurd q (Nat.not_lt_zero _)
    | succ N ih =>
      exact fun b0 b1 b2 b3 I1 L1 P1 t q => rg_X10_sumOf_1 C hk (fun z0 z1 z2 z3 I2 L2 P2 z => ih z0 z1 z2 z3 I2 L2 P2 z.1 (Nat.lt_of_lt_of_le z.2 (Nat.le_of_lt_succ q))) (h1 b0 b1 b2 b3 I1 L1 P1 t)
  exact rg_X10_sumOf_0 C hk (fun b0 b1 b2 b3 I1 L1 P1 t => (go (m1 b0 b1 b2 b3 I1 L1 P1 + 1)) b0 b1 b2 b3 I1 L1 P1 t (Nat.lt_succ_self _)) h0
/-! BracketDrawsModel.reckons([J)J -/
def vc_X10_reckons_0 (d : Nat) (sh : List qSh) (K : Option Value → qMI → qML → qMP → Prop) (T1 : Int32 → Int32 → qMI → qML → qMP → Prop) (T2 : Int32 → Int32 → Int32 → qMI → qML → qMP → Prop) (T3 : Int32 → Int32 → Int32 → Int32 → qMI → qML → qMP → Prop) (a0 : Nat) (a1 : Nat) (I : qMI) (L : qML) (P : qMP) : Prop :=
  ((shp sh a0).1 = 10) ∧ (Sq d mX10_prepares sh [.ref a0] I L P (KV fun I2 L3 P4 => Sq d mX10_lastRound sh [.ref a0] I2 L3 P4 (KI fun r5 I6 L7 P8 => T1 r5 0 I6 L7 P8)))
set_option maxRecDepth 100000 in
set_option maxHeartbeats 4000000 in
theorem rg_X10_reckons_0 {X : qCT} {d : Nat} {sh : List qSh} {K : Option Value → qMI → qML → qMP → Prop} {T1 : Int32 → Int32 → qMI → qML → qMP → Prop} {T2 : Int32 → Int32 → Int32 → qMI → qML → qMP → Prop} {T3 : Int32 → Int32 → Int32 → Int32 → qMI → qML → qMP → Prop} {a0 : Nat} {a1 : Nat} {I : qMI} {L : qML} {P : qMP} (C : qCB X RX10 cX10_reckons 7 (d + 1) 0 0) (hk : qCK X (some .long) 0 0 (fun v sh' I' L' P' => sh' = sh ∧ K v I' L' P')) (hT1 : ∀ (x2 : Int32) (x3 : Int32) (I : qMI) (L : qML) (P : qMP), T1 x2 x3 I L P → qG X 11 [some (.ref a0), some (.ref a1), some (.int x2), some (.int x3), none, none, none] [] sh I L P 0 0) (hT2 : ∀ (x2 : Int32) (x3 : Int32) (x4 : Int32) (I : qMI) (L : qML) (P : qMP), T2 x2 x3 x4 I L P → qG X 19 [some (.ref a0), some (.ref a1), some (.int x2), some (.int x3), some (.int x4), none, none] [] sh I L P 0 0) (hT3 : ∀ (x2 : Int32) (x3 : Int32) (x4 : Int32) (x5 : Int32) (I : qMI) (L : qML) (P : qMP), T3 x2 x3 x4 x5 I L P → qG X 32 [some (.ref a0), some (.ref a1), some (.int x2), some (.int x3), some (.int x4), some (.int x5), none] [] sh I L P 0 0) (h : vc_X10_reckons_0 d sh K T1 T2 T3 a0 a1 I L P) : qG X 0 [some (.ref a0), some (.ref a1), none, none, none, none, none] [] sh I L P 0 0 := by
  unfold vc_X10_reckons_0 at h
  refine q_aload_n C dX10_reckons_0 rfl ?_
  have s1 := h.1
  replace h := h.2
  refine q_cVv (as := []) (st := []) (r := a0) C mv_X10_prepares ml_RX10_197 dX10_reckons_1 rfl s1 rfl (Nat.le_of_ble_eq_true rfl) ⟨Nat.le_refl _, Nat.le_refl _⟩ h (fun I2 L3 P4 h => ?_)
  refine q_aload_n C dX10_reckons_4 rfl ?_
  refine q_cVi (as := []) (st := []) (r := a0) C mv_X10_lastRound ml_RX10_71 dX10_reckons_5 rfl s1 rfl (Nat.le_of_ble_eq_true rfl) ⟨Nat.le_refl _, Nat.le_refl _⟩ h (fun r5 I6 L7 P8 h => ?_)
  refine q_istore_n (lo1 := [some (.ref a0), some (.ref a1), some (.int r5), none, none, none, none]) C dX10_reckons_8 (by decide) rfl ?_
  refine q_iconst (v := 0) C dX10_reckons_9 (by decide) ?_
  refine q_istore_n (lo1 := [some (.ref a0), some (.ref a1), some (.int r5), some (.int 0), none, none, none]) C dX10_reckons_10 (by decide) rfl ?_
  exact hT1 _ _ _ _ _ h
def vc_X10_reckons_1 (d : Nat) (sh : List qSh) (K : Option Value → qMI → qML → qMP → Prop) (T1 : Int32 → Int32 → qMI → qML → qMP → Prop) (T2 : Int32 → Int32 → Int32 → qMI → qML → qMP → Prop) (T3 : Int32 → Int32 → Int32 → Int32 → qMI → qML → qMP → Prop) (a0 : Nat) (a1 : Nat) (x2 : Int32) (x3 : Int32) (I : qMI) (L : qML) (P : qMP) : Prop :=
  ((x2 < x3) → (Sq d mX10_blockAt sh [.int x2, .int 0] I L P (KI fun r2 I3 L4 P5 => ((shp sh a0).1 = 10) ∧ (((shp sh (P5 a0 0)).1 = 20) ∧ ((vp_in 0 (shp sh (P5 a0 0)).2) ∧ (((shp sh a1).1 = 21) ∧ ((vp_in ((r2 + ((1 : Int32) <<< ((I3 (P5 a0 0) (Int32.toNatClampNeg 0)) &&& 31))) - 1) (shp sh a1).2) ∧ (K (some (.long (L4 a1 (Int32.toNatClampNeg ((r2 + ((1 : Int32) <<< ((I3 (P5 a0 0) (Int32.toNatClampNeg 0)) &&& 31))) - 1))))) I3 L4 P5)))))))) ∧ ((¬ x2 < x3) → (T2 x2 x3 0 I L P))
set_option maxRecDepth 100000 in
set_option maxHeartbeats 4000000 in
theorem rg_X10_reckons_1 {X : qCT} {d : Nat} {sh : List qSh} {K : Option Value → qMI → qML → qMP → Prop} {T1 : Int32 → Int32 → qMI → qML → qMP → Prop} {T2 : Int32 → Int32 → Int32 → qMI → qML → qMP → Prop} {T3 : Int32 → Int32 → Int32 → Int32 → qMI → qML → qMP → Prop} {a0 : Nat} {a1 : Nat} {x2 : Int32} {x3 : Int32} {I : qMI} {L : qML} {P : qMP} (C : qCB X RX10 cX10_reckons 7 (d + 1) 0 0) (hk : qCK X (some .long) 0 0 (fun v sh' I' L' P' => sh' = sh ∧ K v I' L' P')) (hT1 : ∀ (x2 : Int32) (x3 : Int32) (I : qMI) (L : qML) (P : qMP), T1 x2 x3 I L P → qG X 11 [some (.ref a0), some (.ref a1), some (.int x2), some (.int x3), none, none, none] [] sh I L P 0 0) (hT2 : ∀ (x2 : Int32) (x3 : Int32) (x4 : Int32) (I : qMI) (L : qML) (P : qMP), T2 x2 x3 x4 I L P → qG X 19 [some (.ref a0), some (.ref a1), some (.int x2), some (.int x3), some (.int x4), none, none] [] sh I L P 0 0) (hT3 : ∀ (x2 : Int32) (x3 : Int32) (x4 : Int32) (x5 : Int32) (I : qMI) (L : qML) (P : qMP), T3 x2 x3 x4 x5 I L P → qG X 32 [some (.ref a0), some (.ref a1), some (.int x2), some (.int x3), some (.int x4), some (.int x5), none] [] sh I L P 0 0) (h : vc_X10_reckons_1 d sh K T1 T2 T3 a0 a1 x2 x3 I L P) : qG X 11 [some (.ref a0), some (.ref a1), some (.int x2), some (.int x3), none, none, none] [] sh I L P 0 0 := by
  unfold vc_X10_reckons_1 at h
  refine q_iload_n C dX10_reckons_11 rfl ?_
  refine q_iload_n C dX10_reckons_12 rfl ?_
  refine q_icmp_gt (tgt := 132) C dX10_reckons_13 (by decide) (fun c1 => ?_) (fun c1 => ?_)
  · replace h := h.1 c1
    refine q_aload_n C dX10_reckons_132 rfl ?_
    refine q_iload_n C dX10_reckons_133 rfl ?_
    refine q_iconst (v := 0) C dX10_reckons_134 (by decide) ?_
    refine q_cSi (as := [.int x2, .int 0]) (st := [.ref a1]) C ms_X10_blockAt ml_RX10_193 dX10_reckons_135 rfl rfl (Nat.le_of_ble_eq_true rfl) ⟨Nat.le_refl _, Nat.le_refl _⟩ h (fun r2 I3 L4 P5 h => ?_)
    refine q_iconst (v := 1) C dX10_reckons_138 (by decide) ?_
    refine q_aload_n C dX10_reckons_139 rfl ?_
    have s6 := h.1
    replace h := h.2
    refine q_getP C fl_RX10_9 rfl s6 dX10_reckons_140 ?_
    refine q_iconst (v := 0) C dX10_reckons_143 (by decide) ?_
    have s7 := h.1
    replace h := h.2
    have s8 := h.1
    replace h := h.2
    refine q_iald C s7 s8 dX10_reckons_144 ?_
    refine q_ishl C dX10_reckons_145 ?_
    refine q_iadd C dX10_reckons_146 ?_
    refine q_iconst (v := 1) C dX10_reckons_147 (by decide) ?_
    refine q_isub C dX10_reckons_148 ?_
    have s9 := h.1
    replace h := h.2
    have s10 := h.1
    replace h := h.2
    refine q_lald C s9 s10 dX10_reckons_149 ?_
    exact q_lret C hk dX10_reckons_150 ⟨rfl, h⟩
  · replace h := h.2 c1
    refine q_iconst (v := 0) C dX10_reckons_16 (by decide) ?_
    refine q_istore (lo1 := [some (.ref a0), some (.ref a1), some (.int x2), some (.int x3), some (.int 0), none, none]) C dX10_reckons_17 (by decide) rfl ?_
    exact hT2 _ _ _ _ _ _ h
def vc_X10_reckons_2 (d : Nat) (sh : List qSh) (K : Option Value → qMI → qML → qMP → Prop) (T1 : Int32 → Int32 → qMI → qML → qMP → Prop) (T2 : Int32 → Int32 → Int32 → qMI → qML → qMP → Prop) (T3 : Int32 → Int32 → Int32 → Int32 → qMI → qML → qMP → Prop) (a0 : Nat) (a1 : Nat) (x2 : Int32) (x3 : Int32) (x4 : Int32) (I : qMI) (L : qML) (P : qMP) : Prop :=
  ((((1 : Int32) <<< ((x2 - x3) &&& 31)) ≤ x4) → (T1 x2 (x3 + 1) I L P)) ∧ ((¬ ((1 : Int32) <<< ((x2 - x3) &&& 31)) ≤ x4) → (T3 x2 x3 x4 0 I L P))
set_option maxRecDepth 100000 in
set_option maxHeartbeats 4000000 in
theorem rg_X10_reckons_2 {X : qCT} {d : Nat} {sh : List qSh} {K : Option Value → qMI → qML → qMP → Prop} {T1 : Int32 → Int32 → qMI → qML → qMP → Prop} {T2 : Int32 → Int32 → Int32 → qMI → qML → qMP → Prop} {T3 : Int32 → Int32 → Int32 → Int32 → qMI → qML → qMP → Prop} {a0 : Nat} {a1 : Nat} {x2 : Int32} {x3 : Int32} {x4 : Int32} {I : qMI} {L : qML} {P : qMP} (C : qCB X RX10 cX10_reckons 7 (d + 1) 0 0) (hk : qCK X (some .long) 0 0 (fun v sh' I' L' P' => sh' = sh ∧ K v I' L' P')) (hT1 : ∀ (x2 : Int32) (x3 : Int32) (I : qMI) (L : qML) (P : qMP), T1 x2 x3 I L P → qG X 11 [some (.ref a0), some (.ref a1), some (.int x2), some (.int x3), none, none, none] [] sh I L P 0 0) (hT2 : ∀ (x2 : Int32) (x3 : Int32) (x4 : Int32) (I : qMI) (L : qML) (P : qMP), T2 x2 x3 x4 I L P → qG X 19 [some (.ref a0), some (.ref a1), some (.int x2), some (.int x3), some (.int x4), none, none] [] sh I L P 0 0) (hT3 : ∀ (x2 : Int32) (x3 : Int32) (x4 : Int32) (x5 : Int32) (I : qMI) (L : qML) (P : qMP), T3 x2 x3 x4 x5 I L P → qG X 32 [some (.ref a0), some (.ref a1), some (.int x2), some (.int x3), some (.int x4), some (.int x5), none] [] sh I L P 0 0) (h : vc_X10_reckons_2 d sh K T1 T2 T3 a0 a1 x2 x3 x4 I L P) : qG X 19 [some (.ref a0), some (.ref a1), some (.int x2), some (.int x3), some (.int x4), none, none] [] sh I L P 0 0 := by
  unfold vc_X10_reckons_2 at h
  refine q_iload C dX10_reckons_19 rfl ?_
  refine q_iconst (v := 1) C dX10_reckons_21 (by decide) ?_
  refine q_iload_n C dX10_reckons_22 rfl ?_
  refine q_iload_n C dX10_reckons_23 rfl ?_
  refine q_isub C dX10_reckons_24 ?_
  refine q_ishl C dX10_reckons_25 ?_
  refine q_icmp_ge (tgt := 126) C dX10_reckons_26 (by decide) (fun c1 => ?_) (fun c1 => ?_)
  · replace h := h.1 c1
    refine q_iinc (w := 1) (lo1 := [some (.ref a0), some (.ref a1), some (.int x2), some (.int (x3 + 1)), some (.int x4), none, none]) C dX10_reckons_126 rfl (by decide) (by decide) rfl ?_
    refine q_goto (tgt := 11) C dX10_reckons_129 (by decide) ?_
    refine q_kill 4 (lo1 := [some (.ref a0), some (.ref a1), some (.int x2), some (.int (x3 + 1)), none, none, none]) rfl ?_
    exact hT1 _ _ _ _ _ h
  · replace h := h.2 c1
    refine q_iconst (v := 0) C dX10_reckons_29 (by decide) ?_
    refine q_istore (lo1 := [some (.ref a0), some (.ref a1), some (.int x2), some (.int x3), some (.int x4), some (.int 0), none]) C dX10_reckons_30 (by decide) rfl ?_
    exact hT3 _ _ _ _ _ _ _ h
def vc_X10_reckons_3 (d : Nat) (sh : List qSh) (K : Option Value → qMI → qML → qMP → Prop) (T1 : Int32 → Int32 → qMI → qML → qMP → Prop) (T2 : Int32 → Int32 → Int32 → qMI → qML → qMP → Prop) (T3 : Int32 → Int32 → Int32 → Int32 → qMI → qML → qMP → Prop) (a0 : Nat) (a1 : Nat) (x2 : Int32) (x3 : Int32) (x4 : Int32) (x5 : Int32) (I : qMI) (L : qML) (P : qMP) : Prop :=
  ((shp sh a0).1 = 10) ∧ (((shp sh (P a0 0)).1 = 20) ∧ ((vp_in 0 (shp sh (P a0 0)).2) ∧ (((((1 : Int32) <<< ((I (P a0 0) (Int32.toNatClampNeg 0)) &&& 31)) ≤ x5) → (T2 x2 x3 (x4 + 1) I L P)) ∧ ((¬ ((1 : Int32) <<< ((I (P a0 0) (Int32.toNatClampNeg 0)) &&& 31)) ≤ x5) → (Sq d mX10_isAllowed sh [.ref a0, .int x3, .int x4, .int x5] I L P (KI fun r5 I6 L7 P8 => ((r5 = 0) → (Sq d mX10_blockAt sh [.int x3, .int x4] I6 L7 P8 (KI fun r10 I11 L12 P13 => ((shp sh a1).1 = 21) ∧ ((vp_in (r10 + x5) (shp sh a1).2) ∧ (∀ L16 : qML, L16 = uL L12 a1 (Int32.toNatClampNeg (r10 + x5)) 0 → (T3 x2 x3 x4 (x5 + 1) I11 L16 P13)))))) ∧ ((¬ r5 = 0) → (Sq d mX10_isMore sh [.ref a0, .int x3, .int x4, .int x5] I6 L7 P8 (KI fun r17 I18 L19 P20 => ((r17 = 0) → (Sq d mX10_blockAt sh [.int x3, .int x4] I18 L19 P20 (KI fun r22 I23 L24 P25 => ((shp sh a1).1 = 21) ∧ ((vp_in (r22 + x5) (shp sh a1).2) ∧ (∀ L28 : qML, L28 = uL L24 a1 (Int32.toNatClampNeg (r22 + x5)) 0 → (T3 x2 x3 x4 (x5 + 1) I23 L28 P25)))))) ∧ ((¬ r17 = 0) → (Sq d mX10_blockAt sh [.int x3, .int x4] I18 L19 P20 (KI fun r29 I30 L31 P32 => ((¬ x3 = 0) → (Sq d mX10_sumOf sh [.ref a0, .ref a1, .int x3, .int x4, .int x5] I30 L31 P32 (KL fun r34 I35 L36 P37 => ((shp sh a1).1 = 21) ∧ ((vp_in (r29 + x5) (shp sh a1).2) ∧ (∀ L40 : qML, L40 = uL L36 a1 (Int32.toNatClampNeg (r29 + x5)) r34 → (T3 x2 x3 x4 (x5 + 1) I35 L40 P37)))))) ∧ ((x3 = 0) → (((shp sh a1).1 = 21) ∧ ((vp_in (r29 + x5) (shp sh a1).2) ∧ (∀ L43 : qML, L43 = uL L31 a1 (Int32.toNatClampNeg (r29 + x5)) 1 → (T3 x2 x3 x4 (x5 + 1) I30 L43 P32)))))))))))))))))
set_option maxRecDepth 100000 in
set_option maxHeartbeats 4000000 in
theorem rg_X10_reckons_3 {X : qCT} {d : Nat} {sh : List qSh} {K : Option Value → qMI → qML → qMP → Prop} {T1 : Int32 → Int32 → qMI → qML → qMP → Prop} {T2 : Int32 → Int32 → Int32 → qMI → qML → qMP → Prop} {T3 : Int32 → Int32 → Int32 → Int32 → qMI → qML → qMP → Prop} {a0 : Nat} {a1 : Nat} {x2 : Int32} {x3 : Int32} {x4 : Int32} {x5 : Int32} {I : qMI} {L : qML} {P : qMP} (C : qCB X RX10 cX10_reckons 7 (d + 1) 0 0) (hk : qCK X (some .long) 0 0 (fun v sh' I' L' P' => sh' = sh ∧ K v I' L' P')) (hT1 : ∀ (x2 : Int32) (x3 : Int32) (I : qMI) (L : qML) (P : qMP), T1 x2 x3 I L P → qG X 11 [some (.ref a0), some (.ref a1), some (.int x2), some (.int x3), none, none, none] [] sh I L P 0 0) (hT2 : ∀ (x2 : Int32) (x3 : Int32) (x4 : Int32) (I : qMI) (L : qML) (P : qMP), T2 x2 x3 x4 I L P → qG X 19 [some (.ref a0), some (.ref a1), some (.int x2), some (.int x3), some (.int x4), none, none] [] sh I L P 0 0) (hT3 : ∀ (x2 : Int32) (x3 : Int32) (x4 : Int32) (x5 : Int32) (I : qMI) (L : qML) (P : qMP), T3 x2 x3 x4 x5 I L P → qG X 32 [some (.ref a0), some (.ref a1), some (.int x2), some (.int x3), some (.int x4), some (.int x5), none] [] sh I L P 0 0) (h : vc_X10_reckons_3 d sh K T1 T2 T3 a0 a1 x2 x3 x4 x5 I L P) : qG X 32 [some (.ref a0), some (.ref a1), some (.int x2), some (.int x3), some (.int x4), some (.int x5), none] [] sh I L P 0 0 := by
  unfold vc_X10_reckons_3 at h
  refine q_iload C dX10_reckons_32 rfl ?_
  refine q_iconst (v := 1) C dX10_reckons_34 (by decide) ?_
  refine q_aload_n C dX10_reckons_35 rfl ?_
  have s1 := h.1
  replace h := h.2
  refine q_getP C fl_RX10_9 rfl s1 dX10_reckons_36 ?_
  refine q_iconst (v := 0) C dX10_reckons_39 (by decide) ?_
  have s2 := h.1
  replace h := h.2
  have s3 := h.1
  replace h := h.2
  refine q_iald C s2 s3 dX10_reckons_40 ?_
  refine q_ishl C dX10_reckons_41 ?_
  refine q_icmp_ge (tgt := 120) C dX10_reckons_42 (by decide) (fun c4 => ?_) (fun c4 => ?_)
  · replace h := h.1 c4
    refine q_iinc (w := 1) (lo1 := [some (.ref a0), some (.ref a1), some (.int x2), some (.int x3), some (.int (x4 + 1)), some (.int x5), none]) C dX10_reckons_120 rfl (by decide) (by decide) rfl ?_
    refine q_goto (tgt := 19) C dX10_reckons_123 (by decide) ?_
    refine q_kill 5 (lo1 := [some (.ref a0), some (.ref a1), some (.int x2), some (.int x3), some (.int (x4 + 1)), none, none]) rfl ?_
    exact hT2 _ _ _ _ _ _ h
  · replace h := h.2 c4
    refine q_aload_n C dX10_reckons_45 rfl ?_
    refine q_iload_n C dX10_reckons_46 rfl ?_
    refine q_iload C dX10_reckons_47 rfl ?_
    refine q_iload C dX10_reckons_49 rfl ?_
    refine q_cVi (as := [.int x3, .int x4, .int x5]) (st := []) (r := a0) C mv_X10_isAllowed ml_RX10_200 dX10_reckons_51 rfl s1 rfl (Nat.le_of_ble_eq_true rfl) ⟨Nat.le_refl _, Nat.le_refl _⟩ h (fun r5 I6 L7 P8 h => ?_)
    refine q_if_eq (tgt := 73) C dX10_reckons_54 (by decide) (fun c9 => ?_) (fun c9 => ?_)
    · replace h := h.1 c9
      refine q_iconst (v := 0) C dX10_reckons_73 (by decide) ?_
      refine q_istore (lo1 := [some (.ref a0), some (.ref a1), some (.int x2), some (.int x3), some (.int x4), some (.int x5), some (.int 0)]) C dX10_reckons_74 (by decide) rfl ?_
      refine q_aload_n C dX10_reckons_76 rfl ?_
      refine q_iload_n C dX10_reckons_77 rfl ?_
      refine q_iload C dX10_reckons_78 rfl ?_
      refine q_cSi (as := [.int x3, .int x4]) (st := [.ref a1]) C ms_X10_blockAt ml_RX10_193 dX10_reckons_80 rfl rfl (Nat.le_of_ble_eq_true rfl) ⟨Nat.le_refl _, Nat.le_refl _⟩ h (fun r10 I11 L12 P13 h => ?_)
      refine q_iload C dX10_reckons_83 rfl ?_
      refine q_iadd C dX10_reckons_85 ?_
      refine q_iload C dX10_reckons_86 rfl ?_
      refine q_if_ne (tgt := 95) C dX10_reckons_88 (by decide) (fun c => absurd c (by decide)) (fun _ => ?_)
      refine q_lconst (v := 0) C dX10_reckons_91 (by decide) ?_
      refine q_goto (tgt := 113) C dX10_reckons_92 (by decide) ?_
      have s14 := h.1
      replace h := h.2
      have s15 := h.1
      replace h := h.2
      refine q_last C s14 s15 dX10_reckons_113 (fun L16 eL16 => ?_)
      replace h := h L16 eL16
      refine q_iinc (w := 1) (lo1 := [some (.ref a0), some (.ref a1), some (.int x2), some (.int x3), some (.int x4), some (.int (x5 + 1)), some (.int 0)]) C dX10_reckons_114 rfl (by decide) (by decide) rfl ?_
      refine q_goto (tgt := 32) C dX10_reckons_117 (by decide) ?_
      refine q_kill 6 (lo1 := [some (.ref a0), some (.ref a1), some (.int x2), some (.int x3), some (.int x4), some (.int (x5 + 1)), none]) rfl ?_
      exact hT3 _ _ _ _ _ _ _ h
    · replace h := h.2 c9
      refine q_aload_n C dX10_reckons_57 rfl ?_
      refine q_iload_n C dX10_reckons_58 rfl ?_
      refine q_iload C dX10_reckons_59 rfl ?_
      refine q_iload C dX10_reckons_61 rfl ?_
      refine q_cVi (as := [.int x3, .int x4, .int x5]) (st := []) (r := a0) C mv_X10_isMore ml_RX10_203 dX10_reckons_63 rfl s1 rfl (Nat.le_of_ble_eq_true rfl) ⟨Nat.le_refl _, Nat.le_refl _⟩ h (fun r17 I18 L19 P20 h => ?_)
      refine q_if_eq (tgt := 73) C dX10_reckons_66 (by decide) (fun c21 => ?_) (fun c21 => ?_)
      · replace h := h.1 c21
        refine q_iconst (v := 0) C dX10_reckons_73 (by decide) ?_
        refine q_istore (lo1 := [some (.ref a0), some (.ref a1), some (.int x2), some (.int x3), some (.int x4), some (.int x5), some (.int 0)]) C dX10_reckons_74 (by decide) rfl ?_
        refine q_aload_n C dX10_reckons_76 rfl ?_
        refine q_iload_n C dX10_reckons_77 rfl ?_
        refine q_iload C dX10_reckons_78 rfl ?_
        refine q_cSi (as := [.int x3, .int x4]) (st := [.ref a1]) C ms_X10_blockAt ml_RX10_193 dX10_reckons_80 rfl rfl (Nat.le_of_ble_eq_true rfl) ⟨Nat.le_refl _, Nat.le_refl _⟩ h (fun r22 I23 L24 P25 h => ?_)
        refine q_iload C dX10_reckons_83 rfl ?_
        refine q_iadd C dX10_reckons_85 ?_
        refine q_iload C dX10_reckons_86 rfl ?_
        refine q_if_ne (tgt := 95) C dX10_reckons_88 (by decide) (fun c => absurd c (by decide)) (fun _ => ?_)
        refine q_lconst (v := 0) C dX10_reckons_91 (by decide) ?_
        refine q_goto (tgt := 113) C dX10_reckons_92 (by decide) ?_
        have s26 := h.1
        replace h := h.2
        have s27 := h.1
        replace h := h.2
        refine q_last C s26 s27 dX10_reckons_113 (fun L28 eL28 => ?_)
        replace h := h L28 eL28
        refine q_iinc (w := 1) (lo1 := [some (.ref a0), some (.ref a1), some (.int x2), some (.int x3), some (.int x4), some (.int (x5 + 1)), some (.int 0)]) C dX10_reckons_114 rfl (by decide) (by decide) rfl ?_
        refine q_goto (tgt := 32) C dX10_reckons_117 (by decide) ?_
        refine q_kill 6 (lo1 := [some (.ref a0), some (.ref a1), some (.int x2), some (.int x3), some (.int x4), some (.int (x5 + 1)), none]) rfl ?_
        exact hT3 _ _ _ _ _ _ _ h
      · replace h := h.2 c21
        refine q_iconst (v := 1) C dX10_reckons_69 (by decide) ?_
        refine q_goto (tgt := 74) C dX10_reckons_70 (by decide) ?_
        refine q_istore (lo1 := [some (.ref a0), some (.ref a1), some (.int x2), some (.int x3), some (.int x4), some (.int x5), some (.int 1)]) C dX10_reckons_74 (by decide) rfl ?_
        refine q_aload_n C dX10_reckons_76 rfl ?_
        refine q_iload_n C dX10_reckons_77 rfl ?_
        refine q_iload C dX10_reckons_78 rfl ?_
        refine q_cSi (as := [.int x3, .int x4]) (st := [.ref a1]) C ms_X10_blockAt ml_RX10_193 dX10_reckons_80 rfl rfl (Nat.le_of_ble_eq_true rfl) ⟨Nat.le_refl _, Nat.le_refl _⟩ h (fun r29 I30 L31 P32 h => ?_)
        refine q_iload C dX10_reckons_83 rfl ?_
        refine q_iadd C dX10_reckons_85 ?_
        refine q_iload C dX10_reckons_86 rfl ?_
        refine q_if_ne (tgt := 95) C dX10_reckons_88 (by decide) (fun _ => ?_) (fun c => absurd c (by decide))
        refine q_iload_n C dX10_reckons_95 rfl ?_
        refine q_if_ne (tgt := 103) C dX10_reckons_96 (by decide) (fun c33 => ?_) (fun c33 => ?_)
        · replace h := h.1 c33
          refine q_aload_n C dX10_reckons_103 rfl ?_
          refine q_aload_n C dX10_reckons_104 rfl ?_
          refine q_iload_n C dX10_reckons_105 rfl ?_
          refine q_iload C dX10_reckons_106 rfl ?_
          refine q_iload C dX10_reckons_108 rfl ?_
          refine q_cVl (as := [.ref a1, .int x3, .int x4, .int x5]) (st := [.int (r29 + x5), .ref a1]) (r := a0) C mv_X10_sumOf ml_RX10_206 dX10_reckons_110 rfl s1 rfl (Nat.le_of_ble_eq_true rfl) ⟨Nat.le_refl _, Nat.le_refl _⟩ h (fun r34 I35 L36 P37 h => ?_)
          have s38 := h.1
          replace h := h.2
          have s39 := h.1
          replace h := h.2
          refine q_last C s38 s39 dX10_reckons_113 (fun L40 eL40 => ?_)
          replace h := h L40 eL40
          refine q_iinc (w := 1) (lo1 := [some (.ref a0), some (.ref a1), some (.int x2), some (.int x3), some (.int x4), some (.int (x5 + 1)), some (.int 1)]) C dX10_reckons_114 rfl (by decide) (by decide) rfl ?_
          refine q_goto (tgt := 32) C dX10_reckons_117 (by decide) ?_
          refine q_kill 6 (lo1 := [some (.ref a0), some (.ref a1), some (.int x2), some (.int x3), some (.int x4), some (.int (x5 + 1)), none]) rfl ?_
          exact hT3 _ _ _ _ _ _ _ h
        · replace h := h.2 c33
          refine q_lconst (v := 1) C dX10_reckons_99 (by decide) ?_
          refine q_goto (tgt := 113) C dX10_reckons_100 (by decide) ?_
          have s41 := h.1
          replace h := h.2
          have s42 := h.1
          replace h := h.2
          refine q_last C s41 s42 dX10_reckons_113 (fun L43 eL43 => ?_)
          replace h := h L43 eL43
          refine q_iinc (w := 1) (lo1 := [some (.ref a0), some (.ref a1), some (.int x2), some (.int x3), some (.int x4), some (.int (x5 + 1)), some (.int 1)]) C dX10_reckons_114 rfl (by decide) (by decide) rfl ?_
          refine q_goto (tgt := 32) C dX10_reckons_117 (by decide) ?_
          refine q_kill 6 (lo1 := [some (.ref a0), some (.ref a1), some (.int x2), some (.int x3), some (.int x4), some (.int (x5 + 1)), none]) rfl ?_
          exact hT3 _ _ _ _ _ _ _ h
theorem sp_X10_reckons {d : Nat} {sh : List qSh} {K : Option Value → qMI → qML → qMP → Prop} {a0 : Nat} {a1 : Nat} {I : qMI} {L : qML} {P : qMP} (T1 : Int32 → Int32 → qMI → qML → qMP → Prop) (m1 : Int32 → Int32 → qMI → qML → qMP → Nat) (T2 : Int32 → Int32 → Int32 → qMI → qML → qMP → Prop) (m2 : Int32 → Int32 → Int32 → qMI → qML → qMP → Nat) (T3 : Int32 → Int32 → Int32 → Int32 → qMI → qML → qMP → Prop) (m3 : Int32 → Int32 → Int32 → Int32 → qMI → qML → qMP → Nat) (h0 : vc_X10_reckons_0 d sh K T1 T2 T3 a0 a1 I L P)
    (h1 : ∀ (x2 : Int32) (x3 : Int32) (I : qMI) (L : qML) (P : qMP), T1 x2 x3 I L P → vc_X10_reckons_1 d sh K (fun w0 w1 I' L' P' => T1 w0 w1 I' L' P' ∧ m1 w0 w1 I' L' P' < m1 x2 x3 I L P) (fun w0 w1 w2 I' L' P' => T2 w0 w1 w2 I' L' P' ∧ m2 w0 w1 w2 I' L' P' < m1 x2 x3 I L P) (fun w0 w1 w2 w3 I' L' P' => T3 w0 w1 w2 w3 I' L' P' ∧ m3 w0 w1 w2 w3 I' L' P' < m1 x2 x3 I L P) a0 a1 x2 x3 I L P)
    (h2 : ∀ (x2 : Int32) (x3 : Int32) (x4 : Int32) (I : qMI) (L : qML) (P : qMP), T2 x2 x3 x4 I L P → vc_X10_reckons_2 d sh K (fun w0 w1 I' L' P' => T1 w0 w1 I' L' P' ∧ m1 w0 w1 I' L' P' < m2 x2 x3 x4 I L P) (fun w0 w1 w2 I' L' P' => T2 w0 w1 w2 I' L' P' ∧ m2 w0 w1 w2 I' L' P' < m2 x2 x3 x4 I L P) (fun w0 w1 w2 w3 I' L' P' => T3 w0 w1 w2 w3 I' L' P' ∧ m3 w0 w1 w2 w3 I' L' P' < m2 x2 x3 x4 I L P) a0 a1 x2 x3 x4 I L P)
    (h3 : ∀ (x2 : Int32) (x3 : Int32) (x4 : Int32) (x5 : Int32) (I : qMI) (L : qML) (P : qMP), T3 x2 x3 x4 x5 I L P → vc_X10_reckons_3 d sh K (fun w0 w1 I' L' P' => T1 w0 w1 I' L' P' ∧ m1 w0 w1 I' L' P' < m3 x2 x3 x4 x5 I L P) (fun w0 w1 w2 I' L' P' => T2 w0 w1 w2 I' L' P' ∧ m2 w0 w1 w2 I' L' P' < m3 x2 x3 x4 x5 I L P) (fun w0 w1 w2 w3 I' L' P' => T3 w0 w1 w2 w3 I' L' P' ∧ m3 w0 w1 w2 w3 I' L' P' < m3 x2 x3 x4 x5 I L P) a0 a1 x2 x3 x4 x5 I L P) : Sq (d + 1) mX10_reckons sh [.ref a0, .ref a1] I L P K := by
  refine Sq_of (by decide +kernel) (Nat.le_of_ble_eq_true rfl) (fun X C hk hn => ?_)
  have go : ∀ N : Nat, (∀ (x2 : Int32) (x3 : Int32) (I : qMI) (L : qML) (P : qMP), T1 x2 x3 I L P → m1 x2 x3 I L P < N → qG X 11 [some (.ref a0), some (.ref a1), some (.int x2), some (.int x3), none, none, none] [] sh I L P 0 0) ∧ (∀ (x2 : Int32) (x3 : Int32) (x4 : Int32) (I : qMI) (L : qML) (P : qMP), T2 x2 x3 x4 I L P → m2 x2 x3 x4 I L P < N → qG X 19 [some (.ref a0), some (.ref a1), some (.int x2), some (.int x3), some (.int x4), none, none] [] sh I L P 0 0) ∧ (∀ (x2 : Int32) (x3 : Int32) (x4 : Int32) (x5 : Int32) (I : qMI) (L : qML) (P : qMP), T3 x2 x3 x4 x5 I L P → m3 x2 x3 x4 x5 I L P < N → qG X 32 [some (.ref a0), some (.ref a1), some (.int x2), some (.int x3), some (.int x4), some (.int x5), none] [] sh I L P 0 0) := by
    intro N
    induction N with
    | zero => exact ⟨fun _ _ _ _ _ _ q => absurd q (Nat.not_lt_zero _), fun _ _ _ _ _ _ _ q => absurd q (Nat.not_lt_zero _), fun _ _ _ _ _ _ _ _ q => absurd q (Nat.not_lt_zero _)⟩
    | succ N ih =>
      exact ⟨fun b0 b1 I1 L1 P1 t q => rg_X10_reckons_1 C hk (fun z0 z1 I2 L2 P2 z => ih.1 z0 z1 I2 L2 P2 z.1 (Nat.lt_of_lt_of_le z.2 (Nat.le_of_lt_succ q))) (fun z0 z1 z2 I2 L2 P2 z => ih.2.1 z0 z1 z2 I2 L2 P2 z.1 (Nat.lt_of_lt_of_le z.2 (Nat.le_of_lt_succ q))) (fun z0 z1 z2 z3 I2 L2 P2 z => ih.2.2 z0 z1 z2 z3 I2 L2 P2 z.1 (Nat.lt_of_lt_of_le z.2 (Nat.le_of_lt_succ q))) (h1 b0 b1 I1 L1 P1 t), fun b0 b1 b2 I1 L1 P1 t q => rg_X10_reckons_2 C hk (fun z0 z1 I2 L2 P2 z => ih.1 z0 z1 I2 L2 P2 z.1 (Nat.lt_of_lt_of_le z.2 (Nat.le_of_lt_succ q))) (fun z0 z1 z2 I2 L2 P2 z => ih.2.1 z0 z1 z2 I2 L2 P2 z.1 (Nat.lt_of_lt_of_le z.2 (Nat.le_of_lt_succ q))) (fun z0 z1 z2 z3 I2 L2 P2 z => ih.2.2 z0 z1 z2 z3 I2 L2 P2 z.1 (Nat.lt_of_lt_of_le z.2 (Nat.le_of_lt_succ q))) (h2 b0 b1 b2 I1 L1 P1 t), fun b0 b1 b2 b3 I1 L1 P1 t q => rg_X10_reckons_3 C hk (fun z0 z1 I2 L2 P2 z => ih.1 z0 z1 I2 L2 P2 z.1 (Nat.lt_of_lt_of_le z.2 (Nat.le_of_lt_succ q))) (fun z0 z1 z2 I2 L2 P2 z => ih.2.1 z0 z1 z2 I2 L2 P2 z.1 (Nat.lt_of_lt_of_le z.2 (Nat.le_of_lt_succ q))) (fun z0 z1 z2 z3 I2 L2 P2 z => ih.2.2 z0 z1 z2 z3 I2 L2 P2 z.1 (Nat.lt_of_lt_of_le z.2 (Nat.le_of_lt_succ q))) (h3 b0 b1 b2 b3 I1 L1 P1 t)⟩
  exact rg_X10_reckons_0 C hk (fun b0 b1 I1 L1 P1 t => (go (m1 b0 b1 I1 L1 P1 + 1)).1 b0 b1 I1 L1 P1 t (Nat.lt_succ_self _)) (fun b0 b1 b2 I1 L1 P1 t => (go (m2 b0 b1 b2 I1 L1 P1 + 1)).2.1 b0 b1 b2 I1 L1 P1 t (Nat.lt_succ_self _)) (fun b0 b1 b2 b3 I1 L1 P1 t => (go (m3 b0 b1 b2 b3 I1 L1 P1 + 1)).2.2 b0 b1 b2 b3 I1 L1 P1 t (Nat.lt_succ_self _)) h0
/-! BracketDrawsModel.all()J -/
def vc_X10_all_0 (d : Nat) (sh : List qSh) (K : Option Value → qMI → qML → qMP → Prop) (a0 : Nat) (I : qMI) (L : qML) (P : qMP) : Prop :=
  ((shp sh a0).1 = 10) ∧ (((¬ (I a0 17) = 0) → (Sq d mX10_lastRound sh [.ref a0] I L P (KI fun r3 I4 L5 P6 => Sq d mX10_blockAt sh [.int r3, .int 0] I4 L5 P6 (KI fun r7 I8 L9 P10 => ((shp sh (P10 a0 0)).1 = 20) ∧ ((vp_in 0 (shp sh (P10 a0 0)).2) ∧ (((shp sh (P a0 15)).1 = 21) ∧ ((vp_in ((r7 + ((1 : Int32) <<< ((I8 (P10 a0 0) (Int32.toNatClampNeg 0)) &&& 31))) - 1) (shp sh (P a0 15)).2) ∧ (K (some (.long (L9 (P a0 15) (Int32.toNatClampNeg ((r7 + ((1 : Int32) <<< ((I8 (P10 a0 0) (Int32.toNatClampNeg 0)) &&& 31))) - 1))))) I8 L9 P10)))))))) ∧ (((I a0 17) = 0) → (∀ I15 : qMI, I15 = uI I a0 23 ((-2)) → (∀ I16 : qMI, I16 = uI I15 a0 24 0 → (∀ I17 : qMI, I17 = uI I16 a0 25 ((-2)) → (Sq d mX10_reckons sh [.ref a0, .ref (P a0 15)] I17 L P (KL fun r18 I19 L20 P21 => ∀ I22 : qMI, I22 = uI I19 a0 17 1 → (Sq d mX10_lastRound sh [.ref a0] I22 L20 P21 (KI fun r23 I24 L25 P26 => Sq d mX10_blockAt sh [.int r23, .int 0] I24 L25 P26 (KI fun r27 I28 L29 P30 => ((shp sh (P30 a0 0)).1 = 20) ∧ ((vp_in 0 (shp sh (P30 a0 0)).2) ∧ (((shp sh (P21 a0 15)).1 = 21) ∧ ((vp_in ((r27 + ((1 : Int32) <<< ((I28 (P30 a0 0) (Int32.toNatClampNeg 0)) &&& 31))) - 1) (shp sh (P21 a0 15)).2) ∧ (K (some (.long (L29 (P21 a0 15) (Int32.toNatClampNeg ((r27 + ((1 : Int32) <<< ((I28 (P30 a0 0) (Int32.toNatClampNeg 0)) &&& 31))) - 1))))) I28 L29 P30))))))))))))))
set_option maxRecDepth 100000 in
set_option maxHeartbeats 4000000 in
theorem rg_X10_all_0 {X : qCT} {d : Nat} {sh : List qSh} {K : Option Value → qMI → qML → qMP → Prop} {a0 : Nat} {I : qMI} {L : qML} {P : qMP} (C : qCB X RX10 cX10_all 1 (d + 1) 0 0) (hk : qCK X (some .long) 0 0 (fun v sh' I' L' P' => sh' = sh ∧ K v I' L' P')) (h : vc_X10_all_0 d sh K a0 I L P) : qG X 0 [some (.ref a0)] [] sh I L P 0 0 := by
  unfold vc_X10_all_0 at h
  refine q_aload_n C dX10_all_0 rfl ?_
  have s1 := h.1
  replace h := h.2
  refine q_getI C fl_RX10_77 rfl s1 dX10_all_1 ?_
  refine q_if_ne (tgt := 38) C dX10_all_4 (by decide) (fun c2 => ?_) (fun c2 => ?_)
  · replace h := h.1 c2
    refine q_aload_n C dX10_all_38 rfl ?_
    refine q_getP C fl_RX10_37 rfl s1 dX10_all_39 ?_
    refine q_aload_n C dX10_all_42 rfl ?_
    refine q_cVi (as := []) (st := [.ref (P a0 15)]) (r := a0) C mv_X10_lastRound ml_RX10_71 dX10_all_43 rfl s1 rfl (Nat.le_of_ble_eq_true rfl) ⟨Nat.le_refl _, Nat.le_refl _⟩ h (fun r3 I4 L5 P6 h => ?_)
    refine q_iconst (v := 0) C dX10_all_46 (by decide) ?_
    refine q_cSi (as := [.int r3, .int 0]) (st := [.ref (P a0 15)]) C ms_X10_blockAt ml_RX10_193 dX10_all_47 rfl rfl (Nat.le_of_ble_eq_true rfl) ⟨Nat.le_refl _, Nat.le_refl _⟩ h (fun r7 I8 L9 P10 h => ?_)
    refine q_iconst (v := 1) C dX10_all_50 (by decide) ?_
    refine q_aload_n C dX10_all_51 rfl ?_
    refine q_getP C fl_RX10_9 rfl s1 dX10_all_52 ?_
    refine q_iconst (v := 0) C dX10_all_55 (by decide) ?_
    have s11 := h.1
    replace h := h.2
    have s12 := h.1
    replace h := h.2
    refine q_iald C s11 s12 dX10_all_56 ?_
    refine q_ishl C dX10_all_57 ?_
    refine q_iadd C dX10_all_58 ?_
    refine q_iconst (v := 1) C dX10_all_59 (by decide) ?_
    refine q_isub C dX10_all_60 ?_
    have s13 := h.1
    replace h := h.2
    have s14 := h.1
    replace h := h.2
    refine q_lald C s13 s14 dX10_all_61 ?_
    exact q_lret C hk dX10_all_62 ⟨rfl, h⟩
  · replace h := h.2 c2
    refine q_aload_n C dX10_all_7 rfl ?_
    refine q_bipush (v := (-2)) C dX10_all_8 (by decide) ?_
    refine q_putI C fl_RX10_184 (fun T hT => by cases hT; rfl) rfl s1 dX10_all_10 (fun I15 eI15 => ?_)
    replace h := h I15 eI15
    refine q_aload_n C dX10_all_13 rfl ?_
    refine q_iconst (v := 0) C dX10_all_14 (by decide) ?_
    refine q_putI C fl_RX10_187 (fun T hT => by cases hT; rfl) rfl s1 dX10_all_15 (fun I16 eI16 => ?_)
    replace h := h I16 eI16
    refine q_aload_n C dX10_all_18 rfl ?_
    refine q_bipush (v := (-2)) C dX10_all_19 (by decide) ?_
    refine q_putI C fl_RX10_190 (fun T hT => by cases hT; rfl) rfl s1 dX10_all_21 (fun I17 eI17 => ?_)
    replace h := h I17 eI17
    refine q_aload_n C dX10_all_24 rfl ?_
    refine q_aload_n C dX10_all_25 rfl ?_
    refine q_getP C fl_RX10_37 rfl s1 dX10_all_26 ?_
    refine q_cVl (as := [.ref (P a0 15)]) (st := []) (r := a0) C mv_X10_reckons ml_RX10_210 dX10_all_29 rfl s1 rfl (Nat.le_of_ble_eq_true rfl) ⟨Nat.le_refl _, Nat.le_refl _⟩ h (fun r18 I19 L20 P21 h => ?_)
    refine q_pop2 C dX10_all_32 ?_
    refine q_aload_n C dX10_all_33 rfl ?_
    refine q_iconst (v := 1) C dX10_all_34 (by decide) ?_
    refine q_putZ C fl_RX10_77 (fun T hT => by cases hT; rfl) rfl s1 (Or.inr rfl) dX10_all_35 (fun I22 eI22 => ?_)
    replace h := h I22 eI22
    refine q_aload_n C dX10_all_38 rfl ?_
    refine q_getP C fl_RX10_37 rfl s1 dX10_all_39 ?_
    refine q_aload_n C dX10_all_42 rfl ?_
    refine q_cVi (as := []) (st := [.ref (P21 a0 15)]) (r := a0) C mv_X10_lastRound ml_RX10_71 dX10_all_43 rfl s1 rfl (Nat.le_of_ble_eq_true rfl) ⟨Nat.le_refl _, Nat.le_refl _⟩ h (fun r23 I24 L25 P26 h => ?_)
    refine q_iconst (v := 0) C dX10_all_46 (by decide) ?_
    refine q_cSi (as := [.int r23, .int 0]) (st := [.ref (P21 a0 15)]) C ms_X10_blockAt ml_RX10_193 dX10_all_47 rfl rfl (Nat.le_of_ble_eq_true rfl) ⟨Nat.le_refl _, Nat.le_refl _⟩ h (fun r27 I28 L29 P30 h => ?_)
    refine q_iconst (v := 1) C dX10_all_50 (by decide) ?_
    refine q_aload_n C dX10_all_51 rfl ?_
    refine q_getP C fl_RX10_9 rfl s1 dX10_all_52 ?_
    refine q_iconst (v := 0) C dX10_all_55 (by decide) ?_
    have s31 := h.1
    replace h := h.2
    have s32 := h.1
    replace h := h.2
    refine q_iald C s31 s32 dX10_all_56 ?_
    refine q_ishl C dX10_all_57 ?_
    refine q_iadd C dX10_all_58 ?_
    refine q_iconst (v := 1) C dX10_all_59 (by decide) ?_
    refine q_isub C dX10_all_60 ?_
    have s33 := h.1
    replace h := h.2
    have s34 := h.1
    replace h := h.2
    refine q_lald C s33 s34 dX10_all_61 ?_
    exact q_lret C hk dX10_all_62 ⟨rfl, h⟩
theorem sp_X10_all {d : Nat} {sh : List qSh} {K : Option Value → qMI → qML → qMP → Prop} {a0 : Nat} {I : qMI} {L : qML} {P : qMP} (h0 : vc_X10_all_0 d sh K a0 I L P) : Sq (d + 1) mX10_all sh [.ref a0] I L P K := by
  refine Sq_of (by decide +kernel) (Nat.le_of_ble_eq_true rfl) (fun X C hk hn => ?_)
  exact rg_X10_all_0 C hk h0
/-! BracketDrawsModel.howMany()J -/
def vc_X10_howMany_0 (d : Nat) (sh : List qSh) (K : Option Value → qMI → qML → qMP → Prop) (a0 : Nat) (I : qMI) (L : qML) (P : qMP) : Prop :=
  ((shp sh a0).1 = 10) ∧ (Sq d mX10_areFew sh [.ref a0] I L P (KI fun r2 I3 L4 P5 => ((r2 = 0) → (Sq d mX10_all sh [.ref a0] I3 L4 P5 (KL fun r7 I8 L9 P10 => K (some (.long r7)) I8 L9 P10))) ∧ ((¬ r2 = 0) → (K (some (.long ((-5)))) I3 L4 P5))))
set_option maxRecDepth 100000 in
set_option maxHeartbeats 4000000 in
theorem rg_X10_howMany_0 {X : qCT} {d : Nat} {sh : List qSh} {K : Option Value → qMI → qML → qMP → Prop} {a0 : Nat} {I : qMI} {L : qML} {P : qMP} (C : qCB X RX10 cX10_howMany 1 (d + 1) 0 0) (hk : qCK X (some .long) 0 0 (fun v sh' I' L' P' => sh' = sh ∧ K v I' L' P')) (h : vc_X10_howMany_0 d sh K a0 I L P) : qG X 0 [some (.ref a0)] [] sh I L P 0 0 := by
  unfold vc_X10_howMany_0 at h
  refine q_aload_n C dX10_howMany_0 rfl ?_
  have s1 := h.1
  replace h := h.2
  refine q_cVi (as := []) (st := []) (r := a0) C mv_X10_areFew ml_RX10_214 dX10_howMany_1 rfl s1 rfl (Nat.le_of_ble_eq_true rfl) ⟨Nat.le_refl _, Nat.le_refl _⟩ h (fun r2 I3 L4 P5 h => ?_)
  refine q_if_eq (tgt := 13) C dX10_howMany_4 (by decide) (fun c6 => ?_) (fun c6 => ?_)
  · replace h := h.1 c6
    refine q_aload_n C dX10_howMany_13 rfl ?_
    refine q_cVl (as := []) (st := []) (r := a0) C mv_X10_all ml_RX10_219 dX10_howMany_14 rfl s1 rfl (Nat.le_of_ble_eq_true rfl) ⟨Nat.le_refl _, Nat.le_refl _⟩ h (fun r7 I8 L9 P10 h => ?_)
    exact q_lret C hk dX10_howMany_17 ⟨rfl, h⟩
  · replace h := h.2 c6
    refine q_ldc2 C kl_RX10_217 dX10_howMany_7 ?_
    refine q_goto (tgt := 17) C dX10_howMany_10 (by decide) ?_
    exact q_lret C hk dX10_howMany_17 ⟨rfl, h⟩
theorem sp_X10_howMany {d : Nat} {sh : List qSh} {K : Option Value → qMI → qML → qMP → Prop} {a0 : Nat} {I : qMI} {L : qML} {P : qMP} (h0 : vc_X10_howMany_0 d sh K a0 I L P) : Sq (d + 1) mX10_howMany sh [.ref a0] I L P K := by
  refine Sq_of (by decide +kernel) (Nat.le_of_ble_eq_true rfl) (fun X C hk hn => ?_)
  exact rg_X10_howMany_0 C hk h0
/-! BracketDrawsModel.stands(II)J -/
def vc_X10_stands_0 (d : Nat) (sh : List qSh) (K : Option Value → qMI → qML → qMP → Prop) (a0 : Nat) (x1 : Int32) (x2 : Int32) (I : qMI) (L : qML) (P : qMP) : Prop :=
  ((shp sh a0).1 = 10) ∧ (Sq d mX10_isPlayer sh [.ref a0, .int x1] I L P (KI fun r2 I3 L4 P5 => ((r2 = 0) → (K (some (.long ((-1)))) I3 L4 P5)) ∧ ((¬ r2 = 0) → (Sq d mX10_isSlot sh [.ref a0, .int x2] I3 L4 P5 (KI fun r7 I8 L9 P10 => ((¬ r7 = 0) → (Sq d mX10_areFew sh [.ref a0] I8 L9 P10 (KI fun r12 I13 L14 P15 => ((r12 = 0) → (∀ I17 : qMI, I17 = uI I13 a0 23 x2 → (∀ I18 : qMI, I18 = uI I17 a0 24 ((1 : Int32) <<< (x1 &&& 31)) → (Sq d mX10_reckons sh [.ref a0, .ref (P15 a0 16)] I18 L14 P15 (KL fun r19 I20 L21 P22 => K (some (.long r19)) I20 L21 P22))))) ∧ ((¬ r12 = 0) → (K (some (.long ((-5)))) I13 L14 P15))))) ∧ ((r7 = 0) → (K (some (.long ((-1)))) I8 L9 P10)))))))
set_option maxRecDepth 100000 in
set_option maxHeartbeats 4000000 in
theorem rg_X10_stands_0 {X : qCT} {d : Nat} {sh : List qSh} {K : Option Value → qMI → qML → qMP → Prop} {a0 : Nat} {x1 : Int32} {x2 : Int32} {I : qMI} {L : qML} {P : qMP} (C : qCB X RX10 cX10_stands 3 (d + 1) 0 0) (hk : qCK X (some .long) 0 0 (fun v sh' I' L' P' => sh' = sh ∧ K v I' L' P')) (h : vc_X10_stands_0 d sh K a0 x1 x2 I L P) : qG X 0 [some (.ref a0), some (.int x1), some (.int x2)] [] sh I L P 0 0 := by
  unfold vc_X10_stands_0 at h
  refine q_aload_n C dX10_stands_0 rfl ?_
  refine q_iload_n C dX10_stands_1 rfl ?_
  have s1 := h.1
  replace h := h.2
  refine q_cVi (as := [.int x1]) (st := []) (r := a0) C mv_X10_isPlayer ml_RX10_114 dX10_stands_2 rfl s1 rfl (Nat.le_of_ble_eq_true rfl) ⟨Nat.le_refl _, Nat.le_refl _⟩ h (fun r2 I3 L4 P5 h => ?_)
  refine q_if_eq (tgt := 16) C dX10_stands_5 (by decide) (fun c6 => ?_) (fun c6 => ?_)
  · replace h := h.1 c6
    refine q_ldc2 C kl_RX10_226 dX10_stands_16 ?_
    exact q_lret C hk dX10_stands_19 ⟨rfl, h⟩
  · replace h := h.2 c6
    refine q_aload_n C dX10_stands_8 rfl ?_
    refine q_iload_n C dX10_stands_9 rfl ?_
    refine q_cVi (as := [.int x2]) (st := []) (r := a0) C mv_X10_isSlot ml_RX10_223 dX10_stands_10 rfl s1 rfl (Nat.le_of_ble_eq_true rfl) ⟨Nat.le_refl _, Nat.le_refl _⟩ h (fun r7 I8 L9 P10 h => ?_)
    refine q_if_ne (tgt := 20) C dX10_stands_13 (by decide) (fun c11 => ?_) (fun c11 => ?_)
    · replace h := h.1 c11
      refine q_aload_n C dX10_stands_20 rfl ?_
      refine q_cVi (as := []) (st := []) (r := a0) C mv_X10_areFew ml_RX10_214 dX10_stands_21 rfl s1 rfl (Nat.le_of_ble_eq_true rfl) ⟨Nat.le_refl _, Nat.le_refl _⟩ h (fun r12 I13 L14 P15 h => ?_)
      refine q_if_eq (tgt := 31) C dX10_stands_24 (by decide) (fun c16 => ?_) (fun c16 => ?_)
      · replace h := h.1 c16
        refine q_aload_n C dX10_stands_31 rfl ?_
        refine q_iload_n C dX10_stands_32 rfl ?_
        refine q_putI C fl_RX10_184 (fun T hT => by cases hT; rfl) rfl s1 dX10_stands_33 (fun I17 eI17 => ?_)
        replace h := h I17 eI17
        refine q_aload_n C dX10_stands_36 rfl ?_
        refine q_iconst (v := 1) C dX10_stands_37 (by decide) ?_
        refine q_iload_n C dX10_stands_38 rfl ?_
        refine q_ishl C dX10_stands_39 ?_
        refine q_putI C fl_RX10_187 (fun T hT => by cases hT; rfl) rfl s1 dX10_stands_40 (fun I18 eI18 => ?_)
        replace h := h I18 eI18
        refine q_aload_n C dX10_stands_43 rfl ?_
        refine q_aload_n C dX10_stands_44 rfl ?_
        refine q_getP C fl_RX10_41 rfl s1 dX10_stands_45 ?_
        refine q_cVl (as := [.ref (P15 a0 16)]) (st := []) (r := a0) C mv_X10_reckons ml_RX10_210 dX10_stands_48 rfl s1 rfl (Nat.le_of_ble_eq_true rfl) ⟨Nat.le_refl _, Nat.le_refl _⟩ h (fun r19 I20 L21 P22 h => ?_)
        exact q_lret C hk dX10_stands_51 ⟨rfl, h⟩
      · replace h := h.2 c16
        refine q_ldc2 C kl_RX10_217 dX10_stands_27 ?_
        exact q_lret C hk dX10_stands_30 ⟨rfl, h⟩
    · replace h := h.2 c11
      refine q_ldc2 C kl_RX10_226 dX10_stands_16 ?_
      exact q_lret C hk dX10_stands_19 ⟨rfl, h⟩
theorem sp_X10_stands {d : Nat} {sh : List qSh} {K : Option Value → qMI → qML → qMP → Prop} {a0 : Nat} {x1 : Int32} {x2 : Int32} {I : qMI} {L : qML} {P : qMP} (h0 : vc_X10_stands_0 d sh K a0 x1 x2 I L P) : Sq (d + 1) mX10_stands sh [.ref a0, .int x1, .int x2] I L P K := by
  refine Sq_of (by decide +kernel) (Nat.le_of_ble_eq_true rfl) (fun X C hk hn => ?_)
  exact rg_X10_stands_0 C hk h0
/-! BracketDrawsModel.apartIn(II)J -/
def vc_X10_apartIn_0 (d : Nat) (sh : List qSh) (K : Option Value → qMI → qML → qMP → Prop) (a0 : Nat) (x1 : Int32) (x2 : Int32) (I : qMI) (L : qML) (P : qMP) : Prop :=
  ((shp sh a0).1 = 10) ∧ (∀ I2 : qMI, I2 = uI I a0 23 ((-2)) → (∀ I3 : qMI, I3 = uI I2 a0 24 x1 → (∀ I4 : qMI, I4 = uI I3 a0 25 x2 → (Sq d mX10_reckons sh [.ref a0, .ref (P a0 16)] I4 L P (KL fun r5 I6 L7 P8 => K (some (.long r5)) I6 L7 P8)))))
set_option maxRecDepth 100000 in
set_option maxHeartbeats 4000000 in
theorem rg_X10_apartIn_0 {X : qCT} {d : Nat} {sh : List qSh} {K : Option Value → qMI → qML → qMP → Prop} {a0 : Nat} {x1 : Int32} {x2 : Int32} {I : qMI} {L : qML} {P : qMP} (C : qCB X RX10 cX10_apartIn 3 (d + 1) 0 0) (hk : qCK X (some .long) 0 0 (fun v sh' I' L' P' => sh' = sh ∧ K v I' L' P')) (h : vc_X10_apartIn_0 d sh K a0 x1 x2 I L P) : qG X 0 [some (.ref a0), some (.int x1), some (.int x2)] [] sh I L P 0 0 := by
  unfold vc_X10_apartIn_0 at h
  refine q_aload_n C dX10_apartIn_0 rfl ?_
  refine q_bipush (v := (-2)) C dX10_apartIn_1 (by decide) ?_
  have s1 := h.1
  replace h := h.2
  refine q_putI C fl_RX10_184 (fun T hT => by cases hT; rfl) rfl s1 dX10_apartIn_3 (fun I2 eI2 => ?_)
  replace h := h I2 eI2
  refine q_aload_n C dX10_apartIn_6 rfl ?_
  refine q_iload_n C dX10_apartIn_7 rfl ?_
  refine q_putI C fl_RX10_187 (fun T hT => by cases hT; rfl) rfl s1 dX10_apartIn_8 (fun I3 eI3 => ?_)
  replace h := h I3 eI3
  refine q_aload_n C dX10_apartIn_11 rfl ?_
  refine q_iload_n C dX10_apartIn_12 rfl ?_
  refine q_putI C fl_RX10_190 (fun T hT => by cases hT; rfl) rfl s1 dX10_apartIn_13 (fun I4 eI4 => ?_)
  replace h := h I4 eI4
  refine q_aload_n C dX10_apartIn_16 rfl ?_
  refine q_aload_n C dX10_apartIn_17 rfl ?_
  refine q_getP C fl_RX10_41 rfl s1 dX10_apartIn_18 ?_
  refine q_cVl (as := [.ref (P a0 16)]) (st := []) (r := a0) C mv_X10_reckons ml_RX10_210 dX10_apartIn_21 rfl s1 rfl (Nat.le_of_ble_eq_true rfl) ⟨Nat.le_refl _, Nat.le_refl _⟩ h (fun r5 I6 L7 P8 h => ?_)
  exact q_lret C hk dX10_apartIn_24 ⟨rfl, h⟩
theorem sp_X10_apartIn {d : Nat} {sh : List qSh} {K : Option Value → qMI → qML → qMP → Prop} {a0 : Nat} {x1 : Int32} {x2 : Int32} {I : qMI} {L : qML} {P : qMP} (h0 : vc_X10_apartIn_0 d sh K a0 x1 x2 I L P) : Sq (d + 1) mX10_apartIn sh [.ref a0, .int x1, .int x2] I L P K := by
  refine Sq_of (by decide +kernel) (Nat.le_of_ble_eq_true rfl) (fun X C hk hn => ?_)
  exact rg_X10_apartIn_0 C hk h0
/-! BracketDrawsModel.meets(III)J -/
def vc_X10_meets_0 (d : Nat) (sh : List qSh) (K : Option Value → qMI → qML → qMP → Prop) (a0 : Nat) (x1 : Int32) (x2 : Int32) (x3 : Int32) (I : qMI) (L : qML) (P : qMP) : Prop :=
  ((shp sh a0).1 = 10) ∧ (Sq d mX10_isPlayer sh [.ref a0, .int x1] I L P (KI fun r2 I3 L4 P5 => ((r2 = 0) → (K (some (.long ((-1)))) I3 L4 P5)) ∧ ((¬ r2 = 0) → (Sq d mX10_isPlayer sh [.ref a0, .int x2] I3 L4 P5 (KI fun r7 I8 L9 P10 => ((r7 = 0) → (K (some (.long ((-1)))) I8 L9 P10)) ∧ ((¬ r7 = 0) → (((x1 = x2) → (K (some (.long ((-1)))) I8 L9 P10)) ∧ ((¬ x1 = x2) → (Sq d mX10_isRound sh [.ref a0, .int x3] I8 L9 P10 (KI fun r13 I14 L15 P16 => ((¬ r13 = 0) → (Sq d mX10_areFew sh [.ref a0] I14 L15 P16 (KI fun r18 I19 L20 P21 => ((r18 = 0) → (Sq d mX10_apartIn sh [.ref a0, .int (((1 : Int32) <<< (x1 &&& 31)) ||| ((1 : Int32) <<< (x2 &&& 31))), .int (x3 - 1)] I19 L20 P21 (KL fun r23 I24 L25 P26 => Sq d mX10_apartIn sh [.ref a0, .int (((1 : Int32) <<< (x1 &&& 31)) ||| ((1 : Int32) <<< (x2 &&& 31))), .int x3] I24 L25 P26 (KL fun r27 I28 L29 P30 => K (some (.long (r23 - r27))) I28 L29 P30)))) ∧ ((¬ r18 = 0) → (K (some (.long ((-5)))) I19 L20 P21))))) ∧ ((r13 = 0) → (K (some (.long ((-1)))) I14 L15 P16))))))))))))
set_option maxRecDepth 100000 in
set_option maxHeartbeats 4000000 in
theorem rg_X10_meets_0 {X : qCT} {d : Nat} {sh : List qSh} {K : Option Value → qMI → qML → qMP → Prop} {a0 : Nat} {x1 : Int32} {x2 : Int32} {x3 : Int32} {I : qMI} {L : qML} {P : qMP} (C : qCB X RX10 cX10_meets 5 (d + 1) 0 0) (hk : qCK X (some .long) 0 0 (fun v sh' I' L' P' => sh' = sh ∧ K v I' L' P')) (h : vc_X10_meets_0 d sh K a0 x1 x2 x3 I L P) : qG X 0 [some (.ref a0), some (.int x1), some (.int x2), some (.int x3), none] [] sh I L P 0 0 := by
  unfold vc_X10_meets_0 at h
  refine q_aload_n C dX10_meets_0 rfl ?_
  refine q_iload_n C dX10_meets_1 rfl ?_
  have s1 := h.1
  replace h := h.2
  refine q_cVi (as := [.int x1]) (st := []) (r := a0) C mv_X10_isPlayer ml_RX10_114 dX10_meets_2 rfl s1 rfl (Nat.le_of_ble_eq_true rfl) ⟨Nat.le_refl _, Nat.le_refl _⟩ h (fun r2 I3 L4 P5 h => ?_)
  refine q_if_eq (tgt := 29) C dX10_meets_5 (by decide) (fun c6 => ?_) (fun c6 => ?_)
  · replace h := h.1 c6
    refine q_ldc2 C kl_RX10_226 dX10_meets_29 ?_
    exact q_lret C hk dX10_meets_32 ⟨rfl, h⟩
  · replace h := h.2 c6
    refine q_aload_n C dX10_meets_8 rfl ?_
    refine q_iload_n C dX10_meets_9 rfl ?_
    refine q_cVi (as := [.int x2]) (st := []) (r := a0) C mv_X10_isPlayer ml_RX10_114 dX10_meets_10 rfl s1 rfl (Nat.le_of_ble_eq_true rfl) ⟨Nat.le_refl _, Nat.le_refl _⟩ h (fun r7 I8 L9 P10 h => ?_)
    refine q_if_eq (tgt := 29) C dX10_meets_13 (by decide) (fun c11 => ?_) (fun c11 => ?_)
    · replace h := h.1 c11
      refine q_ldc2 C kl_RX10_226 dX10_meets_29 ?_
      exact q_lret C hk dX10_meets_32 ⟨rfl, h⟩
    · replace h := h.2 c11
      refine q_iload_n C dX10_meets_16 rfl ?_
      refine q_iload_n C dX10_meets_17 rfl ?_
      refine q_icmp_eq (tgt := 29) C dX10_meets_18 (by decide) (fun c12 => ?_) (fun c12 => ?_)
      · replace h := h.1 c12
        refine q_ldc2 C kl_RX10_226 dX10_meets_29 ?_
        exact q_lret C hk dX10_meets_32 ⟨rfl, h⟩
      · replace h := h.2 c12
        refine q_aload_n C dX10_meets_21 rfl ?_
        refine q_iload_n C dX10_meets_22 rfl ?_
        refine q_cVi (as := [.int x3]) (st := []) (r := a0) C mv_X10_isRound ml_RX10_228 dX10_meets_23 rfl s1 rfl (Nat.le_of_ble_eq_true rfl) ⟨Nat.le_refl _, Nat.le_refl _⟩ h (fun r13 I14 L15 P16 h => ?_)
        refine q_if_ne (tgt := 33) C dX10_meets_26 (by decide) (fun c17 => ?_) (fun c17 => ?_)
        · replace h := h.1 c17
          refine q_aload_n C dX10_meets_33 rfl ?_
          refine q_cVi (as := []) (st := []) (r := a0) C mv_X10_areFew ml_RX10_214 dX10_meets_34 rfl s1 rfl (Nat.le_of_ble_eq_true rfl) ⟨Nat.le_refl _, Nat.le_refl _⟩ h (fun r18 I19 L20 P21 h => ?_)
          refine q_if_eq (tgt := 44) C dX10_meets_37 (by decide) (fun c22 => ?_) (fun c22 => ?_)
          · replace h := h.1 c22
            refine q_iconst (v := 1) C dX10_meets_44 (by decide) ?_
            refine q_iload_n C dX10_meets_45 rfl ?_
            refine q_ishl C dX10_meets_46 ?_
            refine q_iconst (v := 1) C dX10_meets_47 (by decide) ?_
            refine q_iload_n C dX10_meets_48 rfl ?_
            refine q_ishl C dX10_meets_49 ?_
            refine q_ior C dX10_meets_50 ?_
            refine q_istore (lo1 := [some (.ref a0), some (.int x1), some (.int x2), some (.int x3), some (.int (((1 : Int32) <<< (x1 &&& 31)) ||| ((1 : Int32) <<< (x2 &&& 31))))]) C dX10_meets_51 (by decide) rfl ?_
            refine q_aload_n C dX10_meets_53 rfl ?_
            refine q_iload C dX10_meets_54 rfl ?_
            refine q_iload_n C dX10_meets_56 rfl ?_
            refine q_iconst (v := 1) C dX10_meets_57 (by decide) ?_
            refine q_isub C dX10_meets_58 ?_
            refine q_cVl (as := [.int (((1 : Int32) <<< (x1 &&& 31)) ||| ((1 : Int32) <<< (x2 &&& 31))), .int (x3 - 1)]) (st := []) (r := a0) C mv_X10_apartIn ml_RX10_231 dX10_meets_59 rfl s1 rfl (Nat.le_of_ble_eq_true rfl) ⟨Nat.le_refl _, Nat.le_refl _⟩ h (fun r23 I24 L25 P26 h => ?_)
            refine q_aload_n C dX10_meets_62 rfl ?_
            refine q_iload C dX10_meets_63 rfl ?_
            refine q_iload_n C dX10_meets_65 rfl ?_
            refine q_cVl (as := [.int (((1 : Int32) <<< (x1 &&& 31)) ||| ((1 : Int32) <<< (x2 &&& 31))), .int x3]) (st := [.long r23]) (r := a0) C mv_X10_apartIn ml_RX10_231 dX10_meets_66 rfl s1 rfl (Nat.le_of_ble_eq_true rfl) ⟨Nat.le_refl _, Nat.le_refl _⟩ h (fun r27 I28 L29 P30 h => ?_)
            refine q_lsub C dX10_meets_69 ?_
            exact q_lret C hk dX10_meets_70 ⟨rfl, h⟩
          · replace h := h.2 c22
            refine q_ldc2 C kl_RX10_217 dX10_meets_40 ?_
            exact q_lret C hk dX10_meets_43 ⟨rfl, h⟩
        · replace h := h.2 c17
          refine q_ldc2 C kl_RX10_226 dX10_meets_29 ?_
          exact q_lret C hk dX10_meets_32 ⟨rfl, h⟩
theorem sp_X10_meets {d : Nat} {sh : List qSh} {K : Option Value → qMI → qML → qMP → Prop} {a0 : Nat} {x1 : Int32} {x2 : Int32} {x3 : Int32} {I : qMI} {L : qML} {P : qMP} (h0 : vc_X10_meets_0 d sh K a0 x1 x2 x3 I L P) : Sq (d + 1) mX10_meets sh [.ref a0, .int x1, .int x2, .int x3] I L P K := by
  refine Sq_of (by decide +kernel) (Nat.le_of_ble_eq_true rfl) (fun X C hk hn => ?_)
  exact rg_X10_meets_0 C hk h0
/-! BracketDrawsModel.apart(II)J -/
def vc_X10_apart_0 (d : Nat) (sh : List qSh) (K : Option Value → qMI → qML → qMP → Prop) (a0 : Nat) (x1 : Int32) (x2 : Int32) (I : qMI) (L : qML) (P : qMP) : Prop :=
  ((shp sh a0).1 = 10) ∧ (((shp sh (P a0 0)).1 = 20) ∧ ((vp_in 0 (shp sh (P a0 0)).2) ∧ (Sq d mX10_in sh [.long (Int32.toInt64 x1), .long 0, .long (Int32.toInt64 (((1 : Int32) <<< ((I (P a0 0) (Int32.toNatClampNeg 0)) &&& 31)) - 1))] I L P (KI fun r4 I5 L6 P7 => ((r4 = 0) → (K (some (.long ((-1)))) I5 L6 P7)) ∧ ((¬ r4 = 0) → (Sq d mX10_isRound sh [.ref a0, .int x2] I5 L6 P7 (KI fun r9 I10 L11 P12 => ((¬ r9 = 0) → (Sq d mX10_areFew sh [.ref a0] I10 L11 P12 (KI fun r14 I15 L16 P17 => ((r14 = 0) → (Sq d mX10_apartIn sh [.ref a0, .int x1, .int x2] I15 L16 P17 (KL fun r19 I20 L21 P22 => K (some (.long r19)) I20 L21 P22))) ∧ ((¬ r14 = 0) → (K (some (.long ((-5)))) I15 L16 P17))))) ∧ ((r9 = 0) → (K (some (.long ((-1)))) I10 L11 P12)))))))))
set_option maxRecDepth 100000 in
set_option maxHeartbeats 4000000 in
theorem rg_X10_apart_0 {X : qCT} {d : Nat} {sh : List qSh} {K : Option Value → qMI → qML → qMP → Prop} {a0 : Nat} {x1 : Int32} {x2 : Int32} {I : qMI} {L : qML} {P : qMP} (C : qCB X RX10 cX10_apart 3 (d + 1) 0 0) (hk : qCK X (some .long) 0 0 (fun v sh' I' L' P' => sh' = sh ∧ K v I' L' P')) (h : vc_X10_apart_0 d sh K a0 x1 x2 I L P) : qG X 0 [some (.ref a0), some (.int x1), some (.int x2)] [] sh I L P 0 0 := by
  unfold vc_X10_apart_0 at h
  refine q_iload_n C dX10_apart_0 rfl ?_
  refine q_i2l C dX10_apart_1 ?_
  refine q_lconst (v := 0) C dX10_apart_2 (by decide) ?_
  refine q_iconst (v := 1) C dX10_apart_3 (by decide) ?_
  refine q_aload_n C dX10_apart_4 rfl ?_
  have s1 := h.1
  replace h := h.2
  refine q_getP C fl_RX10_9 rfl s1 dX10_apart_5 ?_
  refine q_iconst (v := 0) C dX10_apart_8 (by decide) ?_
  have s2 := h.1
  replace h := h.2
  have s3 := h.1
  replace h := h.2
  refine q_iald C s2 s3 dX10_apart_9 ?_
  refine q_ishl C dX10_apart_10 ?_
  refine q_iconst (v := 1) C dX10_apart_11 (by decide) ?_
  refine q_isub C dX10_apart_12 ?_
  refine q_i2l C dX10_apart_13 ?_
  refine q_cSi (as := [.long (Int32.toInt64 x1), .long 0, .long (Int32.toInt64 (((1 : Int32) <<< ((I (P a0 0) (Int32.toNatClampNeg 0)) &&& 31)) - 1))]) (st := []) C ms_X10_in ml_RX10_63 dX10_apart_14 rfl rfl (Nat.le_of_ble_eq_true rfl) ⟨Nat.le_refl _, Nat.le_refl _⟩ h (fun r4 I5 L6 P7 h => ?_)
  refine q_if_eq (tgt := 28) C dX10_apart_17 (by decide) (fun c8 => ?_) (fun c8 => ?_)
  · replace h := h.1 c8
    refine q_ldc2 C kl_RX10_226 dX10_apart_28 ?_
    exact q_lret C hk dX10_apart_31 ⟨rfl, h⟩
  · replace h := h.2 c8
    refine q_aload_n C dX10_apart_20 rfl ?_
    refine q_iload_n C dX10_apart_21 rfl ?_
    refine q_cVi (as := [.int x2]) (st := []) (r := a0) C mv_X10_isRound ml_RX10_228 dX10_apart_22 rfl s1 rfl (Nat.le_of_ble_eq_true rfl) ⟨Nat.le_refl _, Nat.le_refl _⟩ h (fun r9 I10 L11 P12 h => ?_)
    refine q_if_ne (tgt := 32) C dX10_apart_25 (by decide) (fun c13 => ?_) (fun c13 => ?_)
    · replace h := h.1 c13
      refine q_aload_n C dX10_apart_32 rfl ?_
      refine q_cVi (as := []) (st := []) (r := a0) C mv_X10_areFew ml_RX10_214 dX10_apart_33 rfl s1 rfl (Nat.le_of_ble_eq_true rfl) ⟨Nat.le_refl _, Nat.le_refl _⟩ h (fun r14 I15 L16 P17 h => ?_)
      refine q_if_eq (tgt := 45) C dX10_apart_36 (by decide) (fun c18 => ?_) (fun c18 => ?_)
      · replace h := h.1 c18
        refine q_aload_n C dX10_apart_45 rfl ?_
        refine q_iload_n C dX10_apart_46 rfl ?_
        refine q_iload_n C dX10_apart_47 rfl ?_
        refine q_cVl (as := [.int x1, .int x2]) (st := []) (r := a0) C mv_X10_apartIn ml_RX10_231 dX10_apart_48 rfl s1 rfl (Nat.le_of_ble_eq_true rfl) ⟨Nat.le_refl _, Nat.le_refl _⟩ h (fun r19 I20 L21 P22 h => ?_)
        exact q_lret C hk dX10_apart_51 ⟨rfl, h⟩
      · replace h := h.2 c18
        refine q_ldc2 C kl_RX10_217 dX10_apart_39 ?_
        refine q_goto (tgt := 51) C dX10_apart_42 (by decide) ?_
        exact q_lret C hk dX10_apart_51 ⟨rfl, h⟩
    · replace h := h.2 c13
      refine q_ldc2 C kl_RX10_226 dX10_apart_28 ?_
      exact q_lret C hk dX10_apart_31 ⟨rfl, h⟩
theorem sp_X10_apart {d : Nat} {sh : List qSh} {K : Option Value → qMI → qML → qMP → Prop} {a0 : Nat} {x1 : Int32} {x2 : Int32} {I : qMI} {L : qML} {P : qMP} (h0 : vc_X10_apart_0 d sh K a0 x1 x2 I L P) : Sq (d + 1) mX10_apart sh [.ref a0, .int x1, .int x2] I L P K := by
  refine Sq_of (by decide +kernel) (Nat.le_of_ble_eq_true rfl) (fun X C hk hn => ?_)
  exact rg_X10_apart_0 C hk h0
/-! BracketDrawsModel.lays(IIIJ)V -/
def vc_X10_lays_0 (d : Nat) (sh : List qSh) (K : Option Value → qMI → qML → qMP → Prop) (T1 : Int32 → qMI → qML → qMP → Prop) (T2 : Int64 → Int32 → qMI → qML → qMP → Prop) (a0 : Nat) (x1 : Int32) (x2 : Int32) (x3 : Int32) (l4 : Int64) (I : qMI) (L : qML) (P : qMP) : Prop :=
  ((¬ x1 = 0) → (T2 l4 0 I L P)) ∧ ((x1 = 0) → (T1 0 I L P))
set_option maxRecDepth 100000 in
set_option maxHeartbeats 4000000 in
theorem rg_X10_lays_0 {X : qCT} {d : Nat} {sh : List qSh} {K : Option Value → qMI → qML → qMP → Prop} {T1 : Int32 → qMI → qML → qMP → Prop} {T2 : Int64 → Int32 → qMI → qML → qMP → Prop} {a0 : Nat} {x1 : Int32} {x2 : Int32} {x3 : Int32} {l4 : Int64} {I : qMI} {L : qML} {P : qMP} (C : qCB X RX10 cX10_lays 11 (d + 1) 0 0) (hk : qCK X (none) 0 0 (fun v sh' I' L' P' => sh' = sh ∧ K v I' L' P')) (hT1 : ∀ (x6 : Int32) (I : qMI) (L : qML) (P : qMP), T1 x6 I L P → qG X 7 [some (.ref a0), some (.int x1), some (.int x2), some (.int x3), some (.long l4), none, some (.int x6), none, none, none, none] [] sh I L P 0 0) (hT2 : ∀ (l6 : Int64) (x8 : Int32) (I : qMI) (L : qML) (P : qMP), T2 l6 x8 I L P → qG X 48 [some (.ref a0), some (.int x1), some (.int x2), some (.int x3), some (.long l4), none, some (.long l6), none, some (.int x8), none, none] [] sh I L P 0 0) (h : vc_X10_lays_0 d sh K T1 T2 a0 x1 x2 x3 l4 I L P) : qG X 0 [some (.ref a0), some (.int x1), some (.int x2), some (.int x3), some (.long l4), none, none, none, none, none, none] [] sh I L P 0 0 := by
  unfold vc_X10_lays_0 at h
  refine q_iload_n C dX10_lays_0 rfl ?_
  refine q_if_ne (tgt := 41) C dX10_lays_1 (by decide) (fun c1 => ?_) (fun c1 => ?_)
  · replace h := h.1 c1
    refine q_lload C dX10_lays_41 rfl ?_
    refine q_lstore (lo1 := [some (.ref a0), some (.int x1), some (.int x2), some (.int x3), some (.long l4), none, some (.long l4), none, none, none, none]) C dX10_lays_43 (by decide) rfl ?_
    refine q_iconst (v := 0) C dX10_lays_45 (by decide) ?_
    refine q_istore (lo1 := [some (.ref a0), some (.int x1), some (.int x2), some (.int x3), some (.long l4), none, some (.long l4), none, some (.int 0), none, none]) C dX10_lays_46 (by decide) rfl ?_
    exact hT2 _ _ _ _ _ h
  · replace h := h.2 c1
    refine q_iconst (v := 0) C dX10_lays_4 (by decide) ?_
    refine q_istore (lo1 := [some (.ref a0), some (.int x1), some (.int x2), some (.int x3), some (.long l4), none, some (.int 0), none, none, none, none]) C dX10_lays_5 (by decide) rfl ?_
    exact hT1 _ _ _ _ h
def vc_X10_lays_1 (d : Nat) (sh : List qSh) (K : Option Value → qMI → qML → qMP → Prop) (T1 : Int32 → qMI → qML → qMP → Prop) (T2 : Int64 → Int32 → qMI → qML → qMP → Prop) (a0 : Nat) (x1 : Int32) (x2 : Int32) (x3 : Int32) (l4 : Int64) (x6 : Int32) (I : qMI) (L : qML) (P : qMP) : Prop :=
  ((10 ≤ x6) → (((shp sh a0).1 = 10) ∧ (((shp sh (P a0 0)).1 = 20) ∧ ((vp_in (45 + x2) (shp sh (P a0 0)).2) ∧ (∀ I5 : qMI, I5 = uI I (P a0 0) (Int32.toNatClampNeg (45 + x2)) x6 → (K none I5 L P)))))) ∧ ((¬ 10 ≤ x6) → (((¬ ((x3 >>> (x6 &&& 31)) &&& 1) = 0) → (((shp sh a0).1 = 10) ∧ (((shp sh (P a0 0)).1 = 20) ∧ ((vp_in (45 + x2) (shp sh (P a0 0)).2) ∧ (∀ I10 : qMI, I10 = uI I (P a0 0) (Int32.toNatClampNeg (45 + x2)) x6 → (K none I10 L P)))))) ∧ ((((x3 >>> (x6 &&& 31)) &&& 1) = 0) → (T1 (x6 + 1) I L P))))
set_option maxRecDepth 100000 in
set_option maxHeartbeats 4000000 in
theorem rg_X10_lays_1 {X : qCT} {d : Nat} {sh : List qSh} {K : Option Value → qMI → qML → qMP → Prop} {T1 : Int32 → qMI → qML → qMP → Prop} {T2 : Int64 → Int32 → qMI → qML → qMP → Prop} {a0 : Nat} {x1 : Int32} {x2 : Int32} {x3 : Int32} {l4 : Int64} {x6 : Int32} {I : qMI} {L : qML} {P : qMP} (C : qCB X RX10 cX10_lays 11 (d + 1) 0 0) (hk : qCK X (none) 0 0 (fun v sh' I' L' P' => sh' = sh ∧ K v I' L' P')) (hT1 : ∀ (x6 : Int32) (I : qMI) (L : qML) (P : qMP), T1 x6 I L P → qG X 7 [some (.ref a0), some (.int x1), some (.int x2), some (.int x3), some (.long l4), none, some (.int x6), none, none, none, none] [] sh I L P 0 0) (hT2 : ∀ (l6 : Int64) (x8 : Int32) (I : qMI) (L : qML) (P : qMP), T2 l6 x8 I L P → qG X 48 [some (.ref a0), some (.int x1), some (.int x2), some (.int x3), some (.long l4), none, some (.long l6), none, some (.int x8), none, none] [] sh I L P 0 0) (h : vc_X10_lays_1 d sh K T1 T2 a0 x1 x2 x3 l4 x6 I L P) : qG X 7 [some (.ref a0), some (.int x1), some (.int x2), some (.int x3), some (.long l4), none, some (.int x6), none, none, none, none] [] sh I L P 0 0 := by
  unfold vc_X10_lays_1 at h
  refine q_iload C dX10_lays_7 rfl ?_
  refine q_bipush (v := 10) C dX10_lays_9 (by decide) ?_
  refine q_icmp_ge (tgt := 29) C dX10_lays_11 (by decide) (fun c1 => ?_) (fun c1 => ?_)
  · replace h := h.1 c1
    refine q_aload_n C dX10_lays_29 rfl ?_
    have s2 := h.1
    replace h := h.2
    refine q_getP C fl_RX10_9 rfl s2 dX10_lays_30 ?_
    refine q_bipush (v := 45) C dX10_lays_33 (by decide) ?_
    refine q_iload_n C dX10_lays_35 rfl ?_
    refine q_iadd C dX10_lays_36 ?_
    refine q_iload C dX10_lays_37 rfl ?_
    have s3 := h.1
    replace h := h.2
    have s4 := h.1
    replace h := h.2
    refine q_iast C s3 s4 dX10_lays_39 (fun I5 eI5 => ?_)
    replace h := h I5 eI5
    exact q_vret C hk dX10_lays_40 ⟨rfl, h⟩
  · replace h := h.2 c1
    refine q_iload_n C dX10_lays_14 rfl ?_
    refine q_iload C dX10_lays_15 rfl ?_
    refine q_ishr C dX10_lays_17 ?_
    refine q_iconst (v := 1) C dX10_lays_18 (by decide) ?_
    refine q_iand C dX10_lays_19 ?_
    refine q_if_ne (tgt := 29) C dX10_lays_20 (by decide) (fun c6 => ?_) (fun c6 => ?_)
    · replace h := h.1 c6
      refine q_aload_n C dX10_lays_29 rfl ?_
      have s7 := h.1
      replace h := h.2
      refine q_getP C fl_RX10_9 rfl s7 dX10_lays_30 ?_
      refine q_bipush (v := 45) C dX10_lays_33 (by decide) ?_
      refine q_iload_n C dX10_lays_35 rfl ?_
      refine q_iadd C dX10_lays_36 ?_
      refine q_iload C dX10_lays_37 rfl ?_
      have s8 := h.1
      replace h := h.2
      have s9 := h.1
      replace h := h.2
      refine q_iast C s8 s9 dX10_lays_39 (fun I10 eI10 => ?_)
      replace h := h I10 eI10
      exact q_vret C hk dX10_lays_40 ⟨rfl, h⟩
    · replace h := h.2 c6
      refine q_iinc (w := 1) (lo1 := [some (.ref a0), some (.int x1), some (.int x2), some (.int x3), some (.long l4), none, some (.int (x6 + 1)), none, none, none, none]) C dX10_lays_23 rfl (by decide) (by decide) rfl ?_
      refine q_goto (tgt := 7) C dX10_lays_26 (by decide) ?_
      exact hT1 _ _ _ _ h
def vc_X10_lays_2 (d : Nat) (sh : List qSh) (K : Option Value → qMI → qML → qMP → Prop) (T1 : Int32 → qMI → qML → qMP → Prop) (T2 : Int64 → Int32 → qMI → qML → qMP → Prop) (a0 : Nat) (x1 : Int32) (x2 : Int32) (x3 : Int32) (l4 : Int64) (l6 : Int64) (x8 : Int32) (I : qMI) (L : qML) (P : qMP) : Prop :=
  ((shp sh a0).1 = 10) ∧ (Sq d mX10_waysBy sh [.ref a0, .int x1, .int x2, .int x3, .int x8] I L P (KL fun r2 I3 L4 P5 => ((l6 < r2) → (Sq d mX10_blockAt sh [.int (x1 - 1), .int ((2 * x2) + 1)] I3 L4 P5 (KI fun r7 I8 L9 P10 => ((shp sh (P5 a0 15)).1 = 21) ∧ ((vp_in (r7 + (x3 &&& (x8 ^^^ ((-1))))) (shp sh (P5 a0 15)).2) ∧ ((¬ (L9 (P5 a0 15) (Int32.toNatClampNeg (r7 + (x3 &&& (x8 ^^^ ((-1))))))) = 0) ∧ (Sq d mX10_lays sh [.ref a0, .int (x1 - 1), .int (2 * x2), .int x8, .long (l6 / (L9 (P5 a0 15) (Int32.toNatClampNeg (r7 + (x3 &&& (x8 ^^^ ((-1))))))))] I8 L9 P10 (KV fun I14 L15 P16 => Sq d mX10_lays sh [.ref a0, .int (x1 - 1), .int ((2 * x2) + 1), .int (x3 &&& (x8 ^^^ ((-1)))), .long (l6 - l6 / (L9 (P5 a0 15) (Int32.toNatClampNeg (r7 + (x3 &&& (x8 ^^^ ((-1))))))) * (L9 (P5 a0 15) (Int32.toNatClampNeg (r7 + (x3 &&& (x8 ^^^ ((-1))))))))] I14 L15 P16 (KV fun I17 L18 P19 => K none I17 L18 P19)))))))) ∧ ((¬ l6 < r2) → (Sq d mX10_waysBy sh [.ref a0, .int x1, .int x2, .int x3, .int x8] I3 L4 P5 (KL fun r20 I21 L22 P23 => T2 (l6 - r20) (x8 + 1) I21 L22 P23)))))
set_option maxRecDepth 100000 in
set_option maxHeartbeats 4000000 in
theorem rg_X10_lays_2 {X : qCT} {d : Nat} {sh : List qSh} {K : Option Value → qMI → qML → qMP → Prop} {T1 : Int32 → qMI → qML → qMP → Prop} {T2 : Int64 → Int32 → qMI → qML → qMP → Prop} {a0 : Nat} {x1 : Int32} {x2 : Int32} {x3 : Int32} {l4 : Int64} {l6 : Int64} {x8 : Int32} {I : qMI} {L : qML} {P : qMP} (C : qCB X RX10 cX10_lays 11 (d + 1) 0 0) (hk : qCK X (none) 0 0 (fun v sh' I' L' P' => sh' = sh ∧ K v I' L' P')) (hT1 : ∀ (x6 : Int32) (I : qMI) (L : qML) (P : qMP), T1 x6 I L P → qG X 7 [some (.ref a0), some (.int x1), some (.int x2), some (.int x3), some (.long l4), none, some (.int x6), none, none, none, none] [] sh I L P 0 0) (hT2 : ∀ (l6 : Int64) (x8 : Int32) (I : qMI) (L : qML) (P : qMP), T2 l6 x8 I L P → qG X 48 [some (.ref a0), some (.int x1), some (.int x2), some (.int x3), some (.long l4), none, some (.long l6), none, some (.int x8), none, none] [] sh I L P 0 0) (h : vc_X10_lays_2 d sh K T1 T2 a0 x1 x2 x3 l4 l6 x8 I L P) : qG X 48 [some (.ref a0), some (.int x1), some (.int x2), some (.int x3), some (.long l4), none, some (.long l6), none, some (.int x8), none, none] [] sh I L P 0 0 := by
  unfold vc_X10_lays_2 at h
  refine q_lload C dX10_lays_48 rfl ?_
  refine q_aload_n C dX10_lays_50 rfl ?_
  refine q_iload_n C dX10_lays_51 rfl ?_
  refine q_iload_n C dX10_lays_52 rfl ?_
  refine q_iload_n C dX10_lays_53 rfl ?_
  refine q_iload C dX10_lays_54 rfl ?_
  have s1 := h.1
  replace h := h.2
  refine q_cVl (as := [.int x1, .int x2, .int x3, .int x8]) (st := [.long l6]) (r := a0) C mv_X10_waysBy ml_RX10_235 dX10_lays_56 rfl s1 rfl (Nat.le_of_ble_eq_true rfl) ⟨Nat.le_refl _, Nat.le_refl _⟩ h (fun r2 I3 L4 P5 h => ?_)
  refine q_lcmp_lt (tgt := 83) C dX10_lays_59 dX10_lays_60 (by decide) (fun c6 => ?_) (fun c6 => ?_)
  · replace h := h.1 c6
    refine q_aload_n C dX10_lays_83 rfl ?_
    refine q_getP C fl_RX10_37 rfl s1 dX10_lays_84 ?_
    refine q_iload_n C dX10_lays_87 rfl ?_
    refine q_iconst (v := 1) C dX10_lays_88 (by decide) ?_
    refine q_isub C dX10_lays_89 ?_
    refine q_iconst (v := 2) C dX10_lays_90 (by decide) ?_
    refine q_iload_n C dX10_lays_91 rfl ?_
    refine q_imul C dX10_lays_92 ?_
    refine q_iconst (v := 1) C dX10_lays_93 (by decide) ?_
    refine q_iadd C dX10_lays_94 ?_
    refine q_cSi (as := [.int (x1 - 1), .int ((2 * x2) + 1)]) (st := [.ref (P5 a0 15)]) C ms_X10_blockAt ml_RX10_193 dX10_lays_95 rfl rfl (Nat.le_of_ble_eq_true rfl) ⟨Nat.le_refl _, Nat.le_refl _⟩ h (fun r7 I8 L9 P10 h => ?_)
    refine q_iload_n C dX10_lays_98 rfl ?_
    refine q_iload C dX10_lays_99 rfl ?_
    refine q_iconst (v := (-1)) C dX10_lays_101 (by decide) ?_
    refine q_ixor C dX10_lays_102 ?_
    refine q_iand C dX10_lays_103 ?_
    refine q_iadd C dX10_lays_104 ?_
    have s11 := h.1
    replace h := h.2
    have s12 := h.1
    replace h := h.2
    refine q_lald C s11 s12 dX10_lays_105 ?_
    refine q_lstore (lo1 := [some (.ref a0), some (.int x1), some (.int x2), some (.int x3), some (.long l4), none, some (.long l6), none, some (.int x8), some (.long (L9 (P5 a0 15) (Int32.toNatClampNeg (r7 + (x3 &&& (x8 ^^^ ((-1)))))))), none]) C dX10_lays_106 (by decide) rfl ?_
    refine q_aload_n C dX10_lays_108 rfl ?_
    refine q_iload_n C dX10_lays_109 rfl ?_
    refine q_iconst (v := 1) C dX10_lays_110 (by decide) ?_
    refine q_isub C dX10_lays_111 ?_
    refine q_iconst (v := 2) C dX10_lays_112 (by decide) ?_
    refine q_iload_n C dX10_lays_113 rfl ?_
    refine q_imul C dX10_lays_114 ?_
    refine q_iload C dX10_lays_115 rfl ?_
    refine q_lload C dX10_lays_117 rfl ?_
    refine q_lload C dX10_lays_119 rfl ?_
    have s13 := h.1
    replace h := h.2
    refine q_ldiv C dX10_lays_121 s13 ?_
    refine q_cVv (as := [.int (x1 - 1), .int (2 * x2), .int x8, .long (l6 / (L9 (P5 a0 15) (Int32.toNatClampNeg (r7 + (x3 &&& (x8 ^^^ ((-1))))))))]) (st := []) (r := a0) C mv_X10_lays ml_RX10_239 dX10_lays_122 rfl s1 rfl (Nat.le_of_ble_eq_true rfl) ⟨Nat.le_refl _, Nat.le_refl _⟩ h (fun I14 L15 P16 h => ?_)
    refine q_aload_n C dX10_lays_125 rfl ?_
    refine q_iload_n C dX10_lays_126 rfl ?_
    refine q_iconst (v := 1) C dX10_lays_127 (by decide) ?_
    refine q_isub C dX10_lays_128 ?_
    refine q_iconst (v := 2) C dX10_lays_129 (by decide) ?_
    refine q_iload_n C dX10_lays_130 rfl ?_
    refine q_imul C dX10_lays_131 ?_
    refine q_iconst (v := 1) C dX10_lays_132 (by decide) ?_
    refine q_iadd C dX10_lays_133 ?_
    refine q_iload_n C dX10_lays_134 rfl ?_
    refine q_iload C dX10_lays_135 rfl ?_
    refine q_iconst (v := (-1)) C dX10_lays_137 (by decide) ?_
    refine q_ixor C dX10_lays_138 ?_
    refine q_iand C dX10_lays_139 ?_
    refine q_lload C dX10_lays_140 rfl ?_
    refine q_lload C dX10_lays_142 rfl ?_
    refine q_lrem C dX10_lays_144 s13 ?_
    refine q_cVv (as := [.int (x1 - 1), .int ((2 * x2) + 1), .int (x3 &&& (x8 ^^^ ((-1)))), .long (l6 - l6 / (L9 (P5 a0 15) (Int32.toNatClampNeg (r7 + (x3 &&& (x8 ^^^ ((-1))))))) * (L9 (P5 a0 15) (Int32.toNatClampNeg (r7 + (x3 &&& (x8 ^^^ ((-1))))))))]) (st := []) (r := a0) C mv_X10_lays ml_RX10_239 dX10_lays_145 rfl s1 rfl (Nat.le_of_ble_eq_true rfl) ⟨Nat.le_refl _, Nat.le_refl _⟩ h (fun I17 L18 P19 h => ?_)
    exact q_vret C hk dX10_lays_148 ⟨rfl, h⟩
  · replace h := h.2 c6
    refine q_lload C dX10_lays_63 rfl ?_
    refine q_aload_n C dX10_lays_65 rfl ?_
    refine q_iload_n C dX10_lays_66 rfl ?_
    refine q_iload_n C dX10_lays_67 rfl ?_
    refine q_iload_n C dX10_lays_68 rfl ?_
    refine q_iload C dX10_lays_69 rfl ?_
    refine q_cVl (as := [.int x1, .int x2, .int x3, .int x8]) (st := [.long l6]) (r := a0) C mv_X10_waysBy ml_RX10_235 dX10_lays_71 rfl s1 rfl (Nat.le_of_ble_eq_true rfl) ⟨Nat.le_refl _, Nat.le_refl _⟩ h (fun r20 I21 L22 P23 h => ?_)
    refine q_lsub C dX10_lays_74 ?_
    refine q_lstore (lo1 := [some (.ref a0), some (.int x1), some (.int x2), some (.int x3), some (.long l4), none, some (.long (l6 - r20)), none, some (.int x8), none, none]) C dX10_lays_75 (by decide) rfl ?_
    refine q_iinc (w := 1) (lo1 := [some (.ref a0), some (.int x1), some (.int x2), some (.int x3), some (.long l4), none, some (.long (l6 - r20)), none, some (.int (x8 + 1)), none, none]) C dX10_lays_77 rfl (by decide) (by decide) rfl ?_
    refine q_goto (tgt := 48) C dX10_lays_80 (by decide) ?_
    exact hT2 _ _ _ _ _ h
theorem sp_X10_lays {d : Nat} {sh : List qSh} {K : Option Value → qMI → qML → qMP → Prop} {a0 : Nat} {x1 : Int32} {x2 : Int32} {x3 : Int32} {l4 : Int64} {I : qMI} {L : qML} {P : qMP} (T1 : Int32 → qMI → qML → qMP → Prop) (m1 : Int32 → qMI → qML → qMP → Nat) (T2 : Int64 → Int32 → qMI → qML → qMP → Prop) (m2 : Int64 → Int32 → qMI → qML → qMP → Nat) (h0 : vc_X10_lays_0 d sh K T1 T2 a0 x1 x2 x3 l4 I L P)
    (h1 : ∀ (x6 : Int32) (I : qMI) (L : qML) (P : qMP), T1 x6 I L P → vc_X10_lays_1 d sh K (fun w0 I' L' P' => T1 w0 I' L' P' ∧ m1 w0 I' L' P' < m1 x6 I L P) (fun w0 w1 I' L' P' => T2 w0 w1 I' L' P' ∧ m2 w0 w1 I' L' P' < m1 x6 I L P) a0 x1 x2 x3 l4 x6 I L P)
    (h2 : ∀ (l6 : Int64) (x8 : Int32) (I : qMI) (L : qML) (P : qMP), T2 l6 x8 I L P → vc_X10_lays_2 d sh K (fun w0 I' L' P' => T1 w0 I' L' P' ∧ m1 w0 I' L' P' < m2 l6 x8 I L P) (fun w0 w1 I' L' P' => T2 w0 w1 I' L' P' ∧ m2 w0 w1 I' L' P' < m2 l6 x8 I L P) a0 x1 x2 x3 l4 l6 x8 I L P) : Sq (d + 1) mX10_lays sh [.ref a0, .int x1, .int x2, .int x3, .long l4] I L P K := by
  refine Sq_of (by decide +kernel) (Nat.le_of_ble_eq_true rfl) (fun X C hk hn => ?_)
  have go : ∀ N : Nat, (∀ (x6 : Int32) (I : qMI) (L : qML) (P : qMP), T1 x6 I L P → m1 x6 I L P < N → qG X 7 [some (.ref a0), some (.int x1), some (.int x2), some (.int x3), some (.long l4), none, some (.int x6), none, none, none, none] [] sh I L P 0 0) ∧ (∀ (l6 : Int64) (x8 : Int32) (I : qMI) (L : qML) (P : qMP), T2 l6 x8 I L P → m2 l6 x8 I L P < N → qG X 48 [some (.ref a0), some (.int x1), some (.int x2), some (.int x3), some (.long l4), none, some (.long l6), none, some (.int x8), none, none] [] sh I L P 0 0) := by
    intro N
    induction N with
    | zero => exact ⟨fun _ _ _ _ _ q => absurd q (Nat.not_lt_zero _), fun _ _ _ _ _ _ q => absurd q (Nat.not_lt_zero _)⟩
    | succ N ih =>
      exact ⟨fun b0 I1 L1 P1 t q => rg_X10_lays_1 C hk (fun z0 I2 L2 P2 z => ih.1 z0 I2 L2 P2 z.1 (Nat.lt_of_lt_of_le z.2 (Nat.le_of_lt_succ q))) (fun z0 z1 I2 L2 P2 z => ih.2 z0 z1 I2 L2 P2 z.1 (Nat.lt_of_lt_of_le z.2 (Nat.le_of_lt_succ q))) (h1 b0 I1 L1 P1 t), fun b0 b1 I1 L1 P1 t q => rg_X10_lays_2 C hk (fun z0 I2 L2 P2 z => ih.1 z0 I2 L2 P2 z.1 (Nat.lt_of_lt_of_le z.2 (Nat.le_of_lt_succ q))) (fun z0 z1 I2 L2 P2 z => ih.2 z0 z1 I2 L2 P2 z.1 (Nat.lt_of_lt_of_le z.2 (Nat.le_of_lt_succ q))) (h2 b0 b1 I1 L1 P1 t)⟩
  exact rg_X10_lays_0 C hk (fun b0 I1 L1 P1 t => (go (m1 b0 I1 L1 P1 + 1)).1 b0 I1 L1 P1 t (Nat.lt_succ_self _)) (fun b0 b1 I1 L1 P1 t => (go (m2 b0 b1 I1 L1 P1 + 1)).2 b0 b1 I1 L1 P1 t (Nat.lt_succ_self _)) h0
/-! BracketDrawsModel.waysBy(IIII)J -/
def vc_X10_waysBy_0 (d : Nat) (sh : List qSh) (K : Option Value → qMI → qML → qMP → Prop) (a0 : Nat) (x1 : Int32) (x2 : Int32) (x3 : Int32) (x4 : Int32) (I : qMI) (L : qML) (P : qMP) : Prop :=
  (((x4 &&& (x3 ^^^ ((-1)))) = 0) → (((shp sh a0).1 = 10) ∧ (Sq d mX10_blockAt sh [.int (x1 - 1), .int (2 * x2)] I L P (KI fun r3 I4 L5 P6 => ((shp sh (P a0 15)).1 = 21) ∧ ((vp_in (r3 + x4) (shp sh (P a0 15)).2) ∧ (Sq d mX10_blockAt sh [.int (x1 - 1), .int ((2 * x2) + 1)] I4 L5 P6 (KI fun r9 I10 L11 P12 => ((shp sh (P6 a0 15)).1 = 21) ∧ ((vp_in (r9 + (x3 &&& (x4 ^^^ ((-1))))) (shp sh (P6 a0 15)).2) ∧ (K (some (.long ((L5 (P a0 15) (Int32.toNatClampNeg (r3 + x4))) * (L11 (P6 a0 15) (Int32.toNatClampNeg (r9 + (x3 &&& (x4 ^^^ ((-1)))))))))) I10 L11 P12))))))))) ∧ ((¬ (x4 &&& (x3 ^^^ ((-1)))) = 0) → (K (some (.long 0)) I L P))
set_option maxRecDepth 100000 in
set_option maxHeartbeats 4000000 in
theorem rg_X10_waysBy_0 {X : qCT} {d : Nat} {sh : List qSh} {K : Option Value → qMI → qML → qMP → Prop} {a0 : Nat} {x1 : Int32} {x2 : Int32} {x3 : Int32} {x4 : Int32} {I : qMI} {L : qML} {P : qMP} (C : qCB X RX10 cX10_waysBy 5 (d + 1) 0 0) (hk : qCK X (some .long) 0 0 (fun v sh' I' L' P' => sh' = sh ∧ K v I' L' P')) (h : vc_X10_waysBy_0 d sh K a0 x1 x2 x3 x4 I L P) : qG X 0 [some (.ref a0), some (.int x1), some (.int x2), some (.int x3), some (.int x4)] [] sh I L P 0 0 := by
  unfold vc_X10_waysBy_0 at h
  refine q_iload C dX10_waysBy_0 rfl ?_
  refine q_iload_n C dX10_waysBy_2 rfl ?_
  refine q_iconst (v := (-1)) C dX10_waysBy_3 (by decide) ?_
  refine q_ixor C dX10_waysBy_4 ?_
  refine q_iand C dX10_waysBy_5 ?_
  refine q_if_eq (tgt := 13) C dX10_waysBy_6 (by decide) (fun c1 => ?_) (fun c1 => ?_)
  · replace h := h.1 c1
    refine q_aload_n C dX10_waysBy_13 rfl ?_
    have s2 := h.1
    replace h := h.2
    refine q_getP C fl_RX10_37 rfl s2 dX10_waysBy_14 ?_
    refine q_iload_n C dX10_waysBy_17 rfl ?_
    refine q_iconst (v := 1) C dX10_waysBy_18 (by decide) ?_
    refine q_isub C dX10_waysBy_19 ?_
    refine q_iconst (v := 2) C dX10_waysBy_20 (by decide) ?_
    refine q_iload_n C dX10_waysBy_21 rfl ?_
    refine q_imul C dX10_waysBy_22 ?_
    refine q_cSi (as := [.int (x1 - 1), .int (2 * x2)]) (st := [.ref (P a0 15)]) C ms_X10_blockAt ml_RX10_193 dX10_waysBy_23 rfl rfl (Nat.le_of_ble_eq_true rfl) ⟨Nat.le_refl _, Nat.le_refl _⟩ h (fun r3 I4 L5 P6 h => ?_)
    refine q_iload C dX10_waysBy_26 rfl ?_
    refine q_iadd C dX10_waysBy_28 ?_
    have s7 := h.1
    replace h := h.2
    have s8 := h.1
    replace h := h.2
    refine q_lald C s7 s8 dX10_waysBy_29 ?_
    refine q_aload_n C dX10_waysBy_30 rfl ?_
    refine q_getP C fl_RX10_37 rfl s2 dX10_waysBy_31 ?_
    refine q_iload_n C dX10_waysBy_34 rfl ?_
    refine q_iconst (v := 1) C dX10_waysBy_35 (by decide) ?_
    refine q_isub C dX10_waysBy_36 ?_
    refine q_iconst (v := 2) C dX10_waysBy_37 (by decide) ?_
    refine q_iload_n C dX10_waysBy_38 rfl ?_
    refine q_imul C dX10_waysBy_39 ?_
    refine q_iconst (v := 1) C dX10_waysBy_40 (by decide) ?_
    refine q_iadd C dX10_waysBy_41 ?_
    refine q_cSi (as := [.int (x1 - 1), .int ((2 * x2) + 1)]) (st := [.ref (P6 a0 15), .long (L5 (P a0 15) (Int32.toNatClampNeg (r3 + x4)))]) C ms_X10_blockAt ml_RX10_193 dX10_waysBy_42 rfl rfl (Nat.le_of_ble_eq_true rfl) ⟨Nat.le_refl _, Nat.le_refl _⟩ h (fun r9 I10 L11 P12 h => ?_)
    refine q_iload_n C dX10_waysBy_45 rfl ?_
    refine q_iload C dX10_waysBy_46 rfl ?_
    refine q_iconst (v := (-1)) C dX10_waysBy_48 (by decide) ?_
    refine q_ixor C dX10_waysBy_49 ?_
    refine q_iand C dX10_waysBy_50 ?_
    refine q_iadd C dX10_waysBy_51 ?_
    have s13 := h.1
    replace h := h.2
    have s14 := h.1
    replace h := h.2
    refine q_lald C s13 s14 dX10_waysBy_52 ?_
    refine q_lmul C dX10_waysBy_53 ?_
    exact q_lret C hk dX10_waysBy_54 ⟨rfl, h⟩
  · replace h := h.2 c1
    refine q_lconst (v := 0) C dX10_waysBy_9 (by decide) ?_
    refine q_goto (tgt := 54) C dX10_waysBy_10 (by decide) ?_
    exact q_lret C hk dX10_waysBy_54 ⟨rfl, h⟩
theorem sp_X10_waysBy {d : Nat} {sh : List qSh} {K : Option Value → qMI → qML → qMP → Prop} {a0 : Nat} {x1 : Int32} {x2 : Int32} {x3 : Int32} {x4 : Int32} {I : qMI} {L : qML} {P : qMP} (h0 : vc_X10_waysBy_0 d sh K a0 x1 x2 x3 x4 I L P) : Sq (d + 1) mX10_waysBy sh [.ref a0, .int x1, .int x2, .int x3, .int x4] I L P K := by
  refine Sq_of (by decide +kernel) (Nat.le_of_ble_eq_true rfl) (fun X C hk hn => ?_)
  exact rg_X10_waysBy_0 C hk h0
/-! BracketDrawsModel.takes(J)V -/
def vc_X10_takes_0 (d : Nat) (sh : List qSh) (K : Option Value → qMI → qML → qMP → Prop) (T1 : Int32 → qMI → qML → qMP → Prop) (a0 : Nat) (l1 : Int64) (I : qMI) (L : qML) (P : qMP) : Prop :=
  ((shp sh a0).1 = 10) ∧ (Sq d mX10_changes sh [.ref a0] I L P (KV fun I2 L3 P4 => Sq d mX10_clears sh [.ref a0] I2 L3 P4 (KV fun I5 L6 P7 => ((shp sh (P7 a0 0)).1 = 20) ∧ ((vp_in 3 (shp sh (P7 a0 0)).2) ∧ (∀ I10 : qMI, I10 = uI I5 (P7 a0 0) (Int32.toNatClampNeg 3) 1 → (Sq d mX10_lastRound sh [.ref a0] I10 L6 P7 (KI fun r11 I12 L13 P14 => ((shp sh (P14 a0 0)).1 = 20) ∧ ((vp_in 0 (shp sh (P14 a0 0)).2) ∧ (Sq d mX10_lays sh [.ref a0, .int r11, .int 0, .int (((1 : Int32) <<< ((I12 (P14 a0 0) (Int32.toNatClampNeg 0)) &&& 31)) - 1), .long l1] I12 L13 P14 (KV fun I17 L18 P19 => T1 0 I17 L18 P19))))))))))
set_option maxRecDepth 100000 in
set_option maxHeartbeats 4000000 in
theorem rg_X10_takes_0 {X : qCT} {d : Nat} {sh : List qSh} {K : Option Value → qMI → qML → qMP → Prop} {T1 : Int32 → qMI → qML → qMP → Prop} {a0 : Nat} {l1 : Int64} {I : qMI} {L : qML} {P : qMP} (C : qCB X RX10 cX10_takes 4 (d + 1) 0 0) (hk : qCK X (none) 0 0 (fun v sh' I' L' P' => sh' = sh ∧ K v I' L' P')) (hT1 : ∀ (x3 : Int32) (I : qMI) (L : qML) (P : qMP), T1 x3 I L P → qG X 37 [some (.ref a0), some (.long l1), none, some (.int x3)] [] sh I L P 0 0) (h : vc_X10_takes_0 d sh K T1 a0 l1 I L P) : qG X 0 [some (.ref a0), some (.long l1), none, none] [] sh I L P 0 0 := by
  unfold vc_X10_takes_0 at h
  refine q_aload_n C dX10_takes_0 rfl ?_
  have s1 := h.1
  replace h := h.2
  refine q_cVv (as := []) (st := []) (r := a0) C mv_X10_changes ml_RX10_122 dX10_takes_1 rfl s1 rfl (Nat.le_of_ble_eq_true rfl) ⟨Nat.le_refl _, Nat.le_refl _⟩ h (fun I2 L3 P4 h => ?_)
  refine q_aload_n C dX10_takes_4 rfl ?_
  refine q_cVv (as := []) (st := []) (r := a0) C mv_X10_clears ml_RX10_74 dX10_takes_5 rfl s1 rfl (Nat.le_of_ble_eq_true rfl) ⟨Nat.le_refl _, Nat.le_refl _⟩ h (fun I5 L6 P7 h => ?_)
  refine q_aload_n C dX10_takes_8 rfl ?_
  refine q_getP C fl_RX10_9 rfl s1 dX10_takes_9 ?_
  refine q_iconst (v := 3) C dX10_takes_12 (by decide) ?_
  refine q_iconst (v := 1) C dX10_takes_13 (by decide) ?_
  have s8 := h.1
  replace h := h.2
  have s9 := h.1
  replace h := h.2
  refine q_iast C s8 s9 dX10_takes_14 (fun I10 eI10 => ?_)
  replace h := h I10 eI10
  refine q_aload_n C dX10_takes_15 rfl ?_
  refine q_aload_n C dX10_takes_16 rfl ?_
  refine q_cVi (as := []) (st := [.ref a0]) (r := a0) C mv_X10_lastRound ml_RX10_71 dX10_takes_17 rfl s1 rfl (Nat.le_of_ble_eq_true rfl) ⟨Nat.le_refl _, Nat.le_refl _⟩ h (fun r11 I12 L13 P14 h => ?_)
  refine q_iconst (v := 0) C dX10_takes_20 (by decide) ?_
  refine q_iconst (v := 1) C dX10_takes_21 (by decide) ?_
  refine q_aload_n C dX10_takes_22 rfl ?_
  refine q_getP C fl_RX10_9 rfl s1 dX10_takes_23 ?_
  refine q_iconst (v := 0) C dX10_takes_26 (by decide) ?_
  have s15 := h.1
  replace h := h.2
  have s16 := h.1
  replace h := h.2
  refine q_iald C s15 s16 dX10_takes_27 ?_
  refine q_ishl C dX10_takes_28 ?_
  refine q_iconst (v := 1) C dX10_takes_29 (by decide) ?_
  refine q_isub C dX10_takes_30 ?_
  refine q_lload_n C dX10_takes_31 rfl ?_
  refine q_cVv (as := [.int r11, .int 0, .int (((1 : Int32) <<< ((I12 (P14 a0 0) (Int32.toNatClampNeg 0)) &&& 31)) - 1), .long l1]) (st := []) (r := a0) C mv_X10_lays ml_RX10_239 dX10_takes_32 rfl s1 rfl (Nat.le_of_ble_eq_true rfl) ⟨Nat.le_refl _, Nat.le_refl _⟩ h (fun I17 L18 P19 h => ?_)
  refine q_iconst (v := 0) C dX10_takes_35 (by decide) ?_
  refine q_istore_n (lo1 := [some (.ref a0), some (.long l1), none, some (.int 0)]) C dX10_takes_36 (by decide) rfl ?_
  exact hT1 _ _ _ _ h
def vc_X10_takes_1 (d : Nat) (sh : List qSh) (K : Option Value → qMI → qML → qMP → Prop) (T1 : Int32 → qMI → qML → qMP → Prop) (a0 : Nat) (l1 : Int64) (x3 : Int32) (I : qMI) (L : qML) (P : qMP) : Prop :=
  ((8 ≤ x3) → (K none I L P)) ∧ ((¬ 8 ≤ x3) → (((shp sh a0).1 = 10) ∧ (((shp sh (P a0 0)).1 = 20) ∧ ((vp_in (76 + x3) (shp sh (P a0 0)).2) ∧ (∀ I5 : qMI, I5 = uI I (P a0 0) (Int32.toNatClampNeg (76 + x3)) ((-2)) → (T1 (x3 + 1) I5 L P))))))
set_option maxRecDepth 100000 in
set_option maxHeartbeats 4000000 in
theorem rg_X10_takes_1 {X : qCT} {d : Nat} {sh : List qSh} {K : Option Value → qMI → qML → qMP → Prop} {T1 : Int32 → qMI → qML → qMP → Prop} {a0 : Nat} {l1 : Int64} {x3 : Int32} {I : qMI} {L : qML} {P : qMP} (C : qCB X RX10 cX10_takes 4 (d + 1) 0 0) (hk : qCK X (none) 0 0 (fun v sh' I' L' P' => sh' = sh ∧ K v I' L' P')) (hT1 : ∀ (x3 : Int32) (I : qMI) (L : qML) (P : qMP), T1 x3 I L P → qG X 37 [some (.ref a0), some (.long l1), none, some (.int x3)] [] sh I L P 0 0) (h : vc_X10_takes_1 d sh K T1 a0 l1 x3 I L P) : qG X 37 [some (.ref a0), some (.long l1), none, some (.int x3)] [] sh I L P 0 0 := by
  unfold vc_X10_takes_1 at h
  refine q_iload_n C dX10_takes_37 rfl ?_
  refine q_bipush (v := 8) C dX10_takes_38 (by decide) ?_
  refine q_icmp_ge (tgt := 60) C dX10_takes_40 (by decide) (fun c1 => ?_) (fun c1 => ?_)
  · replace h := h.1 c1
    exact q_vret C hk dX10_takes_60 ⟨rfl, h⟩
  · replace h := h.2 c1
    refine q_aload_n C dX10_takes_43 rfl ?_
    have s2 := h.1
    replace h := h.2
    refine q_getP C fl_RX10_9 rfl s2 dX10_takes_44 ?_
    refine q_bipush (v := 76) C dX10_takes_47 (by decide) ?_
    refine q_iload_n C dX10_takes_49 rfl ?_
    refine q_iadd C dX10_takes_50 ?_
    refine q_bipush (v := (-2)) C dX10_takes_51 (by decide) ?_
    have s3 := h.1
    replace h := h.2
    have s4 := h.1
    replace h := h.2
    refine q_iast C s3 s4 dX10_takes_53 (fun I5 eI5 => ?_)
    replace h := h I5 eI5
    refine q_iinc (w := 1) (lo1 := [some (.ref a0), some (.long l1), none, some (.int (x3 + 1))]) C dX10_takes_54 rfl (by decide) (by decide) rfl ?_
    refine q_goto (tgt := 37) C dX10_takes_57 (by decide) ?_
    exact hT1 _ _ _ _ h
theorem sp_X10_takes {d : Nat} {sh : List qSh} {K : Option Value → qMI → qML → qMP → Prop} {a0 : Nat} {l1 : Int64} {I : qMI} {L : qML} {P : qMP} (T1 : Int32 → qMI → qML → qMP → Prop) (m1 : Int32 → qMI → qML → qMP → Nat) (h0 : vc_X10_takes_0 d sh K T1 a0 l1 I L P)
    (h1 : ∀ (x3 : Int32) (I : qMI) (L : qML) (P : qMP), T1 x3 I L P → vc_X10_takes_1 d sh K (fun w0 I' L' P' => T1 w0 I' L' P' ∧ m1 w0 I' L' P' < m1 x3 I L P) a0 l1 x3 I L P) : Sq (d + 1) mX10_takes sh [.ref a0, .long l1] I L P K := by
  refine Sq_of (by decide +kernel) (Nat.le_of_ble_eq_true rfl) (fun X C hk hn => ?_)
  have go : ∀ N : Nat, (∀ (x3 : Int32) (I : qMI) (L : qML) (P : qMP), T1 x3 I L P → m1 x3 I L P < N → qG X 37 [some (.ref a0), some (.long l1), none, some (.int x3)] [] sh I L P 0 0) := by
    intro N
    induction N with
    | zero => exact fun _ _ _ _ _ q => absurd q (Nat.not_lt_zero _)
    | succ N ih =>
      exact fun b0 I1 L1 P1 t q => rg_X10_takes_1 C hk (fun z0 I2 L2 P2 z => ih z0 I2 L2 P2 z.1 (Nat.lt_of_lt_of_le z.2 (Nat.le_of_lt_succ q))) (h1 b0 I1 L1 P1 t)
  exact rg_X10_takes_0 C hk (fun b0 I1 L1 P1 t => (go (m1 b0 I1 L1 P1 + 1)) b0 I1 L1 P1 t (Nat.lt_succ_self _)) h0
/-! BracketDrawsModel.take(J)I -/
def vc_X10_take_0 (d : Nat) (sh : List qSh) (K : Option Value → qMI → qML → qMP → Prop) (a0 : Nat) (l1 : Int64) (I : qMI) (L : qML) (P : qMP) : Prop :=
  ((shp sh a0).1 = 10) ∧ (Sq d mX10_areFew sh [.ref a0] I L P (KI fun r2 I3 L4 P5 => ((r2 = 0) → (Sq d mX10_all sh [.ref a0] I3 L4 P5 (KL fun r7 I8 L9 P10 => Sq d mX10_in sh [.long l1, .long 0, .long (r7 - 1)] I8 L9 P10 (KI fun r11 I12 L13 P14 => ((¬ r11 = 0) → (Sq d mX10_takes sh [.ref a0, .long l1] I12 L13 P14 (KV fun I16 L17 P18 => Sq d mX10_byes sh [.ref a0] I16 L17 P18 (KI fun r19 I20 L21 P22 => K (some (.int r19)) I20 L21 P22)))) ∧ ((r11 = 0) → (K (some (.int ((-2)))) I12 L13 P14)))))) ∧ ((¬ r2 = 0) → (K (some (.int ((-5)))) I3 L4 P5))))
set_option maxRecDepth 100000 in
set_option maxHeartbeats 4000000 in
theorem rg_X10_take_0 {X : qCT} {d : Nat} {sh : List qSh} {K : Option Value → qMI → qML → qMP → Prop} {a0 : Nat} {l1 : Int64} {I : qMI} {L : qML} {P : qMP} (C : qCB X RX10 cX10_take 3 (d + 1) 0 0) (hk : qCK X (some .int) 0 0 (fun v sh' I' L' P' => sh' = sh ∧ K v I' L' P')) (h : vc_X10_take_0 d sh K a0 l1 I L P) : qG X 0 [some (.ref a0), some (.long l1), none] [] sh I L P 0 0 := by
  unfold vc_X10_take_0 at h
  refine q_aload_n C dX10_take_0 rfl ?_
  have s1 := h.1
  replace h := h.2
  refine q_cVi (as := []) (st := []) (r := a0) C mv_X10_areFew ml_RX10_214 dX10_take_1 rfl s1 rfl (Nat.le_of_ble_eq_true rfl) ⟨Nat.le_refl _, Nat.le_refl _⟩ h (fun r2 I3 L4 P5 h => ?_)
  refine q_if_eq (tgt := 10) C dX10_take_4 (by decide) (fun c6 => ?_) (fun c6 => ?_)
  · replace h := h.1 c6
    refine q_lload_n C dX10_take_10 rfl ?_
    refine q_lconst (v := 0) C dX10_take_11 (by decide) ?_
    refine q_aload_n C dX10_take_12 rfl ?_
    refine q_cVl (as := []) (st := [.long 0, .long l1]) (r := a0) C mv_X10_all ml_RX10_219 dX10_take_13 rfl s1 rfl (Nat.le_of_ble_eq_true rfl) ⟨Nat.le_refl _, Nat.le_refl _⟩ h (fun r7 I8 L9 P10 h => ?_)
    refine q_lconst (v := 1) C dX10_take_16 (by decide) ?_
    refine q_lsub C dX10_take_17 ?_
    refine q_cSi (as := [.long l1, .long 0, .long (r7 - 1)]) (st := []) C ms_X10_in ml_RX10_63 dX10_take_18 rfl rfl (Nat.le_of_ble_eq_true rfl) ⟨Nat.le_refl _, Nat.le_refl _⟩ h (fun r11 I12 L13 P14 h => ?_)
    refine q_if_ne (tgt := 27) C dX10_take_21 (by decide) (fun c15 => ?_) (fun c15 => ?_)
    · replace h := h.1 c15
      refine q_aload_n C dX10_take_27 rfl ?_
      refine q_lload_n C dX10_take_28 rfl ?_
      refine q_cVv (as := [.long l1]) (st := []) (r := a0) C mv_X10_takes ml_RX10_243 dX10_take_29 rfl s1 rfl (Nat.le_of_ble_eq_true rfl) ⟨Nat.le_refl _, Nat.le_refl _⟩ h (fun I16 L17 P18 h => ?_)
      refine q_aload_n C dX10_take_32 rfl ?_
      refine q_cVi (as := []) (st := []) (r := a0) C mv_X10_byes ml_RX10_174 dX10_take_33 rfl s1 rfl (Nat.le_of_ble_eq_true rfl) ⟨Nat.le_refl _, Nat.le_refl _⟩ h (fun r19 I20 L21 P22 h => ?_)
      exact q_iret C hk dX10_take_36 ⟨rfl, h⟩
    · replace h := h.2 c15
      refine q_bipush (v := (-2)) C dX10_take_24 (by decide) ?_
      exact q_iret C hk dX10_take_26 ⟨rfl, h⟩
  · replace h := h.2 c6
    refine q_bipush (v := (-5)) C dX10_take_7 (by decide) ?_
    exact q_iret C hk dX10_take_9 ⟨rfl, h⟩
theorem sp_X10_take {d : Nat} {sh : List qSh} {K : Option Value → qMI → qML → qMP → Prop} {a0 : Nat} {l1 : Int64} {I : qMI} {L : qML} {P : qMP} (h0 : vc_X10_take_0 d sh K a0 l1 I L P) : Sq (d + 1) mX10_take sh [.ref a0, .long l1] I L P K := by
  refine Sq_of (by decide +kernel) (Nat.le_of_ble_eq_true rfl) (fun X C hk hn => ?_)
  exact rg_X10_take_0 C hk h0
/-! BracketDrawsModel.drawn(I)J -/
def vc_X10_drawn_0 (d : Nat) (sh : List qSh) (K : Option Value → qMI → qML → qMP → Prop) (a0 : Nat) (x1 : Int32) (I : qMI) (L : qML) (P : qMP) : Prop :=
  ((shp sh a0).1 = 10) ∧ (Sq d mX10_areFew sh [.ref a0] I L P (KI fun r2 I3 L4 P5 => ((r2 = 0) → (Sq d mX10_all sh [.ref a0] I3 L4 P5 (KL fun r7 I8 L9 P10 => ((¬ r7 = 0) → (Sq d mX10_all sh [.ref a0] I8 L9 P10 (KL fun r12 I13 L14 P15 => (¬ r12 = 0) ∧ (Sq d mX10_takes sh [.ref a0, .long ((Int32.toInt64 ((((x1 * 1103515245) + 12345) &&& 2147483647) / 256)) - (Int32.toInt64 ((((x1 * 1103515245) + 12345) &&& 2147483647) / 256)) / r12 * r12)] I13 L14 P15 (KV fun I17 L18 P19 => K (some (.long ((Int32.toInt64 ((((x1 * 1103515245) + 12345) &&& 2147483647) / 256)) - (Int32.toInt64 ((((x1 * 1103515245) + 12345) &&& 2147483647) / 256)) / r12 * r12))) I17 L18 P19))))) ∧ ((r7 = 0) → (K (some (.long ((-2)))) I8 L9 P10))))) ∧ ((¬ r2 = 0) → (K (some (.long ((-5)))) I3 L4 P5))))
set_option maxRecDepth 100000 in
set_option maxHeartbeats 4000000 in
theorem rg_X10_drawn_0 {X : qCT} {d : Nat} {sh : List qSh} {K : Option Value → qMI → qML → qMP → Prop} {a0 : Nat} {x1 : Int32} {I : qMI} {L : qML} {P : qMP} (C : qCB X RX10 cX10_drawn 5 (d + 1) 0 0) (hk : qCK X (some .long) 0 0 (fun v sh' I' L' P' => sh' = sh ∧ K v I' L' P')) (h : vc_X10_drawn_0 d sh K a0 x1 I L P) : qG X 0 [some (.ref a0), some (.int x1), none, none, none] [] sh I L P 0 0 := by
  unfold vc_X10_drawn_0 at h
  refine q_aload_n C dX10_drawn_0 rfl ?_
  have s1 := h.1
  replace h := h.2
  refine q_cVi (as := []) (st := []) (r := a0) C mv_X10_areFew ml_RX10_214 dX10_drawn_1 rfl s1 rfl (Nat.le_of_ble_eq_true rfl) ⟨Nat.le_refl _, Nat.le_refl _⟩ h (fun r2 I3 L4 P5 h => ?_)
  refine q_if_eq (tgt := 11) C dX10_drawn_4 (by decide) (fun c6 => ?_) (fun c6 => ?_)
  · replace h := h.1 c6
    refine q_aload_n C dX10_drawn_11 rfl ?_
    refine q_cVl (as := []) (st := []) (r := a0) C mv_X10_all ml_RX10_219 dX10_drawn_12 rfl s1 rfl (Nat.le_of_ble_eq_true rfl) ⟨Nat.le_refl _, Nat.le_refl _⟩ h (fun r7 I8 L9 P10 h => ?_)
    refine q_lconst (v := 0) C dX10_drawn_15 (by decide) ?_
    refine q_lcmp_ne (tgt := 24) C dX10_drawn_16 dX10_drawn_17 (by decide) (fun c11 => ?_) (fun c11 => ?_)
    · replace h := h.1 c11
      refine q_iload_n C dX10_drawn_24 rfl ?_
      refine q_ldc C kc_RX10_249 dX10_drawn_25 ?_
      refine q_imul C dX10_drawn_27 ?_
      refine q_sipush (v := 12345) C dX10_drawn_28 (by decide) ?_
      refine q_iadd C dX10_drawn_31 ?_
      refine q_istore_n (lo1 := [some (.ref a0), some (.int x1), some (.int ((x1 * 1103515245) + 12345)), none, none]) C dX10_drawn_32 (by decide) rfl ?_
      refine q_iload_n C dX10_drawn_33 rfl ?_
      refine q_ldc C kc_RX10_250 dX10_drawn_34 ?_
      refine q_iand C dX10_drawn_36 ?_
      refine q_sipush (v := 256) C dX10_drawn_37 (by decide) ?_
      refine q_idiv C dX10_drawn_40 (by decide) ?_
      refine q_i2l C dX10_drawn_41 ?_
      refine q_aload_n C dX10_drawn_42 rfl ?_
      refine q_cVl (as := []) (st := [.long (Int32.toInt64 ((((x1 * 1103515245) + 12345) &&& 2147483647) / 256))]) (r := a0) C mv_X10_all ml_RX10_219 dX10_drawn_43 rfl s1 rfl (Nat.le_of_ble_eq_true rfl) ⟨Nat.le_refl _, Nat.le_refl _⟩ h (fun r12 I13 L14 P15 h => ?_)
      have s16 := h.1
      replace h := h.2
      refine q_lrem C dX10_drawn_46 s16 ?_
      refine q_lstore_n (lo1 := [some (.ref a0), some (.int x1), some (.int ((x1 * 1103515245) + 12345)), some (.long ((Int32.toInt64 ((((x1 * 1103515245) + 12345) &&& 2147483647) / 256)) - (Int32.toInt64 ((((x1 * 1103515245) + 12345) &&& 2147483647) / 256)) / r12 * r12)), none]) C dX10_drawn_47 (by decide) rfl ?_
      refine q_aload_n C dX10_drawn_48 rfl ?_
      refine q_lload_n C dX10_drawn_49 rfl ?_
      refine q_cVv (as := [.long ((Int32.toInt64 ((((x1 * 1103515245) + 12345) &&& 2147483647) / 256)) - (Int32.toInt64 ((((x1 * 1103515245) + 12345) &&& 2147483647) / 256)) / r12 * r12)]) (st := []) (r := a0) C mv_X10_takes ml_RX10_243 dX10_drawn_50 rfl s1 rfl (Nat.le_of_ble_eq_true rfl) ⟨Nat.le_refl _, Nat.le_refl _⟩ h (fun I17 L18 P19 h => ?_)
      refine q_lload_n C dX10_drawn_53 rfl ?_
      exact q_lret C hk dX10_drawn_54 ⟨rfl, h⟩
    · replace h := h.2 c11
      refine q_ldc2 C kl_RX10_247 dX10_drawn_20 ?_
      exact q_lret C hk dX10_drawn_23 ⟨rfl, h⟩
  · replace h := h.2 c6
    refine q_ldc2 C kl_RX10_217 dX10_drawn_7 ?_
    exact q_lret C hk dX10_drawn_10 ⟨rfl, h⟩
theorem sp_X10_drawn {d : Nat} {sh : List qSh} {K : Option Value → qMI → qML → qMP → Prop} {a0 : Nat} {x1 : Int32} {I : qMI} {L : qML} {P : qMP} (h0 : vc_X10_drawn_0 d sh K a0 x1 I L P) : Sq (d + 1) mX10_drawn sh [.ref a0, .int x1] I L P K := by
  refine Sq_of (by decide +kernel) (Nat.le_of_ble_eq_true rfl) (fun X C hk hn => ?_)
  exact rg_X10_drawn_0 C hk h0
/-! BracketDrawsModel.sits()V -/
def vc_X10_sits_0 (d : Nat) (sh : List qSh) (K : Option Value → qMI → qML → qMP → Prop) (T1 : Int32 → qMI → qML → qMP → Prop) (a0 : Nat) (I : qMI) (L : qML) (P : qMP) : Prop :=
  T1 0 I L P
set_option maxRecDepth 100000 in
set_option maxHeartbeats 4000000 in
theorem rg_X10_sits_0 {X : qCT} {d : Nat} {sh : List qSh} {K : Option Value → qMI → qML → qMP → Prop} {T1 : Int32 → qMI → qML → qMP → Prop} {a0 : Nat} {I : qMI} {L : qML} {P : qMP} (C : qCB X RX10 cX10_sits 2 (d + 1) 0 0) (hk : qCK X (none) 0 0 (fun v sh' I' L' P' => sh' = sh ∧ K v I' L' P')) (hT1 : ∀ (x1 : Int32) (I : qMI) (L : qML) (P : qMP), T1 x1 I L P → qG X 2 [some (.ref a0), some (.int x1)] [] sh I L P 0 0) (h : vc_X10_sits_0 d sh K T1 a0 I L P) : qG X 0 [some (.ref a0), none] [] sh I L P 0 0 := by
  unfold vc_X10_sits_0 at h
  refine q_iconst (v := 0) C dX10_sits_0 (by decide) ?_
  refine q_istore_n (lo1 := [some (.ref a0), some (.int 0)]) C dX10_sits_1 (by decide) rfl ?_
  exact hT1 _ _ _ _ h
def vc_X10_sits_1 (d : Nat) (sh : List qSh) (K : Option Value → qMI → qML → qMP → Prop) (T1 : Int32 → qMI → qML → qMP → Prop) (a0 : Nat) (x1 : Int32) (I : qMI) (L : qML) (P : qMP) : Prop :=
  ((16 ≤ x1) → (K none I L P)) ∧ ((¬ 16 ≤ x1) → (((shp sh a0).1 = 10) ∧ (((shp sh (P a0 0)).1 = 20) ∧ ((vp_in (45 + x1) (shp sh (P a0 0)).2) ∧ (((shp sh (P a0 26)).1 = 20) ∧ ((vp_in x1 (shp sh (P a0 26)).2) ∧ (∀ I7 : qMI, I7 = uI I (P a0 26) (Int32.toNatClampNeg x1) (I (P a0 0) (Int32.toNatClampNeg (45 + x1))) → (T1 (x1 + 1) I7 L P))))))))
set_option maxRecDepth 100000 in
set_option maxHeartbeats 4000000 in
theorem rg_X10_sits_1 {X : qCT} {d : Nat} {sh : List qSh} {K : Option Value → qMI → qML → qMP → Prop} {T1 : Int32 → qMI → qML → qMP → Prop} {a0 : Nat} {x1 : Int32} {I : qMI} {L : qML} {P : qMP} (C : qCB X RX10 cX10_sits 2 (d + 1) 0 0) (hk : qCK X (none) 0 0 (fun v sh' I' L' P' => sh' = sh ∧ K v I' L' P')) (hT1 : ∀ (x1 : Int32) (I : qMI) (L : qML) (P : qMP), T1 x1 I L P → qG X 2 [some (.ref a0), some (.int x1)] [] sh I L P 0 0) (h : vc_X10_sits_1 d sh K T1 a0 x1 I L P) : qG X 2 [some (.ref a0), some (.int x1)] [] sh I L P 0 0 := by
  unfold vc_X10_sits_1 at h
  refine q_iload_n C dX10_sits_2 rfl ?_
  refine q_bipush (v := 16) C dX10_sits_3 (by decide) ?_
  refine q_icmp_ge (tgt := 29) C dX10_sits_5 (by decide) (fun c1 => ?_) (fun c1 => ?_)
  · replace h := h.1 c1
    exact q_vret C hk dX10_sits_29 ⟨rfl, h⟩
  · replace h := h.2 c1
    refine q_aload_n C dX10_sits_8 rfl ?_
    have s2 := h.1
    replace h := h.2
    refine q_getP C fl_RX10_57 rfl s2 dX10_sits_9 ?_
    refine q_iload_n C dX10_sits_12 rfl ?_
    refine q_aload_n C dX10_sits_13 rfl ?_
    refine q_getP C fl_RX10_9 rfl s2 dX10_sits_14 ?_
    refine q_bipush (v := 45) C dX10_sits_17 (by decide) ?_
    refine q_iload_n C dX10_sits_19 rfl ?_
    refine q_iadd C dX10_sits_20 ?_
    have s3 := h.1
    replace h := h.2
    have s4 := h.1
    replace h := h.2
    refine q_iald C s3 s4 dX10_sits_21 ?_
    have s5 := h.1
    replace h := h.2
    have s6 := h.1
    replace h := h.2
    refine q_iast C s5 s6 dX10_sits_22 (fun I7 eI7 => ?_)
    replace h := h I7 eI7
    refine q_iinc (w := 1) (lo1 := [some (.ref a0), some (.int (x1 + 1))]) C dX10_sits_23 rfl (by decide) (by decide) rfl ?_
    refine q_goto (tgt := 2) C dX10_sits_26 (by decide) ?_
    exact hT1 _ _ _ _ h
theorem sp_X10_sits {d : Nat} {sh : List qSh} {K : Option Value → qMI → qML → qMP → Prop} {a0 : Nat} {I : qMI} {L : qML} {P : qMP} (T1 : Int32 → qMI → qML → qMP → Prop) (m1 : Int32 → qMI → qML → qMP → Nat) (h0 : vc_X10_sits_0 d sh K T1 a0 I L P)
    (h1 : ∀ (x1 : Int32) (I : qMI) (L : qML) (P : qMP), T1 x1 I L P → vc_X10_sits_1 d sh K (fun w0 I' L' P' => T1 w0 I' L' P' ∧ m1 w0 I' L' P' < m1 x1 I L P) a0 x1 I L P) : Sq (d + 1) mX10_sits sh [.ref a0] I L P K := by
  refine Sq_of (by decide +kernel) (Nat.le_of_ble_eq_true rfl) (fun X C hk hn => ?_)
  have go : ∀ N : Nat, (∀ (x1 : Int32) (I : qMI) (L : qML) (P : qMP), T1 x1 I L P → m1 x1 I L P < N → qG X 2 [some (.ref a0), some (.int x1)] [] sh I L P 0 0) := by
    intro N
    induction N with
    | zero => exact fun _ _ _ _ _ q => absurd q (Nat.not_lt_zero _)
    | succ N ih =>
      exact fun b0 I1 L1 P1 t q => rg_X10_sits_1 C hk (fun z0 I2 L2 P2 z => ih z0 I2 L2 P2 z.1 (Nat.lt_of_lt_of_le z.2 (Nat.le_of_lt_succ q))) (h1 b0 I1 L1 P1 t)
  exact rg_X10_sits_0 C hk (fun b0 I1 L1 P1 t => (go (m1 b0 I1 L1 P1 + 1)) b0 I1 L1 P1 t (Nat.lt_succ_self _)) h0
/-! BracketDrawsModel.setOf(II)I -/
def vc_X10_setOf_0 (d : Nat) (sh : List qSh) (K : Option Value → qMI → qML → qMP → Prop) (T1 : Int32 → Int32 → qMI → qML → qMP → Prop) (a0 : Nat) (x1 : Int32) (x2 : Int32) (I : qMI) (L : qML) (P : qMP) : Prop :=
  T1 0 (x2 <<< (x1 &&& 31)) I L P
set_option maxRecDepth 100000 in
set_option maxHeartbeats 4000000 in
theorem rg_X10_setOf_0 {X : qCT} {d : Nat} {sh : List qSh} {K : Option Value → qMI → qML → qMP → Prop} {T1 : Int32 → Int32 → qMI → qML → qMP → Prop} {a0 : Nat} {x1 : Int32} {x2 : Int32} {I : qMI} {L : qML} {P : qMP} (C : qCB X RX10 cX10_setOf 5 (d + 1) 0 0) (hk : qCK X (some .int) 0 0 (fun v sh' I' L' P' => sh' = sh ∧ K v I' L' P')) (hT1 : ∀ (x3 : Int32) (x4 : Int32) (I : qMI) (L : qML) (P : qMP), T1 x3 x4 I L P → qG X 7 [some (.ref a0), some (.int x1), some (.int x2), some (.int x3), some (.int x4)] [] sh I L P 0 0) (h : vc_X10_setOf_0 d sh K T1 a0 x1 x2 I L P) : qG X 0 [some (.ref a0), some (.int x1), some (.int x2), none, none] [] sh I L P 0 0 := by
  unfold vc_X10_setOf_0 at h
  refine q_iconst (v := 0) C dX10_setOf_0 (by decide) ?_
  refine q_istore_n (lo1 := [some (.ref a0), some (.int x1), some (.int x2), some (.int 0), none]) C dX10_setOf_1 (by decide) rfl ?_
  refine q_iload_n C dX10_setOf_2 rfl ?_
  refine q_iload_n C dX10_setOf_3 rfl ?_
  refine q_ishl C dX10_setOf_4 ?_
  refine q_istore (lo1 := [some (.ref a0), some (.int x1), some (.int x2), some (.int 0), some (.int (x2 <<< (x1 &&& 31)))]) C dX10_setOf_5 (by decide) rfl ?_
  exact hT1 _ _ _ _ _ h
def vc_X10_setOf_1 (d : Nat) (sh : List qSh) (K : Option Value → qMI → qML → qMP → Prop) (T1 : Int32 → Int32 → qMI → qML → qMP → Prop) (a0 : Nat) (x1 : Int32) (x2 : Int32) (x3 : Int32) (x4 : Int32) (I : qMI) (L : qML) (P : qMP) : Prop :=
  ((((x2 + 1) <<< (x1 &&& 31)) ≤ x4) → (K (some (.int x3)) I L P)) ∧ ((¬ ((x2 + 1) <<< (x1 &&& 31)) ≤ x4) → (((shp sh a0).1 = 10) ∧ (((shp sh (P a0 26)).1 = 20) ∧ ((vp_in x4 (shp sh (P a0 26)).2) ∧ (((¬ (I (P a0 26) (Int32.toNatClampNeg x4)) = 10) → (T1 (x3 ||| ((1 : Int32) <<< ((I (P a0 26) (Int32.toNatClampNeg x4)) &&& 31))) (x4 + 1) I L P)) ∧ (((I (P a0 26) (Int32.toNatClampNeg x4)) = 10) → (T1 (x3 ||| 0) (x4 + 1) I L P)))))))
set_option maxRecDepth 100000 in
set_option maxHeartbeats 4000000 in
theorem rg_X10_setOf_1 {X : qCT} {d : Nat} {sh : List qSh} {K : Option Value → qMI → qML → qMP → Prop} {T1 : Int32 → Int32 → qMI → qML → qMP → Prop} {a0 : Nat} {x1 : Int32} {x2 : Int32} {x3 : Int32} {x4 : Int32} {I : qMI} {L : qML} {P : qMP} (C : qCB X RX10 cX10_setOf 5 (d + 1) 0 0) (hk : qCK X (some .int) 0 0 (fun v sh' I' L' P' => sh' = sh ∧ K v I' L' P')) (hT1 : ∀ (x3 : Int32) (x4 : Int32) (I : qMI) (L : qML) (P : qMP), T1 x3 x4 I L P → qG X 7 [some (.ref a0), some (.int x1), some (.int x2), some (.int x3), some (.int x4)] [] sh I L P 0 0) (h : vc_X10_setOf_1 d sh K T1 a0 x1 x2 x3 x4 I L P) : qG X 7 [some (.ref a0), some (.int x1), some (.int x2), some (.int x3), some (.int x4)] [] sh I L P 0 0 := by
  unfold vc_X10_setOf_1 at h
  refine q_iload C dX10_setOf_7 rfl ?_
  refine q_iload_n C dX10_setOf_9 rfl ?_
  refine q_iconst (v := 1) C dX10_setOf_10 (by decide) ?_
  refine q_iadd C dX10_setOf_11 ?_
  refine q_iload_n C dX10_setOf_12 rfl ?_
  refine q_ishl C dX10_setOf_13 ?_
  refine q_icmp_ge (tgt := 51) C dX10_setOf_14 (by decide) (fun c1 => ?_) (fun c1 => ?_)
  · replace h := h.1 c1
    refine q_iload_n C dX10_setOf_51 rfl ?_
    exact q_iret C hk dX10_setOf_52 ⟨rfl, h⟩
  · replace h := h.2 c1
    refine q_iload_n C dX10_setOf_17 rfl ?_
    refine q_aload_n C dX10_setOf_18 rfl ?_
    have s2 := h.1
    replace h := h.2
    refine q_getP C fl_RX10_57 rfl s2 dX10_setOf_19 ?_
    refine q_iload C dX10_setOf_22 rfl ?_
    have s3 := h.1
    replace h := h.2
    have s4 := h.1
    replace h := h.2
    refine q_iald C s3 s4 dX10_setOf_24 ?_
    refine q_bipush (v := 10) C dX10_setOf_25 (by decide) ?_
    refine q_icmp_ne (tgt := 34) C dX10_setOf_27 (by decide) (fun c5 => ?_) (fun c5 => ?_)
    · replace h := h.1 c5
      refine q_iconst (v := 1) C dX10_setOf_34 (by decide) ?_
      refine q_aload_n C dX10_setOf_35 rfl ?_
      refine q_getP C fl_RX10_57 rfl s2 dX10_setOf_36 ?_
      refine q_iload C dX10_setOf_39 rfl ?_
      refine q_iald C s3 s4 dX10_setOf_41 ?_
      refine q_ishl C dX10_setOf_42 ?_
      refine q_ior C dX10_setOf_43 ?_
      refine q_istore_n (lo1 := [some (.ref a0), some (.int x1), some (.int x2), some (.int (x3 ||| ((1 : Int32) <<< ((I (P a0 26) (Int32.toNatClampNeg x4)) &&& 31)))), some (.int x4)]) C dX10_setOf_44 (by decide) rfl ?_
      refine q_iinc (w := 1) (lo1 := [some (.ref a0), some (.int x1), some (.int x2), some (.int (x3 ||| ((1 : Int32) <<< ((I (P a0 26) (Int32.toNatClampNeg x4)) &&& 31)))), some (.int (x4 + 1))]) C dX10_setOf_45 rfl (by decide) (by decide) rfl ?_
      refine q_goto (tgt := 7) C dX10_setOf_48 (by decide) ?_
      exact hT1 _ _ _ _ _ h
    · replace h := h.2 c5
      refine q_iconst (v := 0) C dX10_setOf_30 (by decide) ?_
      refine q_goto (tgt := 43) C dX10_setOf_31 (by decide) ?_
      refine q_ior C dX10_setOf_43 ?_
      refine q_istore_n (lo1 := [some (.ref a0), some (.int x1), some (.int x2), some (.int (x3 ||| 0)), some (.int x4)]) C dX10_setOf_44 (by decide) rfl ?_
      refine q_iinc (w := 1) (lo1 := [some (.ref a0), some (.int x1), some (.int x2), some (.int (x3 ||| 0)), some (.int (x4 + 1))]) C dX10_setOf_45 rfl (by decide) (by decide) rfl ?_
      refine q_goto (tgt := 7) C dX10_setOf_48 (by decide) ?_
      exact hT1 _ _ _ _ _ h
theorem sp_X10_setOf {d : Nat} {sh : List qSh} {K : Option Value → qMI → qML → qMP → Prop} {a0 : Nat} {x1 : Int32} {x2 : Int32} {I : qMI} {L : qML} {P : qMP} (T1 : Int32 → Int32 → qMI → qML → qMP → Prop) (m1 : Int32 → Int32 → qMI → qML → qMP → Nat) (h0 : vc_X10_setOf_0 d sh K T1 a0 x1 x2 I L P)
    (h1 : ∀ (x3 : Int32) (x4 : Int32) (I : qMI) (L : qML) (P : qMP), T1 x3 x4 I L P → vc_X10_setOf_1 d sh K (fun w0 w1 I' L' P' => T1 w0 w1 I' L' P' ∧ m1 w0 w1 I' L' P' < m1 x3 x4 I L P) a0 x1 x2 x3 x4 I L P) : Sq (d + 1) mX10_setOf sh [.ref a0, .int x1, .int x2] I L P K := by
  refine Sq_of (by decide +kernel) (Nat.le_of_ble_eq_true rfl) (fun X C hk hn => ?_)
  have go : ∀ N : Nat, (∀ (x3 : Int32) (x4 : Int32) (I : qMI) (L : qML) (P : qMP), T1 x3 x4 I L P → m1 x3 x4 I L P < N → qG X 7 [some (.ref a0), some (.int x1), some (.int x2), some (.int x3), some (.int x4)] [] sh I L P 0 0) := by
    intro N
    induction N with
    | zero => exact fun _ _ _ _ _ _ q => absurd q (Nat.not_lt_zero _)
    | succ N ih =>
      exact fun b0 b1 I1 L1 P1 t q => rg_X10_setOf_1 C hk (fun z0 z1 I2 L2 P2 z => ih z0 z1 I2 L2 P2 z.1 (Nat.lt_of_lt_of_le z.2 (Nat.le_of_lt_succ q))) (h1 b0 b1 I1 L1 P1 t)
  exact rg_X10_setOf_0 C hk (fun b0 b1 I1 L1 P1 t => (go (m1 b0 b1 I1 L1 P1 + 1)) b0 b1 I1 L1 P1 t (Nat.lt_succ_self _)) h0
/-! BracketDrawsModel.rank(II)J -/
def vc_X10_rank_0 (d : Nat) (sh : List qSh) (K : Option Value → qMI → qML → qMP → Prop) (T1 : Int32 → Int32 → Int64 → Int32 → qMI → qML → qMP → Prop) (a0 : Nat) (x1 : Int32) (x2 : Int32) (I : qMI) (L : qML) (P : qMP) : Prop :=
  ((¬ x1 = 0) → (((shp sh a0).1 = 10) ∧ (Sq d mX10_setOf sh [.ref a0, .int x1, .int x2] I L P (KI fun r3 I4 L5 P6 => Sq d mX10_setOf sh [.ref a0, .int (x1 - 1), .int (2 * x2)] I4 L5 P6 (KI fun r7 I8 L9 P10 => T1 r3 r7 0 0 I8 L9 P10))))) ∧ ((x1 = 0) → (K (some (.long 0)) I L P))
set_option maxRecDepth 100000 in
set_option maxHeartbeats 4000000 in
theorem rg_X10_rank_0 {X : qCT} {d : Nat} {sh : List qSh} {K : Option Value → qMI → qML → qMP → Prop} {T1 : Int32 → Int32 → Int64 → Int32 → qMI → qML → qMP → Prop} {a0 : Nat} {x1 : Int32} {x2 : Int32} {I : qMI} {L : qML} {P : qMP} (C : qCB X RX10 cX10_rank 8 (d + 1) 0 0) (hk : qCK X (some .long) 0 0 (fun v sh' I' L' P' => sh' = sh ∧ K v I' L' P')) (hT1 : ∀ (x3 : Int32) (x4 : Int32) (l5 : Int64) (x7 : Int32) (I : qMI) (L : qML) (P : qMP), T1 x3 x4 l5 x7 I L P → qG X 31 [some (.ref a0), some (.int x1), some (.int x2), some (.int x3), some (.int x4), some (.long l5), none, some (.int x7)] [] sh I L P 0 0) (h : vc_X10_rank_0 d sh K T1 a0 x1 x2 I L P) : qG X 0 [some (.ref a0), some (.int x1), some (.int x2), none, none, none, none, none] [] sh I L P 0 0 := by
  unfold vc_X10_rank_0 at h
  refine q_iload_n C dX10_rank_0 rfl ?_
  refine q_if_ne (tgt := 6) C dX10_rank_1 (by decide) (fun c1 => ?_) (fun c1 => ?_)
  · replace h := h.1 c1
    refine q_aload_n C dX10_rank_6 rfl ?_
    refine q_iload_n C dX10_rank_7 rfl ?_
    refine q_iload_n C dX10_rank_8 rfl ?_
    have s2 := h.1
    replace h := h.2
    refine q_cVi (as := [.int x1, .int x2]) (st := []) (r := a0) C mv_X10_setOf ml_RX10_251 dX10_rank_9 rfl s2 rfl (Nat.le_of_ble_eq_true rfl) ⟨Nat.le_refl _, Nat.le_refl _⟩ h (fun r3 I4 L5 P6 h => ?_)
    refine q_istore_n (lo1 := [some (.ref a0), some (.int x1), some (.int x2), some (.int r3), none, none, none, none]) C dX10_rank_12 (by decide) rfl ?_
    refine q_aload_n C dX10_rank_13 rfl ?_
    refine q_iload_n C dX10_rank_14 rfl ?_
    refine q_iconst (v := 1) C dX10_rank_15 (by decide) ?_
    refine q_isub C dX10_rank_16 ?_
    refine q_iconst (v := 2) C dX10_rank_17 (by decide) ?_
    refine q_iload_n C dX10_rank_18 rfl ?_
    refine q_imul C dX10_rank_19 ?_
    refine q_cVi (as := [.int (x1 - 1), .int (2 * x2)]) (st := []) (r := a0) C mv_X10_setOf ml_RX10_251 dX10_rank_20 rfl s2 rfl (Nat.le_of_ble_eq_true rfl) ⟨Nat.le_refl _, Nat.le_refl _⟩ h (fun r7 I8 L9 P10 h => ?_)
    refine q_istore (lo1 := [some (.ref a0), some (.int x1), some (.int x2), some (.int r3), some (.int r7), none, none, none]) C dX10_rank_23 (by decide) rfl ?_
    refine q_lconst (v := 0) C dX10_rank_25 (by decide) ?_
    refine q_lstore (lo1 := [some (.ref a0), some (.int x1), some (.int x2), some (.int r3), some (.int r7), some (.long 0), none, none]) C dX10_rank_26 (by decide) rfl ?_
    refine q_iconst (v := 0) C dX10_rank_28 (by decide) ?_
    refine q_istore (lo1 := [some (.ref a0), some (.int x1), some (.int x2), some (.int r3), some (.int r7), some (.long 0), none, some (.int 0)]) C dX10_rank_29 (by decide) rfl ?_
    exact hT1 _ _ _ _ _ _ _ h
  · replace h := h.2 c1
    refine q_lconst (v := 0) C dX10_rank_4 (by decide) ?_
    exact q_lret C hk dX10_rank_5 ⟨rfl, h⟩
def vc_X10_rank_1 (d : Nat) (sh : List qSh) (K : Option Value → qMI → qML → qMP → Prop) (T1 : Int32 → Int32 → Int64 → Int32 → qMI → qML → qMP → Prop) (a0 : Nat) (x1 : Int32) (x2 : Int32) (x3 : Int32) (x4 : Int32) (l5 : Int64) (x7 : Int32) (I : qMI) (L : qML) (P : qMP) : Prop :=
  ((x4 ≤ x7) → (((shp sh a0).1 = 10) ∧ (Sq d mX10_rank sh [.ref a0, .int (x1 - 1), .int (2 * x2)] I L P (KL fun r3 I4 L5 P6 => Sq d mX10_blockAt sh [.int (x1 - 1), .int ((2 * x2) + 1)] I4 L5 P6 (KI fun r7 I8 L9 P10 => ((shp sh (P6 a0 15)).1 = 21) ∧ ((vp_in (r7 + (x3 &&& (x4 ^^^ ((-1))))) (shp sh (P6 a0 15)).2) ∧ (Sq d mX10_rank sh [.ref a0, .int (x1 - 1), .int ((2 * x2) + 1)] I8 L9 P10 (KL fun r13 I14 L15 P16 => K (some (.long ((l5 + (r3 * (L9 (P6 a0 15) (Int32.toNatClampNeg (r7 + (x3 &&& (x4 ^^^ ((-1))))))))) + r13))) I14 L15 P16)))))))) ∧ ((¬ x4 ≤ x7) → (((shp sh a0).1 = 10) ∧ (Sq d mX10_waysBy sh [.ref a0, .int x1, .int x2, .int x3, .int x7] I L P (KL fun r18 I19 L20 P21 => T1 x3 x4 (l5 + r18) (x7 + 1) I19 L20 P21))))
set_option maxRecDepth 100000 in
set_option maxHeartbeats 4000000 in
theorem rg_X10_rank_1 {X : qCT} {d : Nat} {sh : List qSh} {K : Option Value → qMI → qML → qMP → Prop} {T1 : Int32 → Int32 → Int64 → Int32 → qMI → qML → qMP → Prop} {a0 : Nat} {x1 : Int32} {x2 : Int32} {x3 : Int32} {x4 : Int32} {l5 : Int64} {x7 : Int32} {I : qMI} {L : qML} {P : qMP} (C : qCB X RX10 cX10_rank 8 (d + 1) 0 0) (hk : qCK X (some .long) 0 0 (fun v sh' I' L' P' => sh' = sh ∧ K v I' L' P')) (hT1 : ∀ (x3 : Int32) (x4 : Int32) (l5 : Int64) (x7 : Int32) (I : qMI) (L : qML) (P : qMP), T1 x3 x4 l5 x7 I L P → qG X 31 [some (.ref a0), some (.int x1), some (.int x2), some (.int x3), some (.int x4), some (.long l5), none, some (.int x7)] [] sh I L P 0 0) (h : vc_X10_rank_1 d sh K T1 a0 x1 x2 x3 x4 l5 x7 I L P) : qG X 31 [some (.ref a0), some (.int x1), some (.int x2), some (.int x3), some (.int x4), some (.long l5), none, some (.int x7)] [] sh I L P 0 0 := by
  unfold vc_X10_rank_1 at h
  refine q_iload C dX10_rank_31 rfl ?_
  refine q_iload C dX10_rank_33 rfl ?_
  refine q_icmp_ge (tgt := 58) C dX10_rank_35 (by decide) (fun c1 => ?_) (fun c1 => ?_)
  · replace h := h.1 c1
    refine q_lload C dX10_rank_58 rfl ?_
    refine q_aload_n C dX10_rank_60 rfl ?_
    refine q_iload_n C dX10_rank_61 rfl ?_
    refine q_iconst (v := 1) C dX10_rank_62 (by decide) ?_
    refine q_isub C dX10_rank_63 ?_
    refine q_iconst (v := 2) C dX10_rank_64 (by decide) ?_
    refine q_iload_n C dX10_rank_65 rfl ?_
    refine q_imul C dX10_rank_66 ?_
    have s2 := h.1
    replace h := h.2
    refine q_cVl (as := [.int (x1 - 1), .int (2 * x2)]) (st := [.long l5]) (r := a0) C mv_X10_rank ml_RX10_254 dX10_rank_67 rfl s2 rfl (Nat.le_of_ble_eq_true rfl) ⟨Nat.le_refl _, Nat.le_refl _⟩ h (fun r3 I4 L5 P6 h => ?_)
    refine q_aload_n C dX10_rank_70 rfl ?_
    refine q_getP C fl_RX10_37 rfl s2 dX10_rank_71 ?_
    refine q_iload_n C dX10_rank_74 rfl ?_
    refine q_iconst (v := 1) C dX10_rank_75 (by decide) ?_
    refine q_isub C dX10_rank_76 ?_
    refine q_iconst (v := 2) C dX10_rank_77 (by decide) ?_
    refine q_iload_n C dX10_rank_78 rfl ?_
    refine q_imul C dX10_rank_79 ?_
    refine q_iconst (v := 1) C dX10_rank_80 (by decide) ?_
    refine q_iadd C dX10_rank_81 ?_
    refine q_cSi (as := [.int (x1 - 1), .int ((2 * x2) + 1)]) (st := [.ref (P6 a0 15), .long r3, .long l5]) C ms_X10_blockAt ml_RX10_193 dX10_rank_82 rfl rfl (Nat.le_of_ble_eq_true rfl) ⟨Nat.le_refl _, Nat.le_refl _⟩ h (fun r7 I8 L9 P10 h => ?_)
    refine q_iload_n C dX10_rank_85 rfl ?_
    refine q_iload C dX10_rank_86 rfl ?_
    refine q_iconst (v := (-1)) C dX10_rank_88 (by decide) ?_
    refine q_ixor C dX10_rank_89 ?_
    refine q_iand C dX10_rank_90 ?_
    refine q_iadd C dX10_rank_91 ?_
    have s11 := h.1
    replace h := h.2
    have s12 := h.1
    replace h := h.2
    refine q_lald C s11 s12 dX10_rank_92 ?_
    refine q_lmul C dX10_rank_93 ?_
    refine q_ladd C dX10_rank_94 ?_
    refine q_aload_n C dX10_rank_95 rfl ?_
    refine q_iload_n C dX10_rank_96 rfl ?_
    refine q_iconst (v := 1) C dX10_rank_97 (by decide) ?_
    refine q_isub C dX10_rank_98 ?_
    refine q_iconst (v := 2) C dX10_rank_99 (by decide) ?_
    refine q_iload_n C dX10_rank_100 rfl ?_
    refine q_imul C dX10_rank_101 ?_
    refine q_iconst (v := 1) C dX10_rank_102 (by decide) ?_
    refine q_iadd C dX10_rank_103 ?_
    refine q_cVl (as := [.int (x1 - 1), .int ((2 * x2) + 1)]) (st := [.long (l5 + (r3 * (L9 (P6 a0 15) (Int32.toNatClampNeg (r7 + (x3 &&& (x4 ^^^ ((-1)))))))))]) (r := a0) C mv_X10_rank ml_RX10_254 dX10_rank_104 rfl s2 rfl (Nat.le_of_ble_eq_true rfl) ⟨Nat.le_refl _, Nat.le_refl _⟩ h (fun r13 I14 L15 P16 h => ?_)
    refine q_ladd C dX10_rank_107 ?_
    exact q_lret C hk dX10_rank_108 ⟨rfl, h⟩
  · replace h := h.2 c1
    refine q_lload C dX10_rank_38 rfl ?_
    refine q_aload_n C dX10_rank_40 rfl ?_
    refine q_iload_n C dX10_rank_41 rfl ?_
    refine q_iload_n C dX10_rank_42 rfl ?_
    refine q_iload_n C dX10_rank_43 rfl ?_
    refine q_iload C dX10_rank_44 rfl ?_
    have s17 := h.1
    replace h := h.2
    refine q_cVl (as := [.int x1, .int x2, .int x3, .int x7]) (st := [.long l5]) (r := a0) C mv_X10_waysBy ml_RX10_235 dX10_rank_46 rfl s17 rfl (Nat.le_of_ble_eq_true rfl) ⟨Nat.le_refl _, Nat.le_refl _⟩ h (fun r18 I19 L20 P21 h => ?_)
    refine q_ladd C dX10_rank_49 ?_
    refine q_lstore (lo1 := [some (.ref a0), some (.int x1), some (.int x2), some (.int x3), some (.int x4), some (.long (l5 + r18)), none, some (.int x7)]) C dX10_rank_50 (by decide) rfl ?_
    refine q_iinc (w := 1) (lo1 := [some (.ref a0), some (.int x1), some (.int x2), some (.int x3), some (.int x4), some (.long (l5 + r18)), none, some (.int (x7 + 1))]) C dX10_rank_52 rfl (by decide) (by decide) rfl ?_
    refine q_goto (tgt := 31) C dX10_rank_55 (by decide) ?_
    exact hT1 _ _ _ _ _ _ _ h
theorem sp_X10_rank {d : Nat} {sh : List qSh} {K : Option Value → qMI → qML → qMP → Prop} {a0 : Nat} {x1 : Int32} {x2 : Int32} {I : qMI} {L : qML} {P : qMP} (T1 : Int32 → Int32 → Int64 → Int32 → qMI → qML → qMP → Prop) (m1 : Int32 → Int32 → Int64 → Int32 → qMI → qML → qMP → Nat) (h0 : vc_X10_rank_0 d sh K T1 a0 x1 x2 I L P)
    (h1 : ∀ (x3 : Int32) (x4 : Int32) (l5 : Int64) (x7 : Int32) (I : qMI) (L : qML) (P : qMP), T1 x3 x4 l5 x7 I L P → vc_X10_rank_1 d sh K (fun w0 w1 w2 w3 I' L' P' => T1 w0 w1 w2 w3 I' L' P' ∧ m1 w0 w1 w2 w3 I' L' P' < m1 x3 x4 l5 x7 I L P) a0 x1 x2 x3 x4 l5 x7 I L P) : Sq (d + 1) mX10_rank sh [.ref a0, .int x1, .int x2] I L P K := by
  refine Sq_of (by decide +kernel) (Nat.le_of_ble_eq_true rfl) (fun X C hk hn => ?_)
  have go : ∀ N : Nat, (∀ (x3 : Int32) (x4 : Int32) (l5 : Int64) (x7 : Int32) (I : qMI) (L : qML) (P : qMP), T1 x3 x4 l5 x7 I L P → m1 x3 x4 l5 x7 I L P < N → qG X 31 [some (.ref a0), some (.int x1), some (.int x2), some (.int x3), some (.int x4), some (.long l5), none, some (.int x7)] [] sh I L P 0 0) := by
    intro N
    induction N with
    | zero => exact fun _ _ _ _ _ _ _ _ q => absurd q (Nat.not_lt_zero _)
    | succ N ih =>
      exact fun b0 b1 b2 b3 I1 L1 P1 t q => rg_X10_rank_1 C hk (fun z0 z1 z2 z3 I2 L2 P2 z => ih z0 z1 z2 z3 I2 L2 P2 z.1 (Nat.lt_of_lt_of_le z.2 (Nat.le_of_lt_succ q))) (h1 b0 b1 b2 b3 I1 L1 P1 t)
  exact rg_X10_rank_0 C hk (fun b0 b1 b2 b3 I1 L1 P1 t => (go (m1 b0 b1 b2 b3 I1 L1 P1 + 1)) b0 b1 b2 b3 I1 L1 P1 t (Nat.lt_succ_self _)) h0
/-! BracketDrawsModel.isDraw()Z -/
def vc_X10_isDraw_0 (d : Nat) (sh : List qSh) (K : Option Value → qMI → qML → qMP → Prop) (T1 : Int32 → Int32 → Int32 → qMI → qML → qMP → Prop) (T2 : Int32 → Int32 → Int32 → Int32 → qMI → qML → qMP → Prop) (a0 : Nat) (I : qMI) (L : qML) (P : qMP) : Prop :=
  ((shp sh a0).1 = 10) ∧ (Sq d mX10_lastRound sh [.ref a0] I L P (KI fun r2 I3 L4 P5 => T1 1 r2 0 I3 L4 P5))
set_option maxRecDepth 100000 in
set_option maxHeartbeats 4000000 in
theorem rg_X10_isDraw_0 {X : qCT} {d : Nat} {sh : List qSh} {K : Option Value → qMI → qML → qMP → Prop} {T1 : Int32 → Int32 → Int32 → qMI → qML → qMP → Prop} {T2 : Int32 → Int32 → Int32 → Int32 → qMI → qML → qMP → Prop} {a0 : Nat} {I : qMI} {L : qML} {P : qMP} (C : qCB X RX10 cX10_isDraw 5 (d + 1) 0 0) (hk : qCK X (some .boolean) 0 0 (fun v sh' I' L' P' => sh' = sh ∧ K v I' L' P')) (hT1 : ∀ (x1 : Int32) (x2 : Int32) (x3 : Int32) (I : qMI) (L : qML) (P : qMP), T1 x1 x2 x3 I L P → qG X 9 [some (.ref a0), some (.int x1), some (.int x2), some (.int x3), none] [] sh I L P 0 0) (hT2 : ∀ (x1 : Int32) (x2 : Int32) (x3 : Int32) (x4 : Int32) (I : qMI) (L : qML) (P : qMP), T2 x1 x2 x3 x4 I L P → qG X 17 [some (.ref a0), some (.int x1), some (.int x2), some (.int x3), some (.int x4)] [] sh I L P 0 0) (h : vc_X10_isDraw_0 d sh K T1 T2 a0 I L P) : qG X 0 [some (.ref a0), none, none, none, none] [] sh I L P 0 0 := by
  unfold vc_X10_isDraw_0 at h
  refine q_iconst (v := 1) C dX10_isDraw_0 (by decide) ?_
  refine q_istore_n (lo1 := [some (.ref a0), some (.int 1), none, none, none]) C dX10_isDraw_1 (by decide) rfl ?_
  refine q_aload_n C dX10_isDraw_2 rfl ?_
  have s1 := h.1
  replace h := h.2
  refine q_cVi (as := []) (st := []) (r := a0) C mv_X10_lastRound ml_RX10_71 dX10_isDraw_3 rfl s1 rfl (Nat.le_of_ble_eq_true rfl) ⟨Nat.le_refl _, Nat.le_refl _⟩ h (fun r2 I3 L4 P5 h => ?_)
  refine q_istore_n (lo1 := [some (.ref a0), some (.int 1), some (.int r2), none, none]) C dX10_isDraw_6 (by decide) rfl ?_
  refine q_iconst (v := 0) C dX10_isDraw_7 (by decide) ?_
  refine q_istore_n (lo1 := [some (.ref a0), some (.int 1), some (.int r2), some (.int 0), none]) C dX10_isDraw_8 (by decide) rfl ?_
  exact hT1 _ _ _ _ _ _ h
def vc_X10_isDraw_1 (d : Nat) (sh : List qSh) (K : Option Value → qMI → qML → qMP → Prop) (T1 : Int32 → Int32 → Int32 → qMI → qML → qMP → Prop) (T2 : Int32 → Int32 → Int32 → Int32 → qMI → qML → qMP → Prop) (a0 : Nat) (x1 : Int32) (x2 : Int32) (x3 : Int32) (I : qMI) (L : qML) (P : qMP) : Prop :=
  ((x2 < x3) → ((x1 = 0 ∨ x1 = 1) ∧ (K (some (.int x1)) I L P))) ∧ ((¬ x2 < x3) → (T2 x1 x2 x3 0 I L P))
set_option maxRecDepth 100000 in
set_option maxHeartbeats 4000000 in
theorem rg_X10_isDraw_1 {X : qCT} {d : Nat} {sh : List qSh} {K : Option Value → qMI → qML → qMP → Prop} {T1 : Int32 → Int32 → Int32 → qMI → qML → qMP → Prop} {T2 : Int32 → Int32 → Int32 → Int32 → qMI → qML → qMP → Prop} {a0 : Nat} {x1 : Int32} {x2 : Int32} {x3 : Int32} {I : qMI} {L : qML} {P : qMP} (C : qCB X RX10 cX10_isDraw 5 (d + 1) 0 0) (hk : qCK X (some .boolean) 0 0 (fun v sh' I' L' P' => sh' = sh ∧ K v I' L' P')) (hT1 : ∀ (x1 : Int32) (x2 : Int32) (x3 : Int32) (I : qMI) (L : qML) (P : qMP), T1 x1 x2 x3 I L P → qG X 9 [some (.ref a0), some (.int x1), some (.int x2), some (.int x3), none] [] sh I L P 0 0) (hT2 : ∀ (x1 : Int32) (x2 : Int32) (x3 : Int32) (x4 : Int32) (I : qMI) (L : qML) (P : qMP), T2 x1 x2 x3 x4 I L P → qG X 17 [some (.ref a0), some (.int x1), some (.int x2), some (.int x3), some (.int x4)] [] sh I L P 0 0) (h : vc_X10_isDraw_1 d sh K T1 T2 a0 x1 x2 x3 I L P) : qG X 9 [some (.ref a0), some (.int x1), some (.int x2), some (.int x3), none] [] sh I L P 0 0 := by
  unfold vc_X10_isDraw_1 at h
  refine q_iload_n C dX10_isDraw_9 rfl ?_
  refine q_iload_n C dX10_isDraw_10 rfl ?_
  refine q_icmp_gt (tgt := 66) C dX10_isDraw_11 (by decide) (fun c1 => ?_) (fun c1 => ?_)
  · replace h := h.1 c1
    refine q_iload_n C dX10_isDraw_66 rfl ?_
    have s2 := h.1
    replace h := h.2
    exact q_zret C hk s2 dX10_isDraw_67 ⟨rfl, h⟩
  · replace h := h.2 c1
    refine q_iconst (v := 0) C dX10_isDraw_14 (by decide) ?_
    refine q_istore (lo1 := [some (.ref a0), some (.int x1), some (.int x2), some (.int x3), some (.int 0)]) C dX10_isDraw_15 (by decide) rfl ?_
    exact hT2 _ _ _ _ _ _ _ h
def vc_X10_isDraw_2 (d : Nat) (sh : List qSh) (K : Option Value → qMI → qML → qMP → Prop) (T1 : Int32 → Int32 → Int32 → qMI → qML → qMP → Prop) (T2 : Int32 → Int32 → Int32 → Int32 → qMI → qML → qMP → Prop) (a0 : Nat) (x1 : Int32) (x2 : Int32) (x3 : Int32) (x4 : Int32) (I : qMI) (L : qML) (P : qMP) : Prop :=
  ((((1 : Int32) <<< ((x2 - x3) &&& 31)) ≤ x4) → (T1 x1 x2 (x3 + 1) I L P)) ∧ ((¬ ((1 : Int32) <<< ((x2 - x3) &&& 31)) ≤ x4) → (((x1 = 0) → (T2 0 x2 x3 (x4 + 1) I L P)) ∧ ((¬ x1 = 0) → (((shp sh a0).1 = 10) ∧ (Sq d mX10_setOf sh [.ref a0, .int x3, .int x4] I L P (KI fun r4 I5 L6 P7 => Sq d mX10_isAllowed sh [.ref a0, .int x3, .int x4, .int r4] I5 L6 P7 (KI fun r8 I9 L10 P11 => ((r8 = 0) → (T2 0 x2 x3 (x4 + 1) I9 L10 P11)) ∧ ((¬ r8 = 0) → (T2 1 x2 x3 (x4 + 1) I9 L10 P11)))))))))
set_option maxRecDepth 100000 in
set_option maxHeartbeats 4000000 in
theorem rg_X10_isDraw_2 {X : qCT} {d : Nat} {sh : List qSh} {K : Option Value → qMI → qML → qMP → Prop} {T1 : Int32 → Int32 → Int32 → qMI → qML → qMP → Prop} {T2 : Int32 → Int32 → Int32 → Int32 → qMI → qML → qMP → Prop} {a0 : Nat} {x1 : Int32} {x2 : Int32} {x3 : Int32} {x4 : Int32} {I : qMI} {L : qML} {P : qMP} (C : qCB X RX10 cX10_isDraw 5 (d + 1) 0 0) (hk : qCK X (some .boolean) 0 0 (fun v sh' I' L' P' => sh' = sh ∧ K v I' L' P')) (hT1 : ∀ (x1 : Int32) (x2 : Int32) (x3 : Int32) (I : qMI) (L : qML) (P : qMP), T1 x1 x2 x3 I L P → qG X 9 [some (.ref a0), some (.int x1), some (.int x2), some (.int x3), none] [] sh I L P 0 0) (hT2 : ∀ (x1 : Int32) (x2 : Int32) (x3 : Int32) (x4 : Int32) (I : qMI) (L : qML) (P : qMP), T2 x1 x2 x3 x4 I L P → qG X 17 [some (.ref a0), some (.int x1), some (.int x2), some (.int x3), some (.int x4)] [] sh I L P 0 0) (h : vc_X10_isDraw_2 d sh K T1 T2 a0 x1 x2 x3 x4 I L P) : qG X 17 [some (.ref a0), some (.int x1), some (.int x2), some (.int x3), some (.int x4)] [] sh I L P 0 0 := by
  unfold vc_X10_isDraw_2 at h
  refine q_iload C dX10_isDraw_17 rfl ?_
  refine q_iconst (v := 1) C dX10_isDraw_19 (by decide) ?_
  refine q_iload_n C dX10_isDraw_20 rfl ?_
  refine q_iload_n C dX10_isDraw_21 rfl ?_
  refine q_isub C dX10_isDraw_22 ?_
  refine q_ishl C dX10_isDraw_23 ?_
  refine q_icmp_ge (tgt := 60) C dX10_isDraw_24 (by decide) (fun c1 => ?_) (fun c1 => ?_)
  · replace h := h.1 c1
    refine q_iinc (w := 1) (lo1 := [some (.ref a0), some (.int x1), some (.int x2), some (.int (x3 + 1)), some (.int x4)]) C dX10_isDraw_60 rfl (by decide) (by decide) rfl ?_
    refine q_goto (tgt := 9) C dX10_isDraw_63 (by decide) ?_
    refine q_kill 4 (lo1 := [some (.ref a0), some (.int x1), some (.int x2), some (.int (x3 + 1)), none]) rfl ?_
    exact hT1 _ _ _ _ _ _ h
  · replace h := h.2 c1
    refine q_iload_n C dX10_isDraw_27 rfl ?_
    refine q_if_eq (tgt := 52) C dX10_isDraw_28 (by decide) (fun c2 => ?_) (fun c2 => ?_)
    · replace h := h.1 c2
      refine q_iconst (v := 0) C dX10_isDraw_52 (by decide) ?_
      refine q_istore_n (lo1 := [some (.ref a0), some (.int 0), some (.int x2), some (.int x3), some (.int x4)]) C dX10_isDraw_53 (by decide) rfl ?_
      refine q_iinc (w := 1) (lo1 := [some (.ref a0), some (.int 0), some (.int x2), some (.int x3), some (.int (x4 + 1))]) C dX10_isDraw_54 rfl (by decide) (by decide) rfl ?_
      refine q_goto (tgt := 17) C dX10_isDraw_57 (by decide) ?_
      exact hT2 _ _ _ _ _ _ _ h
    · replace h := h.2 c2
      refine q_aload_n C dX10_isDraw_31 rfl ?_
      refine q_iload_n C dX10_isDraw_32 rfl ?_
      refine q_iload C dX10_isDraw_33 rfl ?_
      refine q_aload_n C dX10_isDraw_35 rfl ?_
      refine q_iload_n C dX10_isDraw_36 rfl ?_
      refine q_iload C dX10_isDraw_37 rfl ?_
      have s3 := h.1
      replace h := h.2
      refine q_cVi (as := [.int x3, .int x4]) (st := [.int x4, .int x3, .ref a0]) (r := a0) C mv_X10_setOf ml_RX10_251 dX10_isDraw_39 rfl s3 rfl (Nat.le_of_ble_eq_true rfl) ⟨Nat.le_refl _, Nat.le_refl _⟩ h (fun r4 I5 L6 P7 h => ?_)
      refine q_cVi (as := [.int x3, .int x4, .int r4]) (st := []) (r := a0) C mv_X10_isAllowed ml_RX10_200 dX10_isDraw_42 rfl s3 rfl (Nat.le_of_ble_eq_true rfl) ⟨Nat.le_refl _, Nat.le_refl _⟩ h (fun r8 I9 L10 P11 h => ?_)
      refine q_if_eq (tgt := 52) C dX10_isDraw_45 (by decide) (fun c12 => ?_) (fun c12 => ?_)
      · replace h := h.1 c12
        refine q_iconst (v := 0) C dX10_isDraw_52 (by decide) ?_
        refine q_istore_n (lo1 := [some (.ref a0), some (.int 0), some (.int x2), some (.int x3), some (.int x4)]) C dX10_isDraw_53 (by decide) rfl ?_
        refine q_iinc (w := 1) (lo1 := [some (.ref a0), some (.int 0), some (.int x2), some (.int x3), some (.int (x4 + 1))]) C dX10_isDraw_54 rfl (by decide) (by decide) rfl ?_
        refine q_goto (tgt := 17) C dX10_isDraw_57 (by decide) ?_
        exact hT2 _ _ _ _ _ _ _ h
      · replace h := h.2 c12
        refine q_iconst (v := 1) C dX10_isDraw_48 (by decide) ?_
        refine q_goto (tgt := 53) C dX10_isDraw_49 (by decide) ?_
        refine q_istore_n (lo1 := [some (.ref a0), some (.int 1), some (.int x2), some (.int x3), some (.int x4)]) C dX10_isDraw_53 (by decide) rfl ?_
        refine q_iinc (w := 1) (lo1 := [some (.ref a0), some (.int 1), some (.int x2), some (.int x3), some (.int (x4 + 1))]) C dX10_isDraw_54 rfl (by decide) (by decide) rfl ?_
        refine q_goto (tgt := 17) C dX10_isDraw_57 (by decide) ?_
        exact hT2 _ _ _ _ _ _ _ h
theorem sp_X10_isDraw {d : Nat} {sh : List qSh} {K : Option Value → qMI → qML → qMP → Prop} {a0 : Nat} {I : qMI} {L : qML} {P : qMP} (T1 : Int32 → Int32 → Int32 → qMI → qML → qMP → Prop) (m1 : Int32 → Int32 → Int32 → qMI → qML → qMP → Nat) (T2 : Int32 → Int32 → Int32 → Int32 → qMI → qML → qMP → Prop) (m2 : Int32 → Int32 → Int32 → Int32 → qMI → qML → qMP → Nat) (h0 : vc_X10_isDraw_0 d sh K T1 T2 a0 I L P)
    (h1 : ∀ (x1 : Int32) (x2 : Int32) (x3 : Int32) (I : qMI) (L : qML) (P : qMP), T1 x1 x2 x3 I L P → vc_X10_isDraw_1 d sh K (fun w0 w1 w2 I' L' P' => T1 w0 w1 w2 I' L' P' ∧ m1 w0 w1 w2 I' L' P' < m1 x1 x2 x3 I L P) (fun w0 w1 w2 w3 I' L' P' => T2 w0 w1 w2 w3 I' L' P' ∧ m2 w0 w1 w2 w3 I' L' P' < m1 x1 x2 x3 I L P) a0 x1 x2 x3 I L P)
    (h2 : ∀ (x1 : Int32) (x2 : Int32) (x3 : Int32) (x4 : Int32) (I : qMI) (L : qML) (P : qMP), T2 x1 x2 x3 x4 I L P → vc_X10_isDraw_2 d sh K (fun w0 w1 w2 I' L' P' => T1 w0 w1 w2 I' L' P' ∧ m1 w0 w1 w2 I' L' P' < m2 x1 x2 x3 x4 I L P) (fun w0 w1 w2 w3 I' L' P' => T2 w0 w1 w2 w3 I' L' P' ∧ m2 w0 w1 w2 w3 I' L' P' < m2 x1 x2 x3 x4 I L P) a0 x1 x2 x3 x4 I L P) : Sq (d + 1) mX10_isDraw sh [.ref a0] I L P K := by
  refine Sq_of (by decide +kernel) (Nat.le_of_ble_eq_true rfl) (fun X C hk hn => ?_)
  have go : ∀ N : Nat, (∀ (x1 : Int32) (x2 : Int32) (x3 : Int32) (I : qMI) (L : qML) (P : qMP), T1 x1 x2 x3 I L P → m1 x1 x2 x3 I L P < N → qG X 9 [some (.ref a0), some (.int x1), some (.int x2), some (.int x3), none] [] sh I L P 0 0) ∧ (∀ (x1 : Int32) (x2 : Int32) (x3 : Int32) (x4 : Int32) (I : qMI) (L : qML) (P : qMP), T2 x1 x2 x3 x4 I L P → m2 x1 x2 x3 x4 I L P < N → qG X 17 [some (.ref a0), some (.int x1), some (.int x2), some (.int x3), some (.int x4)] [] sh I L P 0 0) := by
    intro N
    induction N with
    | zero => exact ⟨fun _ _ _ _ _ _ _ q => absurd q (Nat.not_lt_zero _), fun _ _ _ _ _ _ _ _ q => absurd q (Nat.not_lt_zero _)⟩
    | succ N ih =>
      exact ⟨fun b0 b1 b2 I1 L1 P1 t q => rg_X10_isDraw_1 C hk (fun z0 z1 z2 I2 L2 P2 z => ih.1 z0 z1 z2 I2 L2 P2 z.1 (Nat.lt_of_lt_of_le z.2 (Nat.le_of_lt_succ q))) (fun z0 z1 z2 z3 I2 L2 P2 z => ih.2 z0 z1 z2 z3 I2 L2 P2 z.1 (Nat.lt_of_lt_of_le z.2 (Nat.le_of_lt_succ q))) (h1 b0 b1 b2 I1 L1 P1 t), fun b0 b1 b2 b3 I1 L1 P1 t q => rg_X10_isDraw_2 C hk (fun z0 z1 z2 I2 L2 P2 z => ih.1 z0 z1 z2 I2 L2 P2 z.1 (Nat.lt_of_lt_of_le z.2 (Nat.le_of_lt_succ q))) (fun z0 z1 z2 z3 I2 L2 P2 z => ih.2 z0 z1 z2 z3 I2 L2 P2 z.1 (Nat.lt_of_lt_of_le z.2 (Nat.le_of_lt_succ q))) (h2 b0 b1 b2 b3 I1 L1 P1 t)⟩
  exact rg_X10_isDraw_0 C hk (fun b0 b1 b2 I1 L1 P1 t => (go (m1 b0 b1 b2 I1 L1 P1 + 1)).1 b0 b1 b2 I1 L1 P1 t (Nat.lt_succ_self _)) (fun b0 b1 b2 b3 I1 L1 P1 t => (go (m2 b0 b1 b2 b3 I1 L1 P1 + 1)).2 b0 b1 b2 b3 I1 L1 P1 t (Nat.lt_succ_self _)) h0
/-! BracketDrawsModel.hasDraw()Z -/
def vc_X10_hasDraw_0 (d : Nat) (sh : List qSh) (K : Option Value → qMI → qML → qMP → Prop) (a0 : Nat) (I : qMI) (L : qML) (P : qMP) : Prop :=
  ((shp sh a0).1 = 10) ∧ (((shp sh (P a0 0)).1 = 20) ∧ ((vp_in 3 (shp sh (P a0 0)).2) ∧ (((¬ (I (P a0 0) (Int32.toNatClampNeg 3)) = 1) → (K (some (.int 0)) I L P)) ∧ (((I (P a0 0) (Int32.toNatClampNeg 3)) = 1) → (K (some (.int 1)) I L P)))))
set_option maxRecDepth 100000 in
set_option maxHeartbeats 4000000 in
theorem rg_X10_hasDraw_0 {X : qCT} {d : Nat} {sh : List qSh} {K : Option Value → qMI → qML → qMP → Prop} {a0 : Nat} {I : qMI} {L : qML} {P : qMP} (C : qCB X RX10 cX10_hasDraw 1 (d + 1) 0 0) (hk : qCK X (some .boolean) 0 0 (fun v sh' I' L' P' => sh' = sh ∧ K v I' L' P')) (h : vc_X10_hasDraw_0 d sh K a0 I L P) : qG X 0 [some (.ref a0)] [] sh I L P 0 0 := by
  unfold vc_X10_hasDraw_0 at h
  refine q_aload_n C dX10_hasDraw_0 rfl ?_
  have s1 := h.1
  replace h := h.2
  refine q_getP C fl_RX10_9 rfl s1 dX10_hasDraw_1 ?_
  refine q_iconst (v := 3) C dX10_hasDraw_4 (by decide) ?_
  have s2 := h.1
  replace h := h.2
  have s3 := h.1
  replace h := h.2
  refine q_iald C s2 s3 dX10_hasDraw_5 ?_
  refine q_iconst (v := 1) C dX10_hasDraw_6 (by decide) ?_
  refine q_icmp_ne (tgt := 14) C dX10_hasDraw_7 (by decide) (fun c4 => ?_) (fun c4 => ?_)
  · replace h := h.1 c4
    refine q_iconst (v := 0) C dX10_hasDraw_14 (by decide) ?_
    exact q_zret C hk (Or.inl rfl) dX10_hasDraw_15 ⟨rfl, h⟩
  · replace h := h.2 c4
    refine q_iconst (v := 1) C dX10_hasDraw_10 (by decide) ?_
    refine q_goto (tgt := 15) C dX10_hasDraw_11 (by decide) ?_
    exact q_zret C hk (Or.inr rfl) dX10_hasDraw_15 ⟨rfl, h⟩
theorem sp_X10_hasDraw {d : Nat} {sh : List qSh} {K : Option Value → qMI → qML → qMP → Prop} {a0 : Nat} {I : qMI} {L : qML} {P : qMP} (h0 : vc_X10_hasDraw_0 d sh K a0 I L P) : Sq (d + 1) mX10_hasDraw sh [.ref a0] I L P K := by
  refine Sq_of (by decide +kernel) (Nat.le_of_ble_eq_true rfl) (fun X C hk hn => ?_)
  exact rg_X10_hasDraw_0 C hk h0
/-! BracketDrawsModel.slotOf(I)I -/
def vc_X10_slotOf_0 (d : Nat) (sh : List qSh) (K : Option Value → qMI → qML → qMP → Prop) (T1 : Int32 → qMI → qML → qMP → Prop) (a0 : Nat) (x1 : Int32) (I : qMI) (L : qML) (P : qMP) : Prop :=
  T1 0 I L P
set_option maxRecDepth 100000 in
set_option maxHeartbeats 4000000 in
theorem rg_X10_slotOf_0 {X : qCT} {d : Nat} {sh : List qSh} {K : Option Value → qMI → qML → qMP → Prop} {T1 : Int32 → qMI → qML → qMP → Prop} {a0 : Nat} {x1 : Int32} {I : qMI} {L : qML} {P : qMP} (C : qCB X RX10 cX10_slotOf 3 (d + 1) 0 0) (hk : qCK X (some .int) 0 0 (fun v sh' I' L' P' => sh' = sh ∧ K v I' L' P')) (hT1 : ∀ (x2 : Int32) (I : qMI) (L : qML) (P : qMP), T1 x2 I L P → qG X 2 [some (.ref a0), some (.int x1), some (.int x2)] [] sh I L P 0 0) (h : vc_X10_slotOf_0 d sh K T1 a0 x1 I L P) : qG X 0 [some (.ref a0), some (.int x1), none] [] sh I L P 0 0 := by
  unfold vc_X10_slotOf_0 at h
  refine q_iconst (v := 0) C dX10_slotOf_0 (by decide) ?_
  refine q_istore_n (lo1 := [some (.ref a0), some (.int x1), some (.int 0)]) C dX10_slotOf_1 (by decide) rfl ?_
  exact hT1 _ _ _ _ h
def vc_X10_slotOf_1 (d : Nat) (sh : List qSh) (K : Option Value → qMI → qML → qMP → Prop) (T1 : Int32 → qMI → qML → qMP → Prop) (a0 : Nat) (x1 : Int32) (x2 : Int32) (I : qMI) (L : qML) (P : qMP) : Prop :=
  ((shp sh a0).1 = 10) ∧ (((shp sh (P a0 0)).1 = 20) ∧ ((vp_in (45 + x2) (shp sh (P a0 0)).2) ∧ ((((I (P a0 0) (Int32.toNatClampNeg (45 + x2))) = x1) → (K (some (.int x2)) I L P)) ∧ ((¬ (I (P a0 0) (Int32.toNatClampNeg (45 + x2))) = x1) → (T1 (x2 + 1) I L P)))))
set_option maxRecDepth 100000 in
set_option maxHeartbeats 4000000 in
theorem rg_X10_slotOf_1 {X : qCT} {d : Nat} {sh : List qSh} {K : Option Value → qMI → qML → qMP → Prop} {T1 : Int32 → qMI → qML → qMP → Prop} {a0 : Nat} {x1 : Int32} {x2 : Int32} {I : qMI} {L : qML} {P : qMP} (C : qCB X RX10 cX10_slotOf 3 (d + 1) 0 0) (hk : qCK X (some .int) 0 0 (fun v sh' I' L' P' => sh' = sh ∧ K v I' L' P')) (hT1 : ∀ (x2 : Int32) (I : qMI) (L : qML) (P : qMP), T1 x2 I L P → qG X 2 [some (.ref a0), some (.int x1), some (.int x2)] [] sh I L P 0 0) (h : vc_X10_slotOf_1 d sh K T1 a0 x1 x2 I L P) : qG X 2 [some (.ref a0), some (.int x1), some (.int x2)] [] sh I L P 0 0 := by
  unfold vc_X10_slotOf_1 at h
  refine q_aload_n C dX10_slotOf_2 rfl ?_
  have s1 := h.1
  replace h := h.2
  refine q_getP C fl_RX10_9 rfl s1 dX10_slotOf_3 ?_
  refine q_bipush (v := 45) C dX10_slotOf_6 (by decide) ?_
  refine q_iload_n C dX10_slotOf_8 rfl ?_
  refine q_iadd C dX10_slotOf_9 ?_
  have s2 := h.1
  replace h := h.2
  have s3 := h.1
  replace h := h.2
  refine q_iald C s2 s3 dX10_slotOf_10 ?_
  refine q_iload_n C dX10_slotOf_11 rfl ?_
  refine q_icmp_eq (tgt := 21) C dX10_slotOf_12 (by decide) (fun c4 => ?_) (fun c4 => ?_)
  · replace h := h.1 c4
    refine q_iload_n C dX10_slotOf_21 rfl ?_
    exact q_iret C hk dX10_slotOf_22 ⟨rfl, h⟩
  · replace h := h.2 c4
    refine q_iinc (w := 1) (lo1 := [some (.ref a0), some (.int x1), some (.int (x2 + 1))]) C dX10_slotOf_15 rfl (by decide) (by decide) rfl ?_
    refine q_goto (tgt := 2) C dX10_slotOf_18 (by decide) ?_
    exact hT1 _ _ _ _ h
theorem sp_X10_slotOf {d : Nat} {sh : List qSh} {K : Option Value → qMI → qML → qMP → Prop} {a0 : Nat} {x1 : Int32} {I : qMI} {L : qML} {P : qMP} (T1 : Int32 → qMI → qML → qMP → Prop) (m1 : Int32 → qMI → qML → qMP → Nat) (h0 : vc_X10_slotOf_0 d sh K T1 a0 x1 I L P)
    (h1 : ∀ (x2 : Int32) (I : qMI) (L : qML) (P : qMP), T1 x2 I L P → vc_X10_slotOf_1 d sh K (fun w0 I' L' P' => T1 w0 I' L' P' ∧ m1 w0 I' L' P' < m1 x2 I L P) a0 x1 x2 I L P) : Sq (d + 1) mX10_slotOf sh [.ref a0, .int x1] I L P K := by
  refine Sq_of (by decide +kernel) (Nat.le_of_ble_eq_true rfl) (fun X C hk hn => ?_)
  have go : ∀ N : Nat, (∀ (x2 : Int32) (I : qMI) (L : qML) (P : qMP), T1 x2 I L P → m1 x2 I L P < N → qG X 2 [some (.ref a0), some (.int x1), some (.int x2)] [] sh I L P 0 0) := by
    intro N
    induction N with
    | zero => exact fun _ _ _ _ _ q => absurd q (Nat.not_lt_zero _)
    | succ N ih =>
      exact fun b0 I1 L1 P1 t q => rg_X10_slotOf_1 C hk (fun z0 I2 L2 P2 z => ih z0 I2 L2 P2 z.1 (Nat.lt_of_lt_of_le z.2 (Nat.le_of_lt_succ q))) (h1 b0 I1 L1 P1 t)
  exact rg_X10_slotOf_0 C hk (fun b0 I1 L1 P1 t => (go (m1 b0 I1 L1 P1 + 1)) b0 I1 L1 P1 t (Nat.lt_succ_self _)) h0
/-! BracketDrawsModel.slot(I)I -/
def vc_X10_slot_0 (d : Nat) (sh : List qSh) (K : Option Value → qMI → qML → qMP → Prop) (a0 : Nat) (x1 : Int32) (I : qMI) (L : qML) (P : qMP) : Prop :=
  ((shp sh a0).1 = 10) ∧ (Sq d mX10_isSlot sh [.ref a0, .int x1] I L P (KI fun r2 I3 L4 P5 => ((¬ r2 = 0) → (Sq d mX10_hasDraw sh [.ref a0] I3 L4 P5 (KI fun r7 I8 L9 P10 => ((r7 = 0) → (K (some (.int ((-5)))) I8 L9 P10)) ∧ ((¬ r7 = 0) → (((shp sh (P10 a0 0)).1 = 20) ∧ ((vp_in (45 + x1) (shp sh (P10 a0 0)).2) ∧ (K (some (.int (I8 (P10 a0 0) (Int32.toNatClampNeg (45 + x1))))) I8 L9 P10))))))) ∧ ((r2 = 0) → (K (some (.int ((-1)))) I3 L4 P5))))
set_option maxRecDepth 100000 in
set_option maxHeartbeats 4000000 in
theorem rg_X10_slot_0 {X : qCT} {d : Nat} {sh : List qSh} {K : Option Value → qMI → qML → qMP → Prop} {a0 : Nat} {x1 : Int32} {I : qMI} {L : qML} {P : qMP} (C : qCB X RX10 cX10_slot 2 (d + 1) 0 0) (hk : qCK X (some .int) 0 0 (fun v sh' I' L' P' => sh' = sh ∧ K v I' L' P')) (h : vc_X10_slot_0 d sh K a0 x1 I L P) : qG X 0 [some (.ref a0), some (.int x1)] [] sh I L P 0 0 := by
  unfold vc_X10_slot_0 at h
  refine q_aload_n C dX10_slot_0 rfl ?_
  refine q_iload_n C dX10_slot_1 rfl ?_
  have s1 := h.1
  replace h := h.2
  refine q_cVi (as := [.int x1]) (st := []) (r := a0) C mv_X10_isSlot ml_RX10_223 dX10_slot_2 rfl s1 rfl (Nat.le_of_ble_eq_true rfl) ⟨Nat.le_refl _, Nat.le_refl _⟩ h (fun r2 I3 L4 P5 h => ?_)
  refine q_if_ne (tgt := 12) C dX10_slot_5 (by decide) (fun c6 => ?_) (fun c6 => ?_)
  · replace h := h.1 c6
    refine q_aload_n C dX10_slot_12 rfl ?_
    refine q_cVi (as := []) (st := []) (r := a0) C mv_X10_hasDraw ml_RX10_257 dX10_slot_13 rfl s1 rfl (Nat.le_of_ble_eq_true rfl) ⟨Nat.le_refl _, Nat.le_refl _⟩ h (fun r7 I8 L9 P10 h => ?_)
    refine q_if_eq (tgt := 31) C dX10_slot_16 (by decide) (fun c11 => ?_) (fun c11 => ?_)
    · replace h := h.1 c11
      refine q_bipush (v := (-5)) C dX10_slot_31 (by decide) ?_
      exact q_iret C hk dX10_slot_33 ⟨rfl, h⟩
    · replace h := h.2 c11
      refine q_aload_n C dX10_slot_19 rfl ?_
      refine q_getP C fl_RX10_9 rfl s1 dX10_slot_20 ?_
      refine q_bipush (v := 45) C dX10_slot_23 (by decide) ?_
      refine q_iload_n C dX10_slot_25 rfl ?_
      refine q_iadd C dX10_slot_26 ?_
      have s12 := h.1
      replace h := h.2
      have s13 := h.1
      replace h := h.2
      refine q_iald C s12 s13 dX10_slot_27 ?_
      refine q_goto (tgt := 33) C dX10_slot_28 (by decide) ?_
      exact q_iret C hk dX10_slot_33 ⟨rfl, h⟩
  · replace h := h.2 c6
    refine q_iconst (v := (-1)) C dX10_slot_8 (by decide) ?_
    refine q_goto (tgt := 33) C dX10_slot_9 (by decide) ?_
    exact q_iret C hk dX10_slot_33 ⟨rfl, h⟩
theorem sp_X10_slot {d : Nat} {sh : List qSh} {K : Option Value → qMI → qML → qMP → Prop} {a0 : Nat} {x1 : Int32} {I : qMI} {L : qML} {P : qMP} (h0 : vc_X10_slot_0 d sh K a0 x1 I L P) : Sq (d + 1) mX10_slot sh [.ref a0, .int x1] I L P K := by
  refine Sq_of (by decide +kernel) (Nat.le_of_ble_eq_true rfl) (fun X C hk hn => ?_)
  exact rg_X10_slot_0 C hk h0
/-! BracketDrawsModel.where(I)I -/
def vc_X10_where_0 (d : Nat) (sh : List qSh) (K : Option Value → qMI → qML → qMP → Prop) (a0 : Nat) (x1 : Int32) (I : qMI) (L : qML) (P : qMP) : Prop :=
  ((shp sh a0).1 = 10) ∧ (Sq d mX10_isPlayer sh [.ref a0, .int x1] I L P (KI fun r2 I3 L4 P5 => ((¬ r2 = 0) → (Sq d mX10_hasDraw sh [.ref a0] I3 L4 P5 (KI fun r7 I8 L9 P10 => ((r7 = 0) → (K (some (.int ((-5)))) I8 L9 P10)) ∧ ((¬ r7 = 0) → (Sq d mX10_slotOf sh [.ref a0, .int x1] I8 L9 P10 (KI fun r12 I13 L14 P15 => K (some (.int r12)) I13 L14 P15)))))) ∧ ((r2 = 0) → (K (some (.int ((-1)))) I3 L4 P5))))
set_option maxRecDepth 100000 in
set_option maxHeartbeats 4000000 in
theorem rg_X10_where_0 {X : qCT} {d : Nat} {sh : List qSh} {K : Option Value → qMI → qML → qMP → Prop} {a0 : Nat} {x1 : Int32} {I : qMI} {L : qML} {P : qMP} (C : qCB X RX10 cX10_where 2 (d + 1) 0 0) (hk : qCK X (some .int) 0 0 (fun v sh' I' L' P' => sh' = sh ∧ K v I' L' P')) (h : vc_X10_where_0 d sh K a0 x1 I L P) : qG X 0 [some (.ref a0), some (.int x1)] [] sh I L P 0 0 := by
  unfold vc_X10_where_0 at h
  refine q_aload_n C dX10_where_0 rfl ?_
  refine q_iload_n C dX10_where_1 rfl ?_
  have s1 := h.1
  replace h := h.2
  refine q_cVi (as := [.int x1]) (st := []) (r := a0) C mv_X10_isPlayer ml_RX10_114 dX10_where_2 rfl s1 rfl (Nat.le_of_ble_eq_true rfl) ⟨Nat.le_refl _, Nat.le_refl _⟩ h (fun r2 I3 L4 P5 h => ?_)
  refine q_if_ne (tgt := 12) C dX10_where_5 (by decide) (fun c6 => ?_) (fun c6 => ?_)
  · replace h := h.1 c6
    refine q_aload_n C dX10_where_12 rfl ?_
    refine q_cVi (as := []) (st := []) (r := a0) C mv_X10_hasDraw ml_RX10_257 dX10_where_13 rfl s1 rfl (Nat.le_of_ble_eq_true rfl) ⟨Nat.le_refl _, Nat.le_refl _⟩ h (fun r7 I8 L9 P10 h => ?_)
    refine q_if_eq (tgt := 27) C dX10_where_16 (by decide) (fun c11 => ?_) (fun c11 => ?_)
    · replace h := h.1 c11
      refine q_bipush (v := (-5)) C dX10_where_27 (by decide) ?_
      exact q_iret C hk dX10_where_29 ⟨rfl, h⟩
    · replace h := h.2 c11
      refine q_aload_n C dX10_where_19 rfl ?_
      refine q_iload_n C dX10_where_20 rfl ?_
      refine q_cVi (as := [.int x1]) (st := []) (r := a0) C mv_X10_slotOf ml_RX10_260 dX10_where_21 rfl s1 rfl (Nat.le_of_ble_eq_true rfl) ⟨Nat.le_refl _, Nat.le_refl _⟩ h (fun r12 I13 L14 P15 h => ?_)
      refine q_goto (tgt := 29) C dX10_where_24 (by decide) ?_
      exact q_iret C hk dX10_where_29 ⟨rfl, h⟩
  · replace h := h.2 c6
    refine q_iconst (v := (-1)) C dX10_where_8 (by decide) ?_
    refine q_goto (tgt := 29) C dX10_where_9 (by decide) ?_
    exact q_iret C hk dX10_where_29 ⟨rfl, h⟩
theorem sp_X10_where {d : Nat} {sh : List qSh} {K : Option Value → qMI → qML → qMP → Prop} {a0 : Nat} {x1 : Int32} {I : qMI} {L : qML} {P : qMP} (h0 : vc_X10_where_0 d sh K a0 x1 I L P) : Sq (d + 1) mX10_where sh [.ref a0, .int x1] I L P K := by
  refine Sq_of (by decide +kernel) (Nat.le_of_ble_eq_true rfl) (fun X C hk hn => ?_)
  exact rg_X10_where_0 C hk h0
/-! BracketDrawsModel.number()J -/
def vc_X10_number_0 (d : Nat) (sh : List qSh) (K : Option Value → qMI → qML → qMP → Prop) (a0 : Nat) (I : qMI) (L : qML) (P : qMP) : Prop :=
  ((shp sh a0).1 = 10) ∧ (Sq d mX10_hasDraw sh [.ref a0] I L P (KI fun r2 I3 L4 P5 => ((¬ r2 = 0) → (Sq d mX10_all sh [.ref a0] I3 L4 P5 (KL fun r7 I8 L9 P10 => Sq d mX10_sits sh [.ref a0] I8 L9 P10 (KV fun I11 L12 P13 => ((0 ≤ r7) → (Sq d mX10_lastRound sh [.ref a0] I11 L12 P13 (KI fun r15 I16 L17 P18 => Sq d mX10_rank sh [.ref a0, .int r15, .int 0] I16 L17 P18 (KL fun r19 I20 L21 P22 => K (some (.long r19)) I20 L21 P22)))) ∧ ((¬ 0 ≤ r7) → (K (some (.long ((-5)))) I11 L12 P13)))))) ∧ ((r2 = 0) → (K (some (.long ((-5)))) I3 L4 P5))))
set_option maxRecDepth 100000 in
set_option maxHeartbeats 4000000 in
theorem rg_X10_number_0 {X : qCT} {d : Nat} {sh : List qSh} {K : Option Value → qMI → qML → qMP → Prop} {a0 : Nat} {I : qMI} {L : qML} {P : qMP} (C : qCB X RX10 cX10_number 3 (d + 1) 0 0) (hk : qCK X (some .long) 0 0 (fun v sh' I' L' P' => sh' = sh ∧ K v I' L' P')) (h : vc_X10_number_0 d sh K a0 I L P) : qG X 0 [some (.ref a0), none, none] [] sh I L P 0 0 := by
  unfold vc_X10_number_0 at h
  refine q_aload_n C dX10_number_0 rfl ?_
  have s1 := h.1
  replace h := h.2
  refine q_cVi (as := []) (st := []) (r := a0) C mv_X10_hasDraw ml_RX10_257 dX10_number_1 rfl s1 rfl (Nat.le_of_ble_eq_true rfl) ⟨Nat.le_refl _, Nat.le_refl _⟩ h (fun r2 I3 L4 P5 h => ?_)
  refine q_if_ne (tgt := 11) C dX10_number_4 (by decide) (fun c6 => ?_) (fun c6 => ?_)
  · replace h := h.1 c6
    refine q_aload_n C dX10_number_11 rfl ?_
    refine q_cVl (as := []) (st := []) (r := a0) C mv_X10_all ml_RX10_219 dX10_number_12 rfl s1 rfl (Nat.le_of_ble_eq_true rfl) ⟨Nat.le_refl _, Nat.le_refl _⟩ h (fun r7 I8 L9 P10 h => ?_)
    refine q_lstore_n (lo1 := [some (.ref a0), some (.long r7), none]) C dX10_number_15 (by decide) rfl ?_
    refine q_aload_n C dX10_number_16 rfl ?_
    refine q_cVv (as := []) (st := []) (r := a0) C mv_X10_sits ml_RX10_263 dX10_number_17 rfl s1 rfl (Nat.le_of_ble_eq_true rfl) ⟨Nat.le_refl _, Nat.le_refl _⟩ h (fun I11 L12 P13 h => ?_)
    refine q_lload_n C dX10_number_20 rfl ?_
    refine q_lconst (v := 0) C dX10_number_21 (by decide) ?_
    refine q_lcmp_ge (tgt := 32) C dX10_number_22 dX10_number_23 (by decide) (fun c14 => ?_) (fun c14 => ?_)
    · replace h := h.1 c14
      refine q_aload_n C dX10_number_32 rfl ?_
      refine q_aload_n C dX10_number_33 rfl ?_
      refine q_cVi (as := []) (st := [.ref a0]) (r := a0) C mv_X10_lastRound ml_RX10_71 dX10_number_34 rfl s1 rfl (Nat.le_of_ble_eq_true rfl) ⟨Nat.le_refl _, Nat.le_refl _⟩ h (fun r15 I16 L17 P18 h => ?_)
      refine q_iconst (v := 0) C dX10_number_37 (by decide) ?_
      refine q_cVl (as := [.int r15, .int 0]) (st := []) (r := a0) C mv_X10_rank ml_RX10_254 dX10_number_38 rfl s1 rfl (Nat.le_of_ble_eq_true rfl) ⟨Nat.le_refl _, Nat.le_refl _⟩ h (fun r19 I20 L21 P22 h => ?_)
      exact q_lret C hk dX10_number_41 ⟨rfl, h⟩
    · replace h := h.2 c14
      refine q_ldc2 C kl_RX10_217 dX10_number_26 ?_
      refine q_goto (tgt := 41) C dX10_number_29 (by decide) ?_
      exact q_lret C hk dX10_number_41 ⟨rfl, h⟩
  · replace h := h.2 c6
    refine q_ldc2 C kl_RX10_217 dX10_number_7 ?_
    exact q_lret C hk dX10_number_10 ⟨rfl, h⟩
theorem sp_X10_number {d : Nat} {sh : List qSh} {K : Option Value → qMI → qML → qMP → Prop} {a0 : Nat} {I : qMI} {L : qML} {P : qMP} (h0 : vc_X10_number_0 d sh K a0 I L P) : Sq (d + 1) mX10_number sh [.ref a0] I L P K := by
  refine Sq_of (by decide +kernel) (Nat.le_of_ble_eq_true rfl) (fun X C hk hn => ?_)
  exact rg_X10_number_0 C hk h0
/-! BracketDrawsModel.swapped(II)J -/
def vc_X10_swapped_0 (d : Nat) (sh : List qSh) (K : Option Value → qMI → qML → qMP → Prop) (a0 : Nat) (x1 : Int32) (x2 : Int32) (I : qMI) (L : qML) (P : qMP) : Prop :=
  ((shp sh a0).1 = 10) ∧ (Sq d mX10_isPlayer sh [.ref a0, .int x1] I L P (KI fun r2 I3 L4 P5 => ((r2 = 0) → (K (some (.long ((-1)))) I3 L4 P5)) ∧ ((¬ r2 = 0) → (Sq d mX10_isPlayer sh [.ref a0, .int x2] I3 L4 P5 (KI fun r7 I8 L9 P10 => ((r7 = 0) → (K (some (.long ((-1)))) I8 L9 P10)) ∧ ((¬ r7 = 0) → (((¬ x1 = x2) → (Sq d mX10_hasDraw sh [.ref a0] I8 L9 P10 (KI fun r13 I14 L15 P16 => ((¬ r13 = 0) → (Sq d mX10_all sh [.ref a0] I14 L15 P16 (KL fun r18 I19 L20 P21 => Sq d mX10_prepares sh [.ref a0] I19 L20 P21 (KV fun I22 L23 P24 => Sq d mX10_sits sh [.ref a0] I22 L23 P24 (KV fun I25 L26 P27 => Sq d mX10_slotOf sh [.ref a0, .int x1] I25 L26 P27 (KI fun r28 I29 L30 P31 => ((shp sh (P27 a0 26)).1 = 20) ∧ ((vp_in r28 (shp sh (P27 a0 26)).2) ∧ (∀ I34 : qMI, I34 = uI I29 (P27 a0 26) (Int32.toNatClampNeg r28) x2 → (Sq d mX10_slotOf sh [.ref a0, .int x2] I34 L30 P31 (KI fun r35 I36 L37 P38 => ((shp sh (P31 a0 26)).1 = 20) ∧ ((vp_in r35 (shp sh (P31 a0 26)).2) ∧ (∀ I41 : qMI, I41 = uI I36 (P31 a0 26) (Int32.toNatClampNeg r35) x1 → (((r18 ≤ 0) → (K (some (.long ((-2)))) I41 L37 P38)) ∧ ((¬ r18 ≤ 0) → (Sq d mX10_isDraw sh [.ref a0] I41 L37 P38 (KI fun r43 I44 L45 P46 => ((r43 = 0) → (K (some (.long ((-2)))) I44 L45 P46)) ∧ ((¬ r43 = 0) → (Sq d mX10_lastRound sh [.ref a0] I44 L45 P46 (KI fun r48 I49 L50 P51 => Sq d mX10_rank sh [.ref a0, .int r48, .int 0] I49 L50 P51 (KL fun r52 I53 L54 P55 => K (some (.long r52)) I53 L54 P55)))))))))))))))))))) ∧ ((r13 = 0) → (K (some (.long ((-5)))) I14 L15 P16))))) ∧ ((x1 = x2) → (K (some (.long ((-1)))) I8 L9 P10)))))))))
set_option maxRecDepth 100000 in
set_option maxHeartbeats 4000000 in
theorem rg_X10_swapped_0 {X : qCT} {d : Nat} {sh : List qSh} {K : Option Value → qMI → qML → qMP → Prop} {a0 : Nat} {x1 : Int32} {x2 : Int32} {I : qMI} {L : qML} {P : qMP} (C : qCB X RX10 cX10_swapped 5 (d + 1) 0 0) (hk : qCK X (some .long) 0 0 (fun v sh' I' L' P' => sh' = sh ∧ K v I' L' P')) (h : vc_X10_swapped_0 d sh K a0 x1 x2 I L P) : qG X 0 [some (.ref a0), some (.int x1), some (.int x2), none, none] [] sh I L P 0 0 := by
  unfold vc_X10_swapped_0 at h
  refine q_aload_n C dX10_swapped_0 rfl ?_
  refine q_iload_n C dX10_swapped_1 rfl ?_
  have s1 := h.1
  replace h := h.2
  refine q_cVi (as := [.int x1]) (st := []) (r := a0) C mv_X10_isPlayer ml_RX10_114 dX10_swapped_2 rfl s1 rfl (Nat.le_of_ble_eq_true rfl) ⟨Nat.le_refl _, Nat.le_refl _⟩ h (fun r2 I3 L4 P5 h => ?_)
  refine q_if_eq (tgt := 21) C dX10_swapped_5 (by decide) (fun c6 => ?_) (fun c6 => ?_)
  · replace h := h.1 c6
    refine q_ldc2 C kl_RX10_226 dX10_swapped_21 ?_
    exact q_lret C hk dX10_swapped_24 ⟨rfl, h⟩
  · replace h := h.2 c6
    refine q_aload_n C dX10_swapped_8 rfl ?_
    refine q_iload_n C dX10_swapped_9 rfl ?_
    refine q_cVi (as := [.int x2]) (st := []) (r := a0) C mv_X10_isPlayer ml_RX10_114 dX10_swapped_10 rfl s1 rfl (Nat.le_of_ble_eq_true rfl) ⟨Nat.le_refl _, Nat.le_refl _⟩ h (fun r7 I8 L9 P10 h => ?_)
    refine q_if_eq (tgt := 21) C dX10_swapped_13 (by decide) (fun c11 => ?_) (fun c11 => ?_)
    · replace h := h.1 c11
      refine q_ldc2 C kl_RX10_226 dX10_swapped_21 ?_
      exact q_lret C hk dX10_swapped_24 ⟨rfl, h⟩
    · replace h := h.2 c11
      refine q_iload_n C dX10_swapped_16 rfl ?_
      refine q_iload_n C dX10_swapped_17 rfl ?_
      refine q_icmp_ne (tgt := 25) C dX10_swapped_18 (by decide) (fun c12 => ?_) (fun c12 => ?_)
      · replace h := h.1 c12
        refine q_aload_n C dX10_swapped_25 rfl ?_
        refine q_cVi (as := []) (st := []) (r := a0) C mv_X10_hasDraw ml_RX10_257 dX10_swapped_26 rfl s1 rfl (Nat.le_of_ble_eq_true rfl) ⟨Nat.le_refl _, Nat.le_refl _⟩ h (fun r13 I14 L15 P16 h => ?_)
        refine q_if_ne (tgt := 36) C dX10_swapped_29 (by decide) (fun c17 => ?_) (fun c17 => ?_)
        · replace h := h.1 c17
          refine q_aload_n C dX10_swapped_36 rfl ?_
          refine q_cVl (as := []) (st := []) (r := a0) C mv_X10_all ml_RX10_219 dX10_swapped_37 rfl s1 rfl (Nat.le_of_ble_eq_true rfl) ⟨Nat.le_refl _, Nat.le_refl _⟩ h (fun r18 I19 L20 P21 h => ?_)
          refine q_lstore_n (lo1 := [some (.ref a0), some (.int x1), some (.int x2), some (.long r18), none]) C dX10_swapped_40 (by decide) rfl ?_
          refine q_aload_n C dX10_swapped_41 rfl ?_
          refine q_cVv (as := []) (st := []) (r := a0) C mv_X10_prepares ml_RX10_197 dX10_swapped_42 rfl s1 rfl (Nat.le_of_ble_eq_true rfl) ⟨Nat.le_refl _, Nat.le_refl _⟩ h (fun I22 L23 P24 h => ?_)
          refine q_aload_n C dX10_swapped_45 rfl ?_
          refine q_cVv (as := []) (st := []) (r := a0) C mv_X10_sits ml_RX10_263 dX10_swapped_46 rfl s1 rfl (Nat.le_of_ble_eq_true rfl) ⟨Nat.le_refl _, Nat.le_refl _⟩ h (fun I25 L26 P27 h => ?_)
          refine q_aload_n C dX10_swapped_49 rfl ?_
          refine q_getP C fl_RX10_57 rfl s1 dX10_swapped_50 ?_
          refine q_aload_n C dX10_swapped_53 rfl ?_
          refine q_iload_n C dX10_swapped_54 rfl ?_
          refine q_cVi (as := [.int x1]) (st := [.ref (P27 a0 26)]) (r := a0) C mv_X10_slotOf ml_RX10_260 dX10_swapped_55 rfl s1 rfl (Nat.le_of_ble_eq_true rfl) ⟨Nat.le_refl _, Nat.le_refl _⟩ h (fun r28 I29 L30 P31 h => ?_)
          refine q_iload_n C dX10_swapped_58 rfl ?_
          have s32 := h.1
          replace h := h.2
          have s33 := h.1
          replace h := h.2
          refine q_iast C s32 s33 dX10_swapped_59 (fun I34 eI34 => ?_)
          replace h := h I34 eI34
          refine q_aload_n C dX10_swapped_60 rfl ?_
          refine q_getP C fl_RX10_57 rfl s1 dX10_swapped_61 ?_
          refine q_aload_n C dX10_swapped_64 rfl ?_
          refine q_iload_n C dX10_swapped_65 rfl ?_
          refine q_cVi (as := [.int x2]) (st := [.ref (P31 a0 26)]) (r := a0) C mv_X10_slotOf ml_RX10_260 dX10_swapped_66 rfl s1 rfl (Nat.le_of_ble_eq_true rfl) ⟨Nat.le_refl _, Nat.le_refl _⟩ h (fun r35 I36 L37 P38 h => ?_)
          refine q_iload_n C dX10_swapped_69 rfl ?_
          have s39 := h.1
          replace h := h.2
          have s40 := h.1
          replace h := h.2
          refine q_iast C s39 s40 dX10_swapped_70 (fun I41 eI41 => ?_)
          replace h := h I41 eI41
          refine q_lload_n C dX10_swapped_71 rfl ?_
          refine q_lconst (v := 0) C dX10_swapped_72 (by decide) ?_
          refine q_lcmp_le (tgt := 96) C dX10_swapped_73 dX10_swapped_74 (by decide) (fun c42 => ?_) (fun c42 => ?_)
          · replace h := h.1 c42
            refine q_ldc2 C kl_RX10_247 dX10_swapped_96 ?_
            exact q_lret C hk dX10_swapped_99 ⟨rfl, h⟩
          · replace h := h.2 c42
            refine q_aload_n C dX10_swapped_77 rfl ?_
            refine q_cVi (as := []) (st := []) (r := a0) C mv_X10_isDraw ml_RX10_266 dX10_swapped_78 rfl s1 rfl (Nat.le_of_ble_eq_true rfl) ⟨Nat.le_refl _, Nat.le_refl _⟩ h (fun r43 I44 L45 P46 h => ?_)
            refine q_if_eq (tgt := 96) C dX10_swapped_81 (by decide) (fun c47 => ?_) (fun c47 => ?_)
            · replace h := h.1 c47
              refine q_ldc2 C kl_RX10_247 dX10_swapped_96 ?_
              exact q_lret C hk dX10_swapped_99 ⟨rfl, h⟩
            · replace h := h.2 c47
              refine q_aload_n C dX10_swapped_84 rfl ?_
              refine q_aload_n C dX10_swapped_85 rfl ?_
              refine q_cVi (as := []) (st := [.ref a0]) (r := a0) C mv_X10_lastRound ml_RX10_71 dX10_swapped_86 rfl s1 rfl (Nat.le_of_ble_eq_true rfl) ⟨Nat.le_refl _, Nat.le_refl _⟩ h (fun r48 I49 L50 P51 h => ?_)
              refine q_iconst (v := 0) C dX10_swapped_89 (by decide) ?_
              refine q_cVl (as := [.int r48, .int 0]) (st := []) (r := a0) C mv_X10_rank ml_RX10_254 dX10_swapped_90 rfl s1 rfl (Nat.le_of_ble_eq_true rfl) ⟨Nat.le_refl _, Nat.le_refl _⟩ h (fun r52 I53 L54 P55 h => ?_)
              refine q_goto (tgt := 99) C dX10_swapped_93 (by decide) ?_
              exact q_lret C hk dX10_swapped_99 ⟨rfl, h⟩
        · replace h := h.2 c17
          refine q_ldc2 C kl_RX10_217 dX10_swapped_32 ?_
          exact q_lret C hk dX10_swapped_35 ⟨rfl, h⟩
      · replace h := h.2 c12
        refine q_ldc2 C kl_RX10_226 dX10_swapped_21 ?_
        exact q_lret C hk dX10_swapped_24 ⟨rfl, h⟩
theorem sp_X10_swapped {d : Nat} {sh : List qSh} {K : Option Value → qMI → qML → qMP → Prop} {a0 : Nat} {x1 : Int32} {x2 : Int32} {I : qMI} {L : qML} {P : qMP} (h0 : vc_X10_swapped_0 d sh K a0 x1 x2 I L P) : Sq (d + 1) mX10_swapped sh [.ref a0, .int x1, .int x2] I L P K := by
  refine Sq_of (by decide +kernel) (Nat.le_of_ble_eq_true rfl) (fun X C hk hn => ?_)
  exact rg_X10_swapped_0 C hk h0
/-! BracketDrawsModel.soonest(II)I -/
def vc_X10_soonest_0 (d : Nat) (sh : List qSh) (K : Option Value → qMI → qML → qMP → Prop) (T1 : Int32 → qMI → qML → qMP → Prop) (a0 : Nat) (x1 : Int32) (x2 : Int32) (I : qMI) (L : qML) (P : qMP) : Prop :=
  ((shp sh a0).1 = 10) ∧ (Sq d mX10_isPlayer sh [.ref a0, .int x1] I L P (KI fun r2 I3 L4 P5 => ((r2 = 0) → (K (some (.int ((-1)))) I3 L4 P5)) ∧ ((¬ r2 = 0) → (Sq d mX10_isPlayer sh [.ref a0, .int x2] I3 L4 P5 (KI fun r7 I8 L9 P10 => ((r7 = 0) → (K (some (.int ((-1)))) I8 L9 P10)) ∧ ((¬ r7 = 0) → (((¬ x1 = x2) → (Sq d mX10_hasDraw sh [.ref a0] I8 L9 P10 (KI fun r13 I14 L15 P16 => ((¬ r13 = 0) → (T1 0 I14 L15 P16)) ∧ ((r13 = 0) → (K (some (.int ((-5)))) I14 L15 P16))))) ∧ ((x1 = x2) → (K (some (.int ((-1)))) I8 L9 P10)))))))))
set_option maxRecDepth 100000 in
set_option maxHeartbeats 4000000 in
theorem rg_X10_soonest_0 {X : qCT} {d : Nat} {sh : List qSh} {K : Option Value → qMI → qML → qMP → Prop} {T1 : Int32 → qMI → qML → qMP → Prop} {a0 : Nat} {x1 : Int32} {x2 : Int32} {I : qMI} {L : qML} {P : qMP} (C : qCB X RX10 cX10_soonest 4 (d + 1) 0 0) (hk : qCK X (some .int) 0 0 (fun v sh' I' L' P' => sh' = sh ∧ K v I' L' P')) (hT1 : ∀ (x3 : Int32) (I : qMI) (L : qML) (P : qMP), T1 x3 I L P → qG X 35 [some (.ref a0), some (.int x1), some (.int x2), some (.int x3)] [] sh I L P 0 0) (h : vc_X10_soonest_0 d sh K T1 a0 x1 x2 I L P) : qG X 0 [some (.ref a0), some (.int x1), some (.int x2), none] [] sh I L P 0 0 := by
  unfold vc_X10_soonest_0 at h
  refine q_aload_n C dX10_soonest_0 rfl ?_
  refine q_iload_n C dX10_soonest_1 rfl ?_
  have s1 := h.1
  replace h := h.2
  refine q_cVi (as := [.int x1]) (st := []) (r := a0) C mv_X10_isPlayer ml_RX10_114 dX10_soonest_2 rfl s1 rfl (Nat.le_of_ble_eq_true rfl) ⟨Nat.le_refl _, Nat.le_refl _⟩ h (fun r2 I3 L4 P5 h => ?_)
  refine q_if_eq (tgt := 21) C dX10_soonest_5 (by decide) (fun c6 => ?_) (fun c6 => ?_)
  · replace h := h.1 c6
    refine q_iconst (v := (-1)) C dX10_soonest_21 (by decide) ?_
    exact q_iret C hk dX10_soonest_22 ⟨rfl, h⟩
  · replace h := h.2 c6
    refine q_aload_n C dX10_soonest_8 rfl ?_
    refine q_iload_n C dX10_soonest_9 rfl ?_
    refine q_cVi (as := [.int x2]) (st := []) (r := a0) C mv_X10_isPlayer ml_RX10_114 dX10_soonest_10 rfl s1 rfl (Nat.le_of_ble_eq_true rfl) ⟨Nat.le_refl _, Nat.le_refl _⟩ h (fun r7 I8 L9 P10 h => ?_)
    refine q_if_eq (tgt := 21) C dX10_soonest_13 (by decide) (fun c11 => ?_) (fun c11 => ?_)
    · replace h := h.1 c11
      refine q_iconst (v := (-1)) C dX10_soonest_21 (by decide) ?_
      exact q_iret C hk dX10_soonest_22 ⟨rfl, h⟩
    · replace h := h.2 c11
      refine q_iload_n C dX10_soonest_16 rfl ?_
      refine q_iload_n C dX10_soonest_17 rfl ?_
      refine q_icmp_ne (tgt := 23) C dX10_soonest_18 (by decide) (fun c12 => ?_) (fun c12 => ?_)
      · replace h := h.1 c12
        refine q_aload_n C dX10_soonest_23 rfl ?_
        refine q_cVi (as := []) (st := []) (r := a0) C mv_X10_hasDraw ml_RX10_257 dX10_soonest_24 rfl s1 rfl (Nat.le_of_ble_eq_true rfl) ⟨Nat.le_refl _, Nat.le_refl _⟩ h (fun r13 I14 L15 P16 h => ?_)
        refine q_if_ne (tgt := 33) C dX10_soonest_27 (by decide) (fun c17 => ?_) (fun c17 => ?_)
        · replace h := h.1 c17
          refine q_iconst (v := 0) C dX10_soonest_33 (by decide) ?_
          refine q_istore_n (lo1 := [some (.ref a0), some (.int x1), some (.int x2), some (.int 0)]) C dX10_soonest_34 (by decide) rfl ?_
          exact hT1 _ _ _ _ h
        · replace h := h.2 c17
          refine q_bipush (v := (-5)) C dX10_soonest_30 (by decide) ?_
          exact q_iret C hk dX10_soonest_32 ⟨rfl, h⟩
      · replace h := h.2 c12
        refine q_iconst (v := (-1)) C dX10_soonest_21 (by decide) ?_
        exact q_iret C hk dX10_soonest_22 ⟨rfl, h⟩
def vc_X10_soonest_1 (d : Nat) (sh : List qSh) (K : Option Value → qMI → qML → qMP → Prop) (T1 : Int32 → qMI → qML → qMP → Prop) (a0 : Nat) (x1 : Int32) (x2 : Int32) (x3 : Int32) (I : qMI) (L : qML) (P : qMP) : Prop :=
  ((shp sh a0).1 = 10) ∧ (Sq d mX10_slotOf sh [.ref a0, .int x1] I L P (KI fun r2 I3 L4 P5 => Sq d mX10_slotOf sh [.ref a0, .int x2] I3 L4 P5 (KI fun r6 I7 L8 P9 => (((r2 >>> (x3 &&& 31)) = (r6 >>> (x3 &&& 31))) → (K (some (.int x3)) I7 L8 P9)) ∧ ((¬ (r2 >>> (x3 &&& 31)) = (r6 >>> (x3 &&& 31))) → (T1 (x3 + 1) I7 L8 P9)))))
set_option maxRecDepth 100000 in
set_option maxHeartbeats 4000000 in
theorem rg_X10_soonest_1 {X : qCT} {d : Nat} {sh : List qSh} {K : Option Value → qMI → qML → qMP → Prop} {T1 : Int32 → qMI → qML → qMP → Prop} {a0 : Nat} {x1 : Int32} {x2 : Int32} {x3 : Int32} {I : qMI} {L : qML} {P : qMP} (C : qCB X RX10 cX10_soonest 4 (d + 1) 0 0) (hk : qCK X (some .int) 0 0 (fun v sh' I' L' P' => sh' = sh ∧ K v I' L' P')) (hT1 : ∀ (x3 : Int32) (I : qMI) (L : qML) (P : qMP), T1 x3 I L P → qG X 35 [some (.ref a0), some (.int x1), some (.int x2), some (.int x3)] [] sh I L P 0 0) (h : vc_X10_soonest_1 d sh K T1 a0 x1 x2 x3 I L P) : qG X 35 [some (.ref a0), some (.int x1), some (.int x2), some (.int x3)] [] sh I L P 0 0 := by
  unfold vc_X10_soonest_1 at h
  refine q_aload_n C dX10_soonest_35 rfl ?_
  refine q_iload_n C dX10_soonest_36 rfl ?_
  have s1 := h.1
  replace h := h.2
  refine q_cVi (as := [.int x1]) (st := []) (r := a0) C mv_X10_slotOf ml_RX10_260 dX10_soonest_37 rfl s1 rfl (Nat.le_of_ble_eq_true rfl) ⟨Nat.le_refl _, Nat.le_refl _⟩ h (fun r2 I3 L4 P5 h => ?_)
  refine q_iload_n C dX10_soonest_40 rfl ?_
  refine q_ishr C dX10_soonest_41 ?_
  refine q_aload_n C dX10_soonest_42 rfl ?_
  refine q_iload_n C dX10_soonest_43 rfl ?_
  refine q_cVi (as := [.int x2]) (st := [.int (r2 >>> (x3 &&& 31))]) (r := a0) C mv_X10_slotOf ml_RX10_260 dX10_soonest_44 rfl s1 rfl (Nat.le_of_ble_eq_true rfl) ⟨Nat.le_refl _, Nat.le_refl _⟩ h (fun r6 I7 L8 P9 h => ?_)
  refine q_iload_n C dX10_soonest_47 rfl ?_
  refine q_ishr C dX10_soonest_48 ?_
  refine q_icmp_eq (tgt := 58) C dX10_soonest_49 (by decide) (fun c10 => ?_) (fun c10 => ?_)
  · replace h := h.1 c10
    refine q_iload_n C dX10_soonest_58 rfl ?_
    exact q_iret C hk dX10_soonest_59 ⟨rfl, h⟩
  · replace h := h.2 c10
    refine q_iinc (w := 1) (lo1 := [some (.ref a0), some (.int x1), some (.int x2), some (.int (x3 + 1))]) C dX10_soonest_52 rfl (by decide) (by decide) rfl ?_
    refine q_goto (tgt := 35) C dX10_soonest_55 (by decide) ?_
    exact hT1 _ _ _ _ h
theorem sp_X10_soonest {d : Nat} {sh : List qSh} {K : Option Value → qMI → qML → qMP → Prop} {a0 : Nat} {x1 : Int32} {x2 : Int32} {I : qMI} {L : qML} {P : qMP} (T1 : Int32 → qMI → qML → qMP → Prop) (m1 : Int32 → qMI → qML → qMP → Nat) (h0 : vc_X10_soonest_0 d sh K T1 a0 x1 x2 I L P)
    (h1 : ∀ (x3 : Int32) (I : qMI) (L : qML) (P : qMP), T1 x3 I L P → vc_X10_soonest_1 d sh K (fun w0 I' L' P' => T1 w0 I' L' P' ∧ m1 w0 I' L' P' < m1 x3 I L P) a0 x1 x2 x3 I L P) : Sq (d + 1) mX10_soonest sh [.ref a0, .int x1, .int x2] I L P K := by
  refine Sq_of (by decide +kernel) (Nat.le_of_ble_eq_true rfl) (fun X C hk hn => ?_)
  have go : ∀ N : Nat, (∀ (x3 : Int32) (I : qMI) (L : qML) (P : qMP), T1 x3 I L P → m1 x3 I L P < N → qG X 35 [some (.ref a0), some (.int x1), some (.int x2), some (.int x3)] [] sh I L P 0 0) := by
    intro N
    induction N with
    | zero => exact fun _ _ _ _ _ q => absurd q (Nat.not_lt_zero _)
    | succ N ih =>
      exact fun b0 I1 L1 P1 t q => rg_X10_soonest_1 C hk (fun z0 I2 L2 P2 z => ih z0 I2 L2 P2 z.1 (Nat.lt_of_lt_of_le z.2 (Nat.le_of_lt_succ q))) (h1 b0 I1 L1 P1 t)
  exact rg_X10_soonest_0 C hk (fun b0 I1 L1 P1 t => (go (m1 b0 I1 L1 P1 + 1)) b0 I1 L1 P1 t (Nat.lt_succ_self _)) h0
/-! BracketDrawsModel.relaxed(I)I -/
def vc_X10_relaxed_0 (d : Nat) (sh : List qSh) (K : Option Value → qMI → qML → qMP → Prop) (T1 : Int32 → Int32 → Int32 → qMI → qML → qMP → Prop) (a0 : Nat) (x1 : Int32) (I : qMI) (L : qML) (P : qMP) : Prop :=
  Sq d mX10_in sh [.long (Int32.toInt64 x1), .long 0, .long 1] I L P (KI fun r1 I2 L3 P4 => ((¬ r1 = 0) → (((shp sh a0).1 = 10) ∧ (Sq d mX10_areFew sh [.ref a0] I2 L3 P4 (KI fun r7 I8 L9 P10 => ((r7 = 0) → (((shp sh (P10 a0 0)).1 = 20) ∧ ((vp_in 1 (shp sh (P10 a0 0)).2) ∧ ((vp_in 2 (shp sh (P10 a0 0)).2) ∧ (T1 (I8 (P10 a0 0) (Int32.toNatClampNeg 1)) (I8 (P10 a0 0) (Int32.toNatClampNeg 2)) 1 I8 L9 P10))))) ∧ ((¬ r7 = 0) → (K (some (.int ((-5)))) I8 L9 P10)))))) ∧ ((r1 = 0) → (K (some (.int ((-1)))) I2 L3 P4)))
set_option maxRecDepth 100000 in
set_option maxHeartbeats 4000000 in
theorem rg_X10_relaxed_0 {X : qCT} {d : Nat} {sh : List qSh} {K : Option Value → qMI → qML → qMP → Prop} {T1 : Int32 → Int32 → Int32 → qMI → qML → qMP → Prop} {a0 : Nat} {x1 : Int32} {I : qMI} {L : qML} {P : qMP} (C : qCB X RX10 cX10_relaxed 7 (d + 1) 0 0) (hk : qCK X (some .int) 0 0 (fun v sh' I' L' P' => sh' = sh ∧ K v I' L' P')) (hT1 : ∀ (x2 : Int32) (x3 : Int32) (x4 : Int32) (I : qMI) (L : qML) (P : qMP), T1 x2 x3 x4 I L P → qG X 39 [some (.ref a0), some (.int x1), some (.int x2), some (.int x3), some (.int x4), none, none] [] sh I L P 0 0) (h : vc_X10_relaxed_0 d sh K T1 a0 x1 I L P) : qG X 0 [some (.ref a0), some (.int x1), none, none, none, none, none] [] sh I L P 0 0 := by
  unfold vc_X10_relaxed_0 at h
  refine q_iload_n C dX10_relaxed_0 rfl ?_
  refine q_i2l C dX10_relaxed_1 ?_
  refine q_lconst (v := 0) C dX10_relaxed_2 (by decide) ?_
  refine q_lconst (v := 1) C dX10_relaxed_3 (by decide) ?_
  refine q_cSi (as := [.long (Int32.toInt64 x1), .long 0, .long 1]) (st := []) C ms_X10_in ml_RX10_63 dX10_relaxed_4 rfl rfl (Nat.le_of_ble_eq_true rfl) ⟨Nat.le_refl _, Nat.le_refl _⟩ h (fun r1 I2 L3 P4 h => ?_)
  refine q_if_ne (tgt := 12) C dX10_relaxed_7 (by decide) (fun c5 => ?_) (fun c5 => ?_)
  · replace h := h.1 c5
    refine q_aload_n C dX10_relaxed_12 rfl ?_
    have s6 := h.1
    replace h := h.2
    refine q_cVi (as := []) (st := []) (r := a0) C mv_X10_areFew ml_RX10_214 dX10_relaxed_13 rfl s6 rfl (Nat.le_of_ble_eq_true rfl) ⟨Nat.le_refl _, Nat.le_refl _⟩ h (fun r7 I8 L9 P10 h => ?_)
    refine q_if_eq (tgt := 22) C dX10_relaxed_16 (by decide) (fun c11 => ?_) (fun c11 => ?_)
    · replace h := h.1 c11
      refine q_aload_n C dX10_relaxed_22 rfl ?_
      refine q_getP C fl_RX10_9 rfl s6 dX10_relaxed_23 ?_
      refine q_iconst (v := 1) C dX10_relaxed_26 (by decide) ?_
      have s12 := h.1
      replace h := h.2
      have s13 := h.1
      replace h := h.2
      refine q_iald C s12 s13 dX10_relaxed_27 ?_
      refine q_istore_n (lo1 := [some (.ref a0), some (.int x1), some (.int (I8 (P10 a0 0) (Int32.toNatClampNeg 1))), none, none, none, none]) C dX10_relaxed_28 (by decide) rfl ?_
      refine q_aload_n C dX10_relaxed_29 rfl ?_
      refine q_getP C fl_RX10_9 rfl s6 dX10_relaxed_30 ?_
      refine q_iconst (v := 2) C dX10_relaxed_33 (by decide) ?_
      have s14 := h.1
      replace h := h.2
      refine q_iald C s12 s14 dX10_relaxed_34 ?_
      refine q_istore_n (lo1 := [some (.ref a0), some (.int x1), some (.int (I8 (P10 a0 0) (Int32.toNatClampNeg 1))), some (.int (I8 (P10 a0 0) (Int32.toNatClampNeg 2))), none, none, none]) C dX10_relaxed_35 (by decide) rfl ?_
      refine q_iconst (v := 1) C dX10_relaxed_36 (by decide) ?_
      refine q_istore (lo1 := [some (.ref a0), some (.int x1), some (.int (I8 (P10 a0 0) (Int32.toNatClampNeg 1))), some (.int (I8 (P10 a0 0) (Int32.toNatClampNeg 2))), some (.int 1), none, none]) C dX10_relaxed_37 (by decide) rfl ?_
      exact hT1 _ _ _ _ _ _ h
    · replace h := h.2 c11
      refine q_bipush (v := (-5)) C dX10_relaxed_19 (by decide) ?_
      exact q_iret C hk dX10_relaxed_21 ⟨rfl, h⟩
  · replace h := h.2 c5
    refine q_iconst (v := (-1)) C dX10_relaxed_10 (by decide) ?_
    exact q_iret C hk dX10_relaxed_11 ⟨rfl, h⟩
def vc_X10_relaxed_1 (d : Nat) (sh : List qSh) (K : Option Value → qMI → qML → qMP → Prop) (T1 : Int32 → Int32 → Int32 → qMI → qML → qMP → Prop) (a0 : Nat) (x1 : Int32) (x2 : Int32) (x3 : Int32) (x4 : Int32) (I : qMI) (L : qML) (P : qMP) : Prop :=
  ((x4 = 0) → (((shp sh a0).1 = 10) ∧ (((shp sh (P a0 0)).1 = 20) ∧ ((vp_in 1 (shp sh (P a0 0)).2) ∧ ((vp_in 2 (shp sh (P a0 0)).2) ∧ (∀ I6 : qMI, I6 = uI I (P a0 0) (Int32.toNatClampNeg 1) x2 → (∀ I7 : qMI, I7 = uI I6 (P a0 0) (Int32.toNatClampNeg 2) x3 → (∀ I8 : qMI, I8 = uI I7 a0 17 0 → (((x4 = 0) → (((x4 = 0) → (K (some (.int ((-2)))) I8 L P)) ∧ ((¬ x4 = 0) → (K (some (.int ((10 * (I (P a0 0) (Int32.toNatClampNeg 1))) + (I (P a0 0) (Int32.toNatClampNeg 2))))) I8 L P)))) ∧ ((¬ x4 = 0) → (((¬ x1 = 1) → (((x4 = 0) → (K (some (.int ((-2)))) I8 L P)) ∧ ((¬ x4 = 0) → (K (some (.int ((10 * (I (P a0 0) (Int32.toNatClampNeg 1))) + (I (P a0 0) (Int32.toNatClampNeg 2))))) I8 L P)))) ∧ ((x1 = 1) → (Sq d mX10_changes sh [.ref a0] I8 L P (KV fun I13 L14 P15 => ((shp sh (P15 a0 0)).1 = 20) ∧ ((vp_in 1 (shp sh (P15 a0 0)).2) ∧ (∀ I18 : qMI, I18 = uI I13 (P15 a0 0) (Int32.toNatClampNeg 1) (I (P a0 0) (Int32.toNatClampNeg 1)) → ((vp_in 2 (shp sh (P15 a0 0)).2) ∧ (∀ I20 : qMI, I20 = uI I18 (P15 a0 0) (Int32.toNatClampNeg 2) (I (P a0 0) (Int32.toNatClampNeg 2)) → (Sq d mX10_noDraw sh [.ref a0] I20 L14 P15 (KV fun I21 L22 P23 => ((x4 = 0) → (K (some (.int ((-2)))) I21 L22 P23)) ∧ ((¬ x4 = 0) → (K (some (.int ((10 * (I (P a0 0) (Int32.toNatClampNeg 1))) + (I (P a0 0) (Int32.toNatClampNeg 2))))) I21 L22 P23)))))))))))))))))))))) ∧ ((¬ x4 = 0) → (((shp sh a0).1 = 10) ∧ (Sq d mX10_all sh [.ref a0] I L P (KL fun r26 I27 L28 P29 => ((¬ r26 = 0) → (((shp sh (P29 a0 0)).1 = 20) ∧ ((vp_in 1 (shp sh (P29 a0 0)).2) ∧ ((vp_in 2 (shp sh (P29 a0 0)).2) ∧ (∀ I34 : qMI, I34 = uI I27 (P29 a0 0) (Int32.toNatClampNeg 1) x2 → (∀ I35 : qMI, I35 = uI I34 (P29 a0 0) (Int32.toNatClampNeg 2) x3 → (∀ I36 : qMI, I36 = uI I35 a0 17 0 → (((x4 = 0) → (((x4 = 0) → (K (some (.int ((-2)))) I36 L28 P29)) ∧ ((¬ x4 = 0) → (K (some (.int ((10 * (I27 (P29 a0 0) (Int32.toNatClampNeg 1))) + (I27 (P29 a0 0) (Int32.toNatClampNeg 2))))) I36 L28 P29)))) ∧ ((¬ x4 = 0) → (((¬ x1 = 1) → (((x4 = 0) → (K (some (.int ((-2)))) I36 L28 P29)) ∧ ((¬ x4 = 0) → (K (some (.int ((10 * (I27 (P29 a0 0) (Int32.toNatClampNeg 1))) + (I27 (P29 a0 0) (Int32.toNatClampNeg 2))))) I36 L28 P29)))) ∧ ((x1 = 1) → (Sq d mX10_changes sh [.ref a0] I36 L28 P29 (KV fun I41 L42 P43 => ((shp sh (P43 a0 0)).1 = 20) ∧ ((vp_in 1 (shp sh (P43 a0 0)).2) ∧ (∀ I46 : qMI, I46 = uI I41 (P43 a0 0) (Int32.toNatClampNeg 1) (I27 (P29 a0 0) (Int32.toNatClampNeg 1)) → ((vp_in 2 (shp sh (P43 a0 0)).2) ∧ (∀ I48 : qMI, I48 = uI I46 (P43 a0 0) (Int32.toNatClampNeg 2) (I27 (P29 a0 0) (Int32.toNatClampNeg 2)) → (Sq d mX10_noDraw sh [.ref a0] I48 L42 P43 (KV fun I49 L50 P51 => ((x4 = 0) → (K (some (.int ((-2)))) I49 L50 P51)) ∧ ((¬ x4 = 0) → (K (some (.int ((10 * (I27 (P29 a0 0) (Int32.toNatClampNeg 1))) + (I27 (P29 a0 0) (Int32.toNatClampNeg 2))))) I49 L50 P51))))))))))))))))))))) ∧ ((r26 = 0) → (((shp sh (P29 a0 0)).1 = 20) ∧ ((vp_in 2 (shp sh (P29 a0 0)).2) ∧ ((((I27 (P29 a0 0) (Int32.toNatClampNeg 2)) ≤ 0) → ((vp_in 1 (shp sh (P29 a0 0)).2) ∧ ((((I27 (P29 a0 0) (Int32.toNatClampNeg 1)) ≤ 0) → (∀ I58 : qMI, I58 = uI I27 (P29 a0 0) (Int32.toNatClampNeg 1) ((I27 (P29 a0 0) (Int32.toNatClampNeg 1)) - 0) → (∀ I59 : qMI, I59 = uI I58 a0 17 0 → (T1 x2 x3 0 I59 L28 P29)))) ∧ ((¬ (I27 (P29 a0 0) (Int32.toNatClampNeg 1)) ≤ 0) → (∀ I60 : qMI, I60 = uI I27 (P29 a0 0) (Int32.toNatClampNeg 1) ((I27 (P29 a0 0) (Int32.toNatClampNeg 1)) - 1) → (∀ I61 : qMI, I61 = uI I60 a0 17 0 → (T1 x2 x3 1 I61 L28 P29))))))) ∧ ((¬ (I27 (P29 a0 0) (Int32.toNatClampNeg 2)) ≤ 0) → ((((I27 (P29 a0 0) (Int32.toNatClampNeg 2)) ≤ 0) → (∀ I63 : qMI, I63 = uI I27 (P29 a0 0) (Int32.toNatClampNeg 2) ((I27 (P29 a0 0) (Int32.toNatClampNeg 2)) - 0) → (∀ I64 : qMI, I64 = uI I63 a0 17 0 → (T1 x2 x3 0 I64 L28 P29)))) ∧ ((¬ (I27 (P29 a0 0) (Int32.toNatClampNeg 2)) ≤ 0) → (∀ I65 : qMI, I65 = uI I27 (P29 a0 0) (Int32.toNatClampNeg 2) ((I27 (P29 a0 0) (Int32.toNatClampNeg 2)) - 1) → (∀ I66 : qMI, I66 = uI I65 a0 17 0 → (T1 x2 x3 1 I66 L28 P29))))))))))))))
set_option maxRecDepth 100000 in
set_option maxHeartbeats 4000000 in
theorem rg_X10_relaxed_1 {X : qCT} {d : Nat} {sh : List qSh} {K : Option Value → qMI → qML → qMP → Prop} {T1 : Int32 → Int32 → Int32 → qMI → qML → qMP → Prop} {a0 : Nat} {x1 : Int32} {x2 : Int32} {x3 : Int32} {x4 : Int32} {I : qMI} {L : qML} {P : qMP} (C : qCB X RX10 cX10_relaxed 7 (d + 1) 0 0) (hk : qCK X (some .int) 0 0 (fun v sh' I' L' P' => sh' = sh ∧ K v I' L' P')) (hT1 : ∀ (x2 : Int32) (x3 : Int32) (x4 : Int32) (I : qMI) (L : qML) (P : qMP), T1 x2 x3 x4 I L P → qG X 39 [some (.ref a0), some (.int x1), some (.int x2), some (.int x3), some (.int x4), none, none] [] sh I L P 0 0) (h : vc_X10_relaxed_1 d sh K T1 a0 x1 x2 x3 x4 I L P) : qG X 39 [some (.ref a0), some (.int x1), some (.int x2), some (.int x3), some (.int x4), none, none] [] sh I L P 0 0 := by
  unfold vc_X10_relaxed_1 at h
  refine q_iload C dX10_relaxed_39 rfl ?_
  refine q_if_eq (tgt := 114) C dX10_relaxed_41 (by decide) (fun c1 => ?_) (fun c1 => ?_)
  · replace h := h.1 c1
    refine q_aload_n C dX10_relaxed_114 rfl ?_
    have s2 := h.1
    replace h := h.2
    refine q_getP C fl_RX10_9 rfl s2 dX10_relaxed_115 ?_
    refine q_iconst (v := 1) C dX10_relaxed_118 (by decide) ?_
    have s3 := h.1
    replace h := h.2
    have s4 := h.1
    replace h := h.2
    refine q_iald C s3 s4 dX10_relaxed_119 ?_
    refine q_istore (lo1 := [some (.ref a0), some (.int x1), some (.int x2), some (.int x3), some (.int x4), some (.int (I (P a0 0) (Int32.toNatClampNeg 1))), none]) C dX10_relaxed_120 (by decide) rfl ?_
    refine q_aload_n C dX10_relaxed_122 rfl ?_
    refine q_getP C fl_RX10_9 rfl s2 dX10_relaxed_123 ?_
    refine q_iconst (v := 2) C dX10_relaxed_126 (by decide) ?_
    have s5 := h.1
    replace h := h.2
    refine q_iald C s3 s5 dX10_relaxed_127 ?_
    refine q_istore (lo1 := [some (.ref a0), some (.int x1), some (.int x2), some (.int x3), some (.int x4), some (.int (I (P a0 0) (Int32.toNatClampNeg 1))), some (.int (I (P a0 0) (Int32.toNatClampNeg 2)))]) C dX10_relaxed_128 (by decide) rfl ?_
    refine q_aload_n C dX10_relaxed_130 rfl ?_
    refine q_getP C fl_RX10_9 rfl s2 dX10_relaxed_131 ?_
    refine q_iconst (v := 1) C dX10_relaxed_134 (by decide) ?_
    refine q_iload_n C dX10_relaxed_135 rfl ?_
    refine q_iast C s3 s4 dX10_relaxed_136 (fun I6 eI6 => ?_)
    replace h := h I6 eI6
    refine q_aload_n C dX10_relaxed_137 rfl ?_
    refine q_getP C fl_RX10_9 rfl s2 dX10_relaxed_138 ?_
    refine q_iconst (v := 2) C dX10_relaxed_141 (by decide) ?_
    refine q_iload_n C dX10_relaxed_142 rfl ?_
    refine q_iast C s3 s5 dX10_relaxed_143 (fun I7 eI7 => ?_)
    replace h := h I7 eI7
    refine q_aload_n C dX10_relaxed_144 rfl ?_
    refine q_iconst (v := 0) C dX10_relaxed_145 (by decide) ?_
    refine q_putZ C fl_RX10_77 (fun T hT => by cases hT; rfl) rfl s2 (Or.inl rfl) dX10_relaxed_146 (fun I8 eI8 => ?_)
    replace h := h I8 eI8
    refine q_iload C dX10_relaxed_149 rfl ?_
    refine q_if_eq (tgt := 183) C dX10_relaxed_151 (by decide) (fun c9 => ?_) (fun c9 => ?_)
    · replace h := h.1 c9
      refine q_iload C dX10_relaxed_183 rfl ?_
      refine q_if_eq (tgt := 199) C dX10_relaxed_185 (by decide) (fun c10 => ?_) (fun c10 => ?_)
      · replace h := h.1 c10
        refine q_bipush (v := (-2)) C dX10_relaxed_199 (by decide) ?_
        exact q_iret C hk dX10_relaxed_201 ⟨rfl, h⟩
      · replace h := h.2 c10
        refine q_bipush (v := 10) C dX10_relaxed_188 (by decide) ?_
        refine q_iload C dX10_relaxed_190 rfl ?_
        refine q_imul C dX10_relaxed_192 ?_
        refine q_iload C dX10_relaxed_193 rfl ?_
        refine q_iadd C dX10_relaxed_195 ?_
        refine q_goto (tgt := 201) C dX10_relaxed_196 (by decide) ?_
        exact q_iret C hk dX10_relaxed_201 ⟨rfl, h⟩
    · replace h := h.2 c9
      refine q_iload_n C dX10_relaxed_154 rfl ?_
      refine q_iconst (v := 1) C dX10_relaxed_155 (by decide) ?_
      refine q_icmp_ne (tgt := 183) C dX10_relaxed_156 (by decide) (fun c11 => ?_) (fun c11 => ?_)
      · replace h := h.1 c11
        refine q_iload C dX10_relaxed_183 rfl ?_
        refine q_if_eq (tgt := 199) C dX10_relaxed_185 (by decide) (fun c12 => ?_) (fun c12 => ?_)
        · replace h := h.1 c12
          refine q_bipush (v := (-2)) C dX10_relaxed_199 (by decide) ?_
          exact q_iret C hk dX10_relaxed_201 ⟨rfl, h⟩
        · replace h := h.2 c12
          refine q_bipush (v := 10) C dX10_relaxed_188 (by decide) ?_
          refine q_iload C dX10_relaxed_190 rfl ?_
          refine q_imul C dX10_relaxed_192 ?_
          refine q_iload C dX10_relaxed_193 rfl ?_
          refine q_iadd C dX10_relaxed_195 ?_
          refine q_goto (tgt := 201) C dX10_relaxed_196 (by decide) ?_
          exact q_iret C hk dX10_relaxed_201 ⟨rfl, h⟩
      · replace h := h.2 c11
        refine q_aload_n C dX10_relaxed_159 rfl ?_
        refine q_cVv (as := []) (st := []) (r := a0) C mv_X10_changes ml_RX10_122 dX10_relaxed_160 rfl s2 rfl (Nat.le_of_ble_eq_true rfl) ⟨Nat.le_refl _, Nat.le_refl _⟩ h (fun I13 L14 P15 h => ?_)
        refine q_aload_n C dX10_relaxed_163 rfl ?_
        refine q_getP C fl_RX10_9 rfl s2 dX10_relaxed_164 ?_
        refine q_iconst (v := 1) C dX10_relaxed_167 (by decide) ?_
        refine q_iload C dX10_relaxed_168 rfl ?_
        have s16 := h.1
        replace h := h.2
        have s17 := h.1
        replace h := h.2
        refine q_iast C s16 s17 dX10_relaxed_170 (fun I18 eI18 => ?_)
        replace h := h I18 eI18
        refine q_aload_n C dX10_relaxed_171 rfl ?_
        refine q_getP C fl_RX10_9 rfl s2 dX10_relaxed_172 ?_
        refine q_iconst (v := 2) C dX10_relaxed_175 (by decide) ?_
        refine q_iload C dX10_relaxed_176 rfl ?_
        have s19 := h.1
        replace h := h.2
        refine q_iast C s16 s19 dX10_relaxed_178 (fun I20 eI20 => ?_)
        replace h := h I20 eI20
        refine q_aload_n C dX10_relaxed_179 rfl ?_
        refine q_cVv (as := []) (st := []) (r := a0) C mv_X10_noDraw ml_RX10_95 dX10_relaxed_180 rfl s2 rfl (Nat.le_of_ble_eq_true rfl) ⟨Nat.le_refl _, Nat.le_refl _⟩ h (fun I21 L22 P23 h => ?_)
        refine q_iload C dX10_relaxed_183 rfl ?_
        refine q_if_eq (tgt := 199) C dX10_relaxed_185 (by decide) (fun c24 => ?_) (fun c24 => ?_)
        · replace h := h.1 c24
          refine q_bipush (v := (-2)) C dX10_relaxed_199 (by decide) ?_
          exact q_iret C hk dX10_relaxed_201 ⟨rfl, h⟩
        · replace h := h.2 c24
          refine q_bipush (v := 10) C dX10_relaxed_188 (by decide) ?_
          refine q_iload C dX10_relaxed_190 rfl ?_
          refine q_imul C dX10_relaxed_192 ?_
          refine q_iload C dX10_relaxed_193 rfl ?_
          refine q_iadd C dX10_relaxed_195 ?_
          refine q_goto (tgt := 201) C dX10_relaxed_196 (by decide) ?_
          exact q_iret C hk dX10_relaxed_201 ⟨rfl, h⟩
  · replace h := h.2 c1
    refine q_aload_n C dX10_relaxed_44 rfl ?_
    have s25 := h.1
    replace h := h.2
    refine q_cVl (as := []) (st := []) (r := a0) C mv_X10_all ml_RX10_219 dX10_relaxed_45 rfl s25 rfl (Nat.le_of_ble_eq_true rfl) ⟨Nat.le_refl _, Nat.le_refl _⟩ h (fun r26 I27 L28 P29 h => ?_)
    refine q_lconst (v := 0) C dX10_relaxed_48 (by decide) ?_
    refine q_lcmp_ne (tgt := 114) C dX10_relaxed_49 dX10_relaxed_50 (by decide) (fun c30 => ?_) (fun c30 => ?_)
    · replace h := h.1 c30
      refine q_aload_n C dX10_relaxed_114 rfl ?_
      refine q_getP C fl_RX10_9 rfl s25 dX10_relaxed_115 ?_
      refine q_iconst (v := 1) C dX10_relaxed_118 (by decide) ?_
      have s31 := h.1
      replace h := h.2
      have s32 := h.1
      replace h := h.2
      refine q_iald C s31 s32 dX10_relaxed_119 ?_
      refine q_istore (lo1 := [some (.ref a0), some (.int x1), some (.int x2), some (.int x3), some (.int x4), some (.int (I27 (P29 a0 0) (Int32.toNatClampNeg 1))), none]) C dX10_relaxed_120 (by decide) rfl ?_
      refine q_aload_n C dX10_relaxed_122 rfl ?_
      refine q_getP C fl_RX10_9 rfl s25 dX10_relaxed_123 ?_
      refine q_iconst (v := 2) C dX10_relaxed_126 (by decide) ?_
      have s33 := h.1
      replace h := h.2
      refine q_iald C s31 s33 dX10_relaxed_127 ?_
      refine q_istore (lo1 := [some (.ref a0), some (.int x1), some (.int x2), some (.int x3), some (.int x4), some (.int (I27 (P29 a0 0) (Int32.toNatClampNeg 1))), some (.int (I27 (P29 a0 0) (Int32.toNatClampNeg 2)))]) C dX10_relaxed_128 (by decide) rfl ?_
      refine q_aload_n C dX10_relaxed_130 rfl ?_
      refine q_getP C fl_RX10_9 rfl s25 dX10_relaxed_131 ?_
      refine q_iconst (v := 1) C dX10_relaxed_134 (by decide) ?_
      refine q_iload_n C dX10_relaxed_135 rfl ?_
      refine q_iast C s31 s32 dX10_relaxed_136 (fun I34 eI34 => ?_)
      replace h := h I34 eI34
      refine q_aload_n C dX10_relaxed_137 rfl ?_
      refine q_getP C fl_RX10_9 rfl s25 dX10_relaxed_138 ?_
      refine q_iconst (v := 2) C dX10_relaxed_141 (by decide) ?_
      refine q_iload_n C dX10_relaxed_142 rfl ?_
      refine q_iast C s31 s33 dX10_relaxed_143 (fun I35 eI35 => ?_)
      replace h := h I35 eI35
      refine q_aload_n C dX10_relaxed_144 rfl ?_
      refine q_iconst (v := 0) C dX10_relaxed_145 (by decide) ?_
      refine q_putZ C fl_RX10_77 (fun T hT => by cases hT; rfl) rfl s25 (Or.inl rfl) dX10_relaxed_146 (fun I36 eI36 => ?_)
      replace h := h I36 eI36
      refine q_iload C dX10_relaxed_149 rfl ?_
      refine q_if_eq (tgt := 183) C dX10_relaxed_151 (by decide) (fun c37 => ?_) (fun c37 => ?_)
      · replace h := h.1 c37
        refine q_iload C dX10_relaxed_183 rfl ?_
        refine q_if_eq (tgt := 199) C dX10_relaxed_185 (by decide) (fun c38 => ?_) (fun c38 => ?_)
        · replace h := h.1 c38
          refine q_bipush (v := (-2)) C dX10_relaxed_199 (by decide) ?_
          exact q_iret C hk dX10_relaxed_201 ⟨rfl, h⟩
        · replace h := h.2 c38
          refine q_bipush (v := 10) C dX10_relaxed_188 (by decide) ?_
          refine q_iload C dX10_relaxed_190 rfl ?_
          refine q_imul C dX10_relaxed_192 ?_
          refine q_iload C dX10_relaxed_193 rfl ?_
          refine q_iadd C dX10_relaxed_195 ?_
          refine q_goto (tgt := 201) C dX10_relaxed_196 (by decide) ?_
          exact q_iret C hk dX10_relaxed_201 ⟨rfl, h⟩
      · replace h := h.2 c37
        refine q_iload_n C dX10_relaxed_154 rfl ?_
        refine q_iconst (v := 1) C dX10_relaxed_155 (by decide) ?_
        refine q_icmp_ne (tgt := 183) C dX10_relaxed_156 (by decide) (fun c39 => ?_) (fun c39 => ?_)
        · replace h := h.1 c39
          refine q_iload C dX10_relaxed_183 rfl ?_
          refine q_if_eq (tgt := 199) C dX10_relaxed_185 (by decide) (fun c40 => ?_) (fun c40 => ?_)
          · replace h := h.1 c40
            refine q_bipush (v := (-2)) C dX10_relaxed_199 (by decide) ?_
            exact q_iret C hk dX10_relaxed_201 ⟨rfl, h⟩
          · replace h := h.2 c40
            refine q_bipush (v := 10) C dX10_relaxed_188 (by decide) ?_
            refine q_iload C dX10_relaxed_190 rfl ?_
            refine q_imul C dX10_relaxed_192 ?_
            refine q_iload C dX10_relaxed_193 rfl ?_
            refine q_iadd C dX10_relaxed_195 ?_
            refine q_goto (tgt := 201) C dX10_relaxed_196 (by decide) ?_
            exact q_iret C hk dX10_relaxed_201 ⟨rfl, h⟩
        · replace h := h.2 c39
          refine q_aload_n C dX10_relaxed_159 rfl ?_
          refine q_cVv (as := []) (st := []) (r := a0) C mv_X10_changes ml_RX10_122 dX10_relaxed_160 rfl s25 rfl (Nat.le_of_ble_eq_true rfl) ⟨Nat.le_refl _, Nat.le_refl _⟩ h (fun I41 L42 P43 h => ?_)
          refine q_aload_n C dX10_relaxed_163 rfl ?_
          refine q_getP C fl_RX10_9 rfl s25 dX10_relaxed_164 ?_
          refine q_iconst (v := 1) C dX10_relaxed_167 (by decide) ?_
          refine q_iload C dX10_relaxed_168 rfl ?_
          have s44 := h.1
          replace h := h.2
          have s45 := h.1
          replace h := h.2
          refine q_iast C s44 s45 dX10_relaxed_170 (fun I46 eI46 => ?_)
          replace h := h I46 eI46
          refine q_aload_n C dX10_relaxed_171 rfl ?_
          refine q_getP C fl_RX10_9 rfl s25 dX10_relaxed_172 ?_
          refine q_iconst (v := 2) C dX10_relaxed_175 (by decide) ?_
          refine q_iload C dX10_relaxed_176 rfl ?_
          have s47 := h.1
          replace h := h.2
          refine q_iast C s44 s47 dX10_relaxed_178 (fun I48 eI48 => ?_)
          replace h := h I48 eI48
          refine q_aload_n C dX10_relaxed_179 rfl ?_
          refine q_cVv (as := []) (st := []) (r := a0) C mv_X10_noDraw ml_RX10_95 dX10_relaxed_180 rfl s25 rfl (Nat.le_of_ble_eq_true rfl) ⟨Nat.le_refl _, Nat.le_refl _⟩ h (fun I49 L50 P51 h => ?_)
          refine q_iload C dX10_relaxed_183 rfl ?_
          refine q_if_eq (tgt := 199) C dX10_relaxed_185 (by decide) (fun c52 => ?_) (fun c52 => ?_)
          · replace h := h.1 c52
            refine q_bipush (v := (-2)) C dX10_relaxed_199 (by decide) ?_
            exact q_iret C hk dX10_relaxed_201 ⟨rfl, h⟩
          · replace h := h.2 c52
            refine q_bipush (v := 10) C dX10_relaxed_188 (by decide) ?_
            refine q_iload C dX10_relaxed_190 rfl ?_
            refine q_imul C dX10_relaxed_192 ?_
            refine q_iload C dX10_relaxed_193 rfl ?_
            refine q_iadd C dX10_relaxed_195 ?_
            refine q_goto (tgt := 201) C dX10_relaxed_196 (by decide) ?_
            exact q_iret C hk dX10_relaxed_201 ⟨rfl, h⟩
    · replace h := h.2 c30
      refine q_aload_n C dX10_relaxed_53 rfl ?_
      refine q_getP C fl_RX10_9 rfl s25 dX10_relaxed_54 ?_
      refine q_iconst (v := 2) C dX10_relaxed_57 (by decide) ?_
      have s53 := h.1
      replace h := h.2
      have s54 := h.1
      replace h := h.2
      refine q_iald C s53 s54 dX10_relaxed_58 ?_
      refine q_if_le (tgt := 66) C dX10_relaxed_59 (by decide) (fun c55 => ?_) (fun c55 => ?_)
      · replace h := h.1 c55
        refine q_iconst (v := 1) C dX10_relaxed_66 (by decide) ?_
        refine q_istore (lo1 := [some (.ref a0), some (.int x1), some (.int x2), some (.int x3), some (.int x4), some (.int 1), none]) C dX10_relaxed_67 (by decide) rfl ?_
        refine q_aload_n C dX10_relaxed_69 rfl ?_
        refine q_getP C fl_RX10_9 rfl s25 dX10_relaxed_70 ?_
        refine q_iload C dX10_relaxed_73 rfl ?_
        have s56 := h.1
        replace h := h.2
        refine q_iald C s53 s56 dX10_relaxed_75 ?_
        refine q_if_le (tgt := 83) C dX10_relaxed_76 (by decide) (fun c57 => ?_) (fun c57 => ?_)
        · replace h := h.1 c57
          refine q_iconst (v := 0) C dX10_relaxed_83 (by decide) ?_
          refine q_istore (lo1 := [some (.ref a0), some (.int x1), some (.int x2), some (.int x3), some (.int 0), some (.int 1), none]) C dX10_relaxed_84 (by decide) rfl ?_
          refine q_aload_n C dX10_relaxed_86 rfl ?_
          refine q_getP C fl_RX10_9 rfl s25 dX10_relaxed_87 ?_
          refine q_iload C dX10_relaxed_90 rfl ?_
          refine q_dup2 C dX10_relaxed_92 rfl rfl ?_
          refine q_iald C s53 s56 dX10_relaxed_93 ?_
          refine q_iload C dX10_relaxed_94 rfl ?_
          refine q_if_eq (tgt := 103) C dX10_relaxed_96 (by decide) (fun _ => ?_) (fun c => absurd c (by decide))
          refine q_iconst (v := 0) C dX10_relaxed_103 (by decide) ?_
          refine q_isub C dX10_relaxed_104 ?_
          refine q_iast C s53 s56 dX10_relaxed_105 (fun I58 eI58 => ?_)
          replace h := h I58 eI58
          refine q_aload_n C dX10_relaxed_106 rfl ?_
          refine q_iconst (v := 0) C dX10_relaxed_107 (by decide) ?_
          refine q_putZ C fl_RX10_77 (fun T hT => by cases hT; rfl) rfl s25 (Or.inl rfl) dX10_relaxed_108 (fun I59 eI59 => ?_)
          replace h := h I59 eI59
          refine q_goto (tgt := 39) C dX10_relaxed_111 (by decide) ?_
          refine q_kill 5 (lo1 := [some (.ref a0), some (.int x1), some (.int x2), some (.int x3), some (.int 0), none, none]) rfl ?_
          exact hT1 _ _ _ _ _ _ h
        · replace h := h.2 c57
          refine q_iconst (v := 1) C dX10_relaxed_79 (by decide) ?_
          refine q_goto (tgt := 84) C dX10_relaxed_80 (by decide) ?_
          refine q_istore (lo1 := [some (.ref a0), some (.int x1), some (.int x2), some (.int x3), some (.int 1), some (.int 1), none]) C dX10_relaxed_84 (by decide) rfl ?_
          refine q_aload_n C dX10_relaxed_86 rfl ?_
          refine q_getP C fl_RX10_9 rfl s25 dX10_relaxed_87 ?_
          refine q_iload C dX10_relaxed_90 rfl ?_
          refine q_dup2 C dX10_relaxed_92 rfl rfl ?_
          refine q_iald C s53 s56 dX10_relaxed_93 ?_
          refine q_iload C dX10_relaxed_94 rfl ?_
          refine q_if_eq (tgt := 103) C dX10_relaxed_96 (by decide) (fun c => absurd c (by decide)) (fun _ => ?_)
          refine q_iconst (v := 1) C dX10_relaxed_99 (by decide) ?_
          refine q_goto (tgt := 104) C dX10_relaxed_100 (by decide) ?_
          refine q_isub C dX10_relaxed_104 ?_
          refine q_iast C s53 s56 dX10_relaxed_105 (fun I60 eI60 => ?_)
          replace h := h I60 eI60
          refine q_aload_n C dX10_relaxed_106 rfl ?_
          refine q_iconst (v := 0) C dX10_relaxed_107 (by decide) ?_
          refine q_putZ C fl_RX10_77 (fun T hT => by cases hT; rfl) rfl s25 (Or.inl rfl) dX10_relaxed_108 (fun I61 eI61 => ?_)
          replace h := h I61 eI61
          refine q_goto (tgt := 39) C dX10_relaxed_111 (by decide) ?_
          refine q_kill 5 (lo1 := [some (.ref a0), some (.int x1), some (.int x2), some (.int x3), some (.int 1), none, none]) rfl ?_
          exact hT1 _ _ _ _ _ _ h
      · replace h := h.2 c55
        refine q_iconst (v := 2) C dX10_relaxed_62 (by decide) ?_
        refine q_goto (tgt := 67) C dX10_relaxed_63 (by decide) ?_
        refine q_istore (lo1 := [some (.ref a0), some (.int x1), some (.int x2), some (.int x3), some (.int x4), some (.int 2), none]) C dX10_relaxed_67 (by decide) rfl ?_
        refine q_aload_n C dX10_relaxed_69 rfl ?_
        refine q_getP C fl_RX10_9 rfl s25 dX10_relaxed_70 ?_
        refine q_iload C dX10_relaxed_73 rfl ?_
        refine q_iald C s53 s54 dX10_relaxed_75 ?_
        refine q_if_le (tgt := 83) C dX10_relaxed_76 (by decide) (fun c62 => ?_) (fun c62 => ?_)
        · replace h := h.1 c62
          refine q_iconst (v := 0) C dX10_relaxed_83 (by decide) ?_
          refine q_istore (lo1 := [some (.ref a0), some (.int x1), some (.int x2), some (.int x3), some (.int 0), some (.int 2), none]) C dX10_relaxed_84 (by decide) rfl ?_
          refine q_aload_n C dX10_relaxed_86 rfl ?_
          refine q_getP C fl_RX10_9 rfl s25 dX10_relaxed_87 ?_
          refine q_iload C dX10_relaxed_90 rfl ?_
          refine q_dup2 C dX10_relaxed_92 rfl rfl ?_
          refine q_iald C s53 s54 dX10_relaxed_93 ?_
          refine q_iload C dX10_relaxed_94 rfl ?_
          refine q_if_eq (tgt := 103) C dX10_relaxed_96 (by decide) (fun _ => ?_) (fun c => absurd c (by decide))
          refine q_iconst (v := 0) C dX10_relaxed_103 (by decide) ?_
          refine q_isub C dX10_relaxed_104 ?_
          refine q_iast C s53 s54 dX10_relaxed_105 (fun I63 eI63 => ?_)
          replace h := h I63 eI63
          refine q_aload_n C dX10_relaxed_106 rfl ?_
          refine q_iconst (v := 0) C dX10_relaxed_107 (by decide) ?_
          refine q_putZ C fl_RX10_77 (fun T hT => by cases hT; rfl) rfl s25 (Or.inl rfl) dX10_relaxed_108 (fun I64 eI64 => ?_)
          replace h := h I64 eI64
          refine q_goto (tgt := 39) C dX10_relaxed_111 (by decide) ?_
          refine q_kill 5 (lo1 := [some (.ref a0), some (.int x1), some (.int x2), some (.int x3), some (.int 0), none, none]) rfl ?_
          exact hT1 _ _ _ _ _ _ h
        · replace h := h.2 c62
          refine q_iconst (v := 1) C dX10_relaxed_79 (by decide) ?_
          refine q_goto (tgt := 84) C dX10_relaxed_80 (by decide) ?_
          refine q_istore (lo1 := [some (.ref a0), some (.int x1), some (.int x2), some (.int x3), some (.int 1), some (.int 2), none]) C dX10_relaxed_84 (by decide) rfl ?_
          refine q_aload_n C dX10_relaxed_86 rfl ?_
          refine q_getP C fl_RX10_9 rfl s25 dX10_relaxed_87 ?_
          refine q_iload C dX10_relaxed_90 rfl ?_
          refine q_dup2 C dX10_relaxed_92 rfl rfl ?_
          refine q_iald C s53 s54 dX10_relaxed_93 ?_
          refine q_iload C dX10_relaxed_94 rfl ?_
          refine q_if_eq (tgt := 103) C dX10_relaxed_96 (by decide) (fun c => absurd c (by decide)) (fun _ => ?_)
          refine q_iconst (v := 1) C dX10_relaxed_99 (by decide) ?_
          refine q_goto (tgt := 104) C dX10_relaxed_100 (by decide) ?_
          refine q_isub C dX10_relaxed_104 ?_
          refine q_iast C s53 s54 dX10_relaxed_105 (fun I65 eI65 => ?_)
          replace h := h I65 eI65
          refine q_aload_n C dX10_relaxed_106 rfl ?_
          refine q_iconst (v := 0) C dX10_relaxed_107 (by decide) ?_
          refine q_putZ C fl_RX10_77 (fun T hT => by cases hT; rfl) rfl s25 (Or.inl rfl) dX10_relaxed_108 (fun I66 eI66 => ?_)
          replace h := h I66 eI66
          refine q_goto (tgt := 39) C dX10_relaxed_111 (by decide) ?_
          refine q_kill 5 (lo1 := [some (.ref a0), some (.int x1), some (.int x2), some (.int x3), some (.int 1), none, none]) rfl ?_
          exact hT1 _ _ _ _ _ _ h
theorem sp_X10_relaxed {d : Nat} {sh : List qSh} {K : Option Value → qMI → qML → qMP → Prop} {a0 : Nat} {x1 : Int32} {I : qMI} {L : qML} {P : qMP} (T1 : Int32 → Int32 → Int32 → qMI → qML → qMP → Prop) (m1 : Int32 → Int32 → Int32 → qMI → qML → qMP → Nat) (h0 : vc_X10_relaxed_0 d sh K T1 a0 x1 I L P)
    (h1 : ∀ (x2 : Int32) (x3 : Int32) (x4 : Int32) (I : qMI) (L : qML) (P : qMP), T1 x2 x3 x4 I L P → vc_X10_relaxed_1 d sh K (fun w0 w1 w2 I' L' P' => T1 w0 w1 w2 I' L' P' ∧ m1 w0 w1 w2 I' L' P' < m1 x2 x3 x4 I L P) a0 x1 x2 x3 x4 I L P) : Sq (d + 1) mX10_relaxed sh [.ref a0, .int x1] I L P K := by
  refine Sq_of (by decide +kernel) (Nat.le_of_ble_eq_true rfl) (fun X C hk hn => ?_)
  have go : ∀ N : Nat, (∀ (x2 : Int32) (x3 : Int32) (x4 : Int32) (I : qMI) (L : qML) (P : qMP), T1 x2 x3 x4 I L P → m1 x2 x3 x4 I L P < N → qG X 39 [some (.ref a0), some (.int x1), some (.int x2), some (.int x3), some (.int x4), none, none] [] sh I L P 0 0) := by
    intro N
    induction N with
    | zero => exact fun _ _ _ _ _ _ _ q => absurd q (Nat.not_lt_zero _)
    | succ N ih =>
      exact fun b0 b1 b2 I1 L1 P1 t q => rg_X10_relaxed_1 C hk (fun z0 z1 z2 I2 L2 P2 z => ih z0 z1 z2 I2 L2 P2 z.1 (Nat.lt_of_lt_of_le z.2 (Nat.le_of_lt_succ q))) (h1 b0 b1 b2 I1 L1 P1 t)
  exact rg_X10_relaxed_0 C hk (fun b0 b1 b2 I1 L1 P1 t => (go (m1 b0 b1 b2 I1 L1 P1 + 1)) b0 b1 b2 I1 L1 P1 t (Nat.lt_succ_self _)) h0
/-! BracketDrawsModel.throughAt(II)I -/
def vc_X10_throughAt_0 (d : Nat) (sh : List qSh) (K : Option Value → qMI → qML → qMP → Prop) (x0 : Int32) (x1 : Int32) (I : qMI) (L : qML) (P : qMP) : Prop :=
  ((¬ x0 = 1) → (((¬ x0 = 2) → (((¬ x0 = 3) → (K (some (.int ((61 + 14) + x1))) I L P)) ∧ ((x0 = 3) → (K (some (.int ((61 + 12) + x1))) I L P)))) ∧ ((x0 = 2) → (K (some (.int ((61 + 8) + x1))) I L P)))) ∧ ((x0 = 1) → (K (some (.int ((61 + 0) + x1))) I L P))
set_option maxRecDepth 100000 in
set_option maxHeartbeats 4000000 in
theorem rg_X10_throughAt_0 {X : qCT} {d : Nat} {sh : List qSh} {K : Option Value → qMI → qML → qMP → Prop} {x0 : Int32} {x1 : Int32} {I : qMI} {L : qML} {P : qMP} (C : qCB X RX10 cX10_throughAt 2 (d + 1) 0 0) (hk : qCK X (some .int) 0 0 (fun v sh' I' L' P' => sh' = sh ∧ K v I' L' P')) (h : vc_X10_throughAt_0 d sh K x0 x1 I L P) : qG X 0 [some (.int x0), some (.int x1)] [] sh I L P 0 0 := by
  unfold vc_X10_throughAt_0 at h
  refine q_bipush (v := 61) C dX10_throughAt_0 (by decide) ?_
  refine q_iload_n C dX10_throughAt_2 rfl ?_
  refine q_iconst (v := 1) C dX10_throughAt_3 (by decide) ?_
  refine q_icmp_ne (tgt := 11) C dX10_throughAt_4 (by decide) (fun c1 => ?_) (fun c1 => ?_)
  · replace h := h.1 c1
    refine q_iload_n C dX10_throughAt_11 rfl ?_
    refine q_iconst (v := 2) C dX10_throughAt_12 (by decide) ?_
    refine q_icmp_ne (tgt := 21) C dX10_throughAt_13 (by decide) (fun c2 => ?_) (fun c2 => ?_)
    · replace h := h.1 c2
      refine q_iload_n C dX10_throughAt_21 rfl ?_
      refine q_iconst (v := 3) C dX10_throughAt_22 (by decide) ?_
      refine q_icmp_ne (tgt := 31) C dX10_throughAt_23 (by decide) (fun c3 => ?_) (fun c3 => ?_)
      · replace h := h.1 c3
        refine q_bipush (v := 14) C dX10_throughAt_31 (by decide) ?_
        refine q_iadd C dX10_throughAt_33 ?_
        refine q_iload_n C dX10_throughAt_34 rfl ?_
        refine q_iadd C dX10_throughAt_35 ?_
        exact q_iret C hk dX10_throughAt_36 ⟨rfl, h⟩
      · replace h := h.2 c3
        refine q_bipush (v := 12) C dX10_throughAt_26 (by decide) ?_
        refine q_goto (tgt := 33) C dX10_throughAt_28 (by decide) ?_
        refine q_iadd C dX10_throughAt_33 ?_
        refine q_iload_n C dX10_throughAt_34 rfl ?_
        refine q_iadd C dX10_throughAt_35 ?_
        exact q_iret C hk dX10_throughAt_36 ⟨rfl, h⟩
    · replace h := h.2 c2
      refine q_bipush (v := 8) C dX10_throughAt_16 (by decide) ?_
      refine q_goto (tgt := 33) C dX10_throughAt_18 (by decide) ?_
      refine q_iadd C dX10_throughAt_33 ?_
      refine q_iload_n C dX10_throughAt_34 rfl ?_
      refine q_iadd C dX10_throughAt_35 ?_
      exact q_iret C hk dX10_throughAt_36 ⟨rfl, h⟩
  · replace h := h.2 c1
    refine q_iconst (v := 0) C dX10_throughAt_7 (by decide) ?_
    refine q_goto (tgt := 33) C dX10_throughAt_8 (by decide) ?_
    refine q_iadd C dX10_throughAt_33 ?_
    refine q_iload_n C dX10_throughAt_34 rfl ?_
    refine q_iadd C dX10_throughAt_35 ?_
    exact q_iret C hk dX10_throughAt_36 ⟨rfl, h⟩
theorem sp_X10_throughAt {d : Nat} {sh : List qSh} {K : Option Value → qMI → qML → qMP → Prop} {x0 : Int32} {x1 : Int32} {I : qMI} {L : qML} {P : qMP} (h0 : vc_X10_throughAt_0 d sh K x0 x1 I L P) : Sq (d + 1) mX10_throughAt sh [.int x0, .int x1] I L P K := by
  refine Sq_of (by decide +kernel) (Nat.le_of_ble_eq_true rfl) (fun X C hk hn => ?_)
  exact rg_X10_throughAt_0 C hk h0
/-! BracketDrawsModel.cameTo(II)I -/
def vc_X10_cameTo_0 (d : Nat) (sh : List qSh) (K : Option Value → qMI → qML → qMP → Prop) (a0 : Nat) (x1 : Int32) (x2 : Int32) (I : qMI) (L : qML) (P : qMP) : Prop :=
  ((¬ x1 = 0) → (((shp sh a0).1 = 10) ∧ (Sq d mX10_throughAt sh [.int x1, .int x2] I L P (KI fun r3 I4 L5 P6 => ((shp sh (P a0 0)).1 = 20) ∧ ((vp_in r3 (shp sh (P a0 0)).2) ∧ (K (some (.int (I4 (P a0 0) (Int32.toNatClampNeg r3)))) I4 L5 P6)))))) ∧ ((x1 = 0) → (((shp sh a0).1 = 10) ∧ (((shp sh (P a0 0)).1 = 20) ∧ ((vp_in (45 + x2) (shp sh (P a0 0)).2) ∧ (K (some (.int (I (P a0 0) (Int32.toNatClampNeg (45 + x2))))) I L P)))))
set_option maxRecDepth 100000 in
set_option maxHeartbeats 4000000 in
theorem rg_X10_cameTo_0 {X : qCT} {d : Nat} {sh : List qSh} {K : Option Value → qMI → qML → qMP → Prop} {a0 : Nat} {x1 : Int32} {x2 : Int32} {I : qMI} {L : qML} {P : qMP} (C : qCB X RX10 cX10_cameTo 3 (d + 1) 0 0) (hk : qCK X (some .int) 0 0 (fun v sh' I' L' P' => sh' = sh ∧ K v I' L' P')) (h : vc_X10_cameTo_0 d sh K a0 x1 x2 I L P) : qG X 0 [some (.ref a0), some (.int x1), some (.int x2)] [] sh I L P 0 0 := by
  unfold vc_X10_cameTo_0 at h
  refine q_iload_n C dX10_cameTo_0 rfl ?_
  refine q_if_ne (tgt := 16) C dX10_cameTo_1 (by decide) (fun c1 => ?_) (fun c1 => ?_)
  · replace h := h.1 c1
    refine q_aload_n C dX10_cameTo_16 rfl ?_
    have s2 := h.1
    replace h := h.2
    refine q_getP C fl_RX10_9 rfl s2 dX10_cameTo_17 ?_
    refine q_iload_n C dX10_cameTo_20 rfl ?_
    refine q_iload_n C dX10_cameTo_21 rfl ?_
    refine q_cSi (as := [.int x1, .int x2]) (st := [.ref (P a0 0)]) C ms_X10_throughAt ml_RX10_269 dX10_cameTo_22 rfl rfl (Nat.le_of_ble_eq_true rfl) ⟨Nat.le_refl _, Nat.le_refl _⟩ h (fun r3 I4 L5 P6 h => ?_)
    have s7 := h.1
    replace h := h.2
    have s8 := h.1
    replace h := h.2
    refine q_iald C s7 s8 dX10_cameTo_25 ?_
    exact q_iret C hk dX10_cameTo_26 ⟨rfl, h⟩
  · replace h := h.2 c1
    refine q_aload_n C dX10_cameTo_4 rfl ?_
    have s9 := h.1
    replace h := h.2
    refine q_getP C fl_RX10_9 rfl s9 dX10_cameTo_5 ?_
    refine q_bipush (v := 45) C dX10_cameTo_8 (by decide) ?_
    refine q_iload_n C dX10_cameTo_10 rfl ?_
    refine q_iadd C dX10_cameTo_11 ?_
    have s10 := h.1
    replace h := h.2
    have s11 := h.1
    replace h := h.2
    refine q_iald C s10 s11 dX10_cameTo_12 ?_
    refine q_goto (tgt := 26) C dX10_cameTo_13 (by decide) ?_
    exact q_iret C hk dX10_cameTo_26 ⟨rfl, h⟩
theorem sp_X10_cameTo {d : Nat} {sh : List qSh} {K : Option Value → qMI → qML → qMP → Prop} {a0 : Nat} {x1 : Int32} {x2 : Int32} {I : qMI} {L : qML} {P : qMP} (h0 : vc_X10_cameTo_0 d sh K a0 x1 x2 I L P) : Sq (d + 1) mX10_cameTo sh [.ref a0, .int x1, .int x2] I L P K := by
  refine Sq_of (by decide +kernel) (Nat.le_of_ble_eq_true rfl) (fun X C hk hn => ?_)
  exact rg_X10_cameTo_0 C hk h0
/-! BracketDrawsModel.better(II)I -/
def vc_X10_better_0 (d : Nat) (sh : List qSh) (K : Option Value → qMI → qML → qMP → Prop) (a0 : Nat) (x1 : Int32) (x2 : Int32) (I : qMI) (L : qML) (P : qMP) : Prop :=
  ((x1 = 10) → (((¬ x1 = 10) → (K (some (.int x1)) I L P)) ∧ ((x1 = 10) → (K (some (.int x2)) I L P)))) ∧ ((¬ x1 = 10) → (((¬ x2 = 10) → (((shp sh a0).1 = 10) ∧ (((shp sh (P a0 0)).1 = 20) ∧ ((vp_in (35 + x1) (shp sh (P a0 0)).2) ∧ ((vp_in (35 + x2) (shp sh (P a0 0)).2) ∧ (((0 < ((I (P a0 0) (Int32.toNatClampNeg (35 + x1))) - (I (P a0 0) (Int32.toNatClampNeg (35 + x2))))) → (K (some (.int x1)) I L P)) ∧ ((¬ 0 < ((I (P a0 0) (Int32.toNatClampNeg (35 + x1))) - (I (P a0 0) (Int32.toNatClampNeg (35 + x2))))) → (((¬ ((I (P a0 0) (Int32.toNatClampNeg (35 + x1))) - (I (P a0 0) (Int32.toNatClampNeg (35 + x2)))) = 0) → (K (some (.int x2)) I L P)) ∧ ((((I (P a0 0) (Int32.toNatClampNeg (35 + x1))) - (I (P a0 0) (Int32.toNatClampNeg (35 + x2)))) = 0) → (((x2 ≤ x1) → (K (some (.int x2)) I L P)) ∧ ((¬ x2 ≤ x1) → (K (some (.int x1)) I L P)))))))))))) ∧ ((x2 = 10) → (((¬ x1 = 10) → (K (some (.int x1)) I L P)) ∧ ((x1 = 10) → (K (some (.int x2)) I L P))))))
set_option maxRecDepth 100000 in
set_option maxHeartbeats 4000000 in
theorem rg_X10_better_0 {X : qCT} {d : Nat} {sh : List qSh} {K : Option Value → qMI → qML → qMP → Prop} {a0 : Nat} {x1 : Int32} {x2 : Int32} {I : qMI} {L : qML} {P : qMP} (C : qCB X RX10 cX10_better 4 (d + 1) 0 0) (hk : qCK X (some .int) 0 0 (fun v sh' I' L' P' => sh' = sh ∧ K v I' L' P')) (h : vc_X10_better_0 d sh K a0 x1 x2 I L P) : qG X 0 [some (.ref a0), some (.int x1), some (.int x2), none] [] sh I L P 0 0 := by
  unfold vc_X10_better_0 at h
  refine q_iload_n C dX10_better_0 rfl ?_
  refine q_bipush (v := 10) C dX10_better_1 (by decide) ?_
  refine q_icmp_eq (tgt := 12) C dX10_better_3 (by decide) (fun c1 => ?_) (fun c1 => ?_)
  · replace h := h.1 c1
    refine q_iload_n C dX10_better_12 rfl ?_
    refine q_bipush (v := 10) C dX10_better_13 (by decide) ?_
    refine q_icmp_ne (tgt := 22) C dX10_better_15 (by decide) (fun c2 => ?_) (fun c2 => ?_)
    · replace h := h.1 c2
      refine q_iload_n C dX10_better_22 rfl ?_
      exact q_iret C hk dX10_better_23 ⟨rfl, h⟩
    · replace h := h.2 c2
      refine q_iload_n C dX10_better_18 rfl ?_
      refine q_goto (tgt := 23) C dX10_better_19 (by decide) ?_
      exact q_iret C hk dX10_better_23 ⟨rfl, h⟩
  · replace h := h.2 c1
    refine q_iload_n C dX10_better_6 rfl ?_
    refine q_bipush (v := 10) C dX10_better_7 (by decide) ?_
    refine q_icmp_ne (tgt := 24) C dX10_better_9 (by decide) (fun c3 => ?_) (fun c3 => ?_)
    · replace h := h.1 c3
      refine q_aload_n C dX10_better_24 rfl ?_
      have s4 := h.1
      replace h := h.2
      refine q_getP C fl_RX10_9 rfl s4 dX10_better_25 ?_
      refine q_bipush (v := 35) C dX10_better_28 (by decide) ?_
      refine q_iload_n C dX10_better_30 rfl ?_
      refine q_iadd C dX10_better_31 ?_
      have s5 := h.1
      replace h := h.2
      have s6 := h.1
      replace h := h.2
      refine q_iald C s5 s6 dX10_better_32 ?_
      refine q_aload_n C dX10_better_33 rfl ?_
      refine q_getP C fl_RX10_9 rfl s4 dX10_better_34 ?_
      refine q_bipush (v := 35) C dX10_better_37 (by decide) ?_
      refine q_iload_n C dX10_better_39 rfl ?_
      refine q_iadd C dX10_better_40 ?_
      have s7 := h.1
      replace h := h.2
      refine q_iald C s5 s7 dX10_better_41 ?_
      refine q_isub C dX10_better_42 ?_
      refine q_istore_n (lo1 := [some (.ref a0), some (.int x1), some (.int x2), some (.int ((I (P a0 0) (Int32.toNatClampNeg (35 + x1))) - (I (P a0 0) (Int32.toNatClampNeg (35 + x2)))))]) C dX10_better_43 (by decide) rfl ?_
      refine q_iload_n C dX10_better_44 rfl ?_
      refine q_if_gt (tgt := 57) C dX10_better_45 (by decide) (fun c8 => ?_) (fun c8 => ?_)
      · replace h := h.1 c8
        refine q_iload_n C dX10_better_57 rfl ?_
        refine q_goto (tgt := 62) C dX10_better_58 (by decide) ?_
        exact q_iret C hk dX10_better_62 ⟨rfl, h⟩
      · replace h := h.2 c8
        refine q_iload_n C dX10_better_48 rfl ?_
        refine q_if_ne (tgt := 61) C dX10_better_49 (by decide) (fun c9 => ?_) (fun c9 => ?_)
        · replace h := h.1 c9
          refine q_iload_n C dX10_better_61 rfl ?_
          exact q_iret C hk dX10_better_62 ⟨rfl, h⟩
        · replace h := h.2 c9
          refine q_iload_n C dX10_better_52 rfl ?_
          refine q_iload_n C dX10_better_53 rfl ?_
          refine q_icmp_ge (tgt := 61) C dX10_better_54 (by decide) (fun c10 => ?_) (fun c10 => ?_)
          · replace h := h.1 c10
            refine q_iload_n C dX10_better_61 rfl ?_
            exact q_iret C hk dX10_better_62 ⟨rfl, h⟩
          · replace h := h.2 c10
            refine q_iload_n C dX10_better_57 rfl ?_
            refine q_goto (tgt := 62) C dX10_better_58 (by decide) ?_
            exact q_iret C hk dX10_better_62 ⟨rfl, h⟩
    · replace h := h.2 c3
      refine q_iload_n C dX10_better_12 rfl ?_
      refine q_bipush (v := 10) C dX10_better_13 (by decide) ?_
      refine q_icmp_ne (tgt := 22) C dX10_better_15 (by decide) (fun c11 => ?_) (fun c11 => ?_)
      · replace h := h.1 c11
        refine q_iload_n C dX10_better_22 rfl ?_
        exact q_iret C hk dX10_better_23 ⟨rfl, h⟩
      · replace h := h.2 c11
        refine q_iload_n C dX10_better_18 rfl ?_
        refine q_goto (tgt := 23) C dX10_better_19 (by decide) ?_
        exact q_iret C hk dX10_better_23 ⟨rfl, h⟩
theorem sp_X10_better {d : Nat} {sh : List qSh} {K : Option Value → qMI → qML → qMP → Prop} {a0 : Nat} {x1 : Int32} {x2 : Int32} {I : qMI} {L : qML} {P : qMP} (h0 : vc_X10_better_0 d sh K a0 x1 x2 I L P) : Sq (d + 1) mX10_better sh [.ref a0, .int x1, .int x2] I L P K := by
  refine Sq_of (by decide +kernel) (Nat.le_of_ble_eq_true rfl) (fun X C hk hn => ?_)
  exact rg_X10_better_0 C hk h0
/-! BracketDrawsModel.plays()V -/
def vc_X10_plays_0 (d : Nat) (sh : List qSh) (K : Option Value → qMI → qML → qMP → Prop) (T1 : Int32 → Int32 → qMI → qML → qMP → Prop) (T2 : Int32 → Int32 → qMI → qML → qMP → Prop) (a0 : Nat) (I : qMI) (L : qML) (P : qMP) : Prop :=
  ((shp sh a0).1 = 10) ∧ (((shp sh (P a0 0)).1 = 20) ∧ ((vp_in 4 (shp sh (P a0 0)).2) ∧ (T1 ((I (P a0 0) (Int32.toNatClampNeg 4)) + 1) 0 I L P)))
set_option maxRecDepth 100000 in
set_option maxHeartbeats 4000000 in
theorem rg_X10_plays_0 {X : qCT} {d : Nat} {sh : List qSh} {K : Option Value → qMI → qML → qMP → Prop} {T1 : Int32 → Int32 → qMI → qML → qMP → Prop} {T2 : Int32 → Int32 → qMI → qML → qMP → Prop} {a0 : Nat} {I : qMI} {L : qML} {P : qMP} (C : qCB X RX10 cX10_plays 6 (d + 1) 0 0) (hk : qCK X (none) 0 0 (fun v sh' I' L' P' => sh' = sh ∧ K v I' L' P')) (hT1 : ∀ (x1 : Int32) (x2 : Int32) (I : qMI) (L : qML) (P : qMP), T1 x1 x2 I L P → qG X 11 [some (.ref a0), some (.int x1), some (.int x2), none, none, none] [] sh I L P 0 0) (hT2 : ∀ (x1 : Int32) (x2 : Int32) (I : qMI) (L : qML) (P : qMP), T2 x1 x2 I L P → qG X 107 [some (.ref a0), some (.int x1), some (.int x2), none, none, none] [] sh I L P 0 0) (h : vc_X10_plays_0 d sh K T1 T2 a0 I L P) : qG X 0 [some (.ref a0), none, none, none, none, none] [] sh I L P 0 0 := by
  unfold vc_X10_plays_0 at h
  refine q_aload_n C dX10_plays_0 rfl ?_
  have s1 := h.1
  replace h := h.2
  refine q_getP C fl_RX10_9 rfl s1 dX10_plays_1 ?_
  refine q_iconst (v := 4) C dX10_plays_4 (by decide) ?_
  have s2 := h.1
  replace h := h.2
  have s3 := h.1
  replace h := h.2
  refine q_iald C s2 s3 dX10_plays_5 ?_
  refine q_iconst (v := 1) C dX10_plays_6 (by decide) ?_
  refine q_iadd C dX10_plays_7 ?_
  refine q_istore_n (lo1 := [some (.ref a0), some (.int ((I (P a0 0) (Int32.toNatClampNeg 4)) + 1)), none, none, none, none]) C dX10_plays_8 (by decide) rfl ?_
  refine q_iconst (v := 0) C dX10_plays_9 (by decide) ?_
  refine q_istore_n (lo1 := [some (.ref a0), some (.int ((I (P a0 0) (Int32.toNatClampNeg 4)) + 1)), some (.int 0), none, none, none]) C dX10_plays_10 (by decide) rfl ?_
  exact hT1 _ _ _ _ _ h
def vc_X10_plays_1 (d : Nat) (sh : List qSh) (K : Option Value → qMI → qML → qMP → Prop) (T1 : Int32 → Int32 → qMI → qML → qMP → Prop) (T2 : Int32 → Int32 → qMI → qML → qMP → Prop) (a0 : Nat) (x1 : Int32) (x2 : Int32) (I : qMI) (L : qML) (P : qMP) : Prop :=
  ((shp sh a0).1 = 10) ∧ (Sq d mX10_lastRound sh [.ref a0] I L P (KI fun r2 I3 L4 P5 => ((((1 : Int32) <<< ((r2 - x1) &&& 31)) ≤ x2) → (T2 x1 0 I3 L4 P5)) ∧ ((¬ ((1 : Int32) <<< ((r2 - x1) &&& 31)) ≤ x2) → (Sq d mX10_cameTo sh [.ref a0, .int (x1 - 1), .int (2 * x2)] I3 L4 P5 (KI fun r7 I8 L9 P10 => Sq d mX10_cameTo sh [.ref a0, .int (x1 - 1), .int ((2 * x2) + 1)] I8 L9 P10 (KI fun r11 I12 L13 P14 => ((shp sh (P14 a0 0)).1 = 20) ∧ ((vp_in (76 + x2) (shp sh (P14 a0 0)).2) ∧ (Sq d mX10_throughAt sh [.int x1, .int x2] I12 L13 P14 (KI fun r17 I18 L19 P20 => ((r7 = 10) → (Sq d mX10_better sh [.ref a0, .int r7, .int r11] I18 L19 P20 (KI fun r22 I23 L24 P25 => (vp_in r17 (shp sh (P14 a0 0)).2) ∧ (∀ I27 : qMI, I27 = uI I23 (P14 a0 0) (Int32.toNatClampNeg r17) r22 → (T1 x1 (x2 + 1) I27 L24 P25))))) ∧ ((¬ r7 = 10) → (((r11 = 10) → (Sq d mX10_better sh [.ref a0, .int r7, .int r11] I18 L19 P20 (KI fun r29 I30 L31 P32 => (vp_in r17 (shp sh (P14 a0 0)).2) ∧ (∀ I34 : qMI, I34 = uI I30 (P14 a0 0) (Int32.toNatClampNeg r17) r29 → (T1 x1 (x2 + 1) I34 L31 P32))))) ∧ ((¬ r11 = 10) → ((((I12 (P14 a0 0) (Int32.toNatClampNeg (76 + x2))) < 0) → (Sq d mX10_better sh [.ref a0, .int r7, .int r11] I18 L19 P20 (KI fun r36 I37 L38 P39 => (vp_in r17 (shp sh (P14 a0 0)).2) ∧ (∀ I41 : qMI, I41 = uI I37 (P14 a0 0) (Int32.toNatClampNeg r17) r36 → (T1 x1 (x2 + 1) I41 L38 P39))))) ∧ ((¬ (I12 (P14 a0 0) (Int32.toNatClampNeg (76 + x2))) < 0) → ((vp_in r17 (shp sh (P14 a0 0)).2) ∧ (∀ I43 : qMI, I43 = uI I18 (P14 a0 0) (Int32.toNatClampNeg r17) (I12 (P14 a0 0) (Int32.toNatClampNeg (76 + x2))) → (T1 x1 (x2 + 1) I43 L19 P20)))))))))))))))))
set_option maxRecDepth 100000 in
set_option maxHeartbeats 4000000 in
theorem rg_X10_plays_1 {X : qCT} {d : Nat} {sh : List qSh} {K : Option Value → qMI → qML → qMP → Prop} {T1 : Int32 → Int32 → qMI → qML → qMP → Prop} {T2 : Int32 → Int32 → qMI → qML → qMP → Prop} {a0 : Nat} {x1 : Int32} {x2 : Int32} {I : qMI} {L : qML} {P : qMP} (C : qCB X RX10 cX10_plays 6 (d + 1) 0 0) (hk : qCK X (none) 0 0 (fun v sh' I' L' P' => sh' = sh ∧ K v I' L' P')) (hT1 : ∀ (x1 : Int32) (x2 : Int32) (I : qMI) (L : qML) (P : qMP), T1 x1 x2 I L P → qG X 11 [some (.ref a0), some (.int x1), some (.int x2), none, none, none] [] sh I L P 0 0) (hT2 : ∀ (x1 : Int32) (x2 : Int32) (I : qMI) (L : qML) (P : qMP), T2 x1 x2 I L P → qG X 107 [some (.ref a0), some (.int x1), some (.int x2), none, none, none] [] sh I L P 0 0) (h : vc_X10_plays_1 d sh K T1 T2 a0 x1 x2 I L P) : qG X 11 [some (.ref a0), some (.int x1), some (.int x2), none, none, none] [] sh I L P 0 0 := by
  unfold vc_X10_plays_1 at h
  refine q_iload_n C dX10_plays_11 rfl ?_
  refine q_iconst (v := 1) C dX10_plays_12 (by decide) ?_
  refine q_aload_n C dX10_plays_13 rfl ?_
  have s1 := h.1
  replace h := h.2
  refine q_cVi (as := []) (st := [.int 1, .int x2]) (r := a0) C mv_X10_lastRound ml_RX10_71 dX10_plays_14 rfl s1 rfl (Nat.le_of_ble_eq_true rfl) ⟨Nat.le_refl _, Nat.le_refl _⟩ h (fun r2 I3 L4 P5 h => ?_)
  refine q_iload_n C dX10_plays_17 rfl ?_
  refine q_isub C dX10_plays_18 ?_
  refine q_ishl C dX10_plays_19 ?_
  refine q_icmp_ge (tgt := 105) C dX10_plays_20 (by decide) (fun c6 => ?_) (fun c6 => ?_)
  · replace h := h.1 c6
    refine q_iconst (v := 0) C dX10_plays_105 (by decide) ?_
    refine q_istore_n (lo1 := [some (.ref a0), some (.int x1), some (.int 0), none, none, none]) C dX10_plays_106 (by decide) rfl ?_
    exact hT2 _ _ _ _ _ h
  · replace h := h.2 c6
    refine q_aload_n C dX10_plays_23 rfl ?_
    refine q_iload_n C dX10_plays_24 rfl ?_
    refine q_iconst (v := 1) C dX10_plays_25 (by decide) ?_
    refine q_isub C dX10_plays_26 ?_
    refine q_iconst (v := 2) C dX10_plays_27 (by decide) ?_
    refine q_iload_n C dX10_plays_28 rfl ?_
    refine q_imul C dX10_plays_29 ?_
    refine q_cVi (as := [.int (x1 - 1), .int (2 * x2)]) (st := []) (r := a0) C mv_X10_cameTo ml_RX10_272 dX10_plays_30 rfl s1 rfl (Nat.le_of_ble_eq_true rfl) ⟨Nat.le_refl _, Nat.le_refl _⟩ h (fun r7 I8 L9 P10 h => ?_)
    refine q_istore_n (lo1 := [some (.ref a0), some (.int x1), some (.int x2), some (.int r7), none, none]) C dX10_plays_33 (by decide) rfl ?_
    refine q_aload_n C dX10_plays_34 rfl ?_
    refine q_iload_n C dX10_plays_35 rfl ?_
    refine q_iconst (v := 1) C dX10_plays_36 (by decide) ?_
    refine q_isub C dX10_plays_37 ?_
    refine q_iconst (v := 2) C dX10_plays_38 (by decide) ?_
    refine q_iload_n C dX10_plays_39 rfl ?_
    refine q_imul C dX10_plays_40 ?_
    refine q_iconst (v := 1) C dX10_plays_41 (by decide) ?_
    refine q_iadd C dX10_plays_42 ?_
    refine q_cVi (as := [.int (x1 - 1), .int ((2 * x2) + 1)]) (st := []) (r := a0) C mv_X10_cameTo ml_RX10_272 dX10_plays_43 rfl s1 rfl (Nat.le_of_ble_eq_true rfl) ⟨Nat.le_refl _, Nat.le_refl _⟩ h (fun r11 I12 L13 P14 h => ?_)
    refine q_istore (lo1 := [some (.ref a0), some (.int x1), some (.int x2), some (.int r7), some (.int r11), none]) C dX10_plays_46 (by decide) rfl ?_
    refine q_aload_n C dX10_plays_48 rfl ?_
    refine q_getP C fl_RX10_9 rfl s1 dX10_plays_49 ?_
    refine q_bipush (v := 76) C dX10_plays_52 (by decide) ?_
    refine q_iload_n C dX10_plays_54 rfl ?_
    refine q_iadd C dX10_plays_55 ?_
    have s15 := h.1
    replace h := h.2
    have s16 := h.1
    replace h := h.2
    refine q_iald C s15 s16 dX10_plays_56 ?_
    refine q_istore (lo1 := [some (.ref a0), some (.int x1), some (.int x2), some (.int r7), some (.int r11), some (.int (I12 (P14 a0 0) (Int32.toNatClampNeg (76 + x2))))]) C dX10_plays_57 (by decide) rfl ?_
    refine q_aload_n C dX10_plays_59 rfl ?_
    refine q_getP C fl_RX10_9 rfl s1 dX10_plays_60 ?_
    refine q_iload_n C dX10_plays_63 rfl ?_
    refine q_iload_n C dX10_plays_64 rfl ?_
    refine q_cSi (as := [.int x1, .int x2]) (st := [.ref (P14 a0 0)]) C ms_X10_throughAt ml_RX10_269 dX10_plays_65 rfl rfl (Nat.le_of_ble_eq_true rfl) ⟨Nat.le_refl _, Nat.le_refl _⟩ h (fun r17 I18 L19 P20 h => ?_)
    refine q_iload_n C dX10_plays_68 rfl ?_
    refine q_bipush (v := 10) C dX10_plays_69 (by decide) ?_
    refine q_icmp_eq (tgt := 91) C dX10_plays_71 (by decide) (fun c21 => ?_) (fun c21 => ?_)
    · replace h := h.1 c21
      refine q_aload_n C dX10_plays_91 rfl ?_
      refine q_iload_n C dX10_plays_92 rfl ?_
      refine q_iload C dX10_plays_93 rfl ?_
      refine q_cVi (as := [.int r7, .int r11]) (st := [.int r17, .ref (P14 a0 0)]) (r := a0) C mv_X10_better ml_RX10_275 dX10_plays_95 rfl s1 rfl (Nat.le_of_ble_eq_true rfl) ⟨Nat.le_refl _, Nat.le_refl _⟩ h (fun r22 I23 L24 P25 h => ?_)
      have s26 := h.1
      replace h := h.2
      refine q_iast C s15 s26 dX10_plays_98 (fun I27 eI27 => ?_)
      replace h := h I27 eI27
      refine q_iinc (w := 1) (lo1 := [some (.ref a0), some (.int x1), some (.int (x2 + 1)), some (.int r7), some (.int r11), some (.int (I12 (P14 a0 0) (Int32.toNatClampNeg (76 + x2))))]) C dX10_plays_99 rfl (by decide) (by decide) rfl ?_
      refine q_goto (tgt := 11) C dX10_plays_102 (by decide) ?_
      refine q_kill 3 (lo1 := [some (.ref a0), some (.int x1), some (.int (x2 + 1)), none, some (.int r11), some (.int (I12 (P14 a0 0) (Int32.toNatClampNeg (76 + x2))))]) rfl ?_
      refine q_kill 4 (lo1 := [some (.ref a0), some (.int x1), some (.int (x2 + 1)), none, none, some (.int (I12 (P14 a0 0) (Int32.toNatClampNeg (76 + x2))))]) rfl ?_
      refine q_kill 5 (lo1 := [some (.ref a0), some (.int x1), some (.int (x2 + 1)), none, none, none]) rfl ?_
      exact hT1 _ _ _ _ _ h
    · replace h := h.2 c21
      refine q_iload C dX10_plays_74 rfl ?_
      refine q_bipush (v := 10) C dX10_plays_76 (by decide) ?_
      refine q_icmp_eq (tgt := 91) C dX10_plays_78 (by decide) (fun c28 => ?_) (fun c28 => ?_)
      · replace h := h.1 c28
        refine q_aload_n C dX10_plays_91 rfl ?_
        refine q_iload_n C dX10_plays_92 rfl ?_
        refine q_iload C dX10_plays_93 rfl ?_
        refine q_cVi (as := [.int r7, .int r11]) (st := [.int r17, .ref (P14 a0 0)]) (r := a0) C mv_X10_better ml_RX10_275 dX10_plays_95 rfl s1 rfl (Nat.le_of_ble_eq_true rfl) ⟨Nat.le_refl _, Nat.le_refl _⟩ h (fun r29 I30 L31 P32 h => ?_)
        have s33 := h.1
        replace h := h.2
        refine q_iast C s15 s33 dX10_plays_98 (fun I34 eI34 => ?_)
        replace h := h I34 eI34
        refine q_iinc (w := 1) (lo1 := [some (.ref a0), some (.int x1), some (.int (x2 + 1)), some (.int r7), some (.int r11), some (.int (I12 (P14 a0 0) (Int32.toNatClampNeg (76 + x2))))]) C dX10_plays_99 rfl (by decide) (by decide) rfl ?_
        refine q_goto (tgt := 11) C dX10_plays_102 (by decide) ?_
        refine q_kill 3 (lo1 := [some (.ref a0), some (.int x1), some (.int (x2 + 1)), none, some (.int r11), some (.int (I12 (P14 a0 0) (Int32.toNatClampNeg (76 + x2))))]) rfl ?_
        refine q_kill 4 (lo1 := [some (.ref a0), some (.int x1), some (.int (x2 + 1)), none, none, some (.int (I12 (P14 a0 0) (Int32.toNatClampNeg (76 + x2))))]) rfl ?_
        refine q_kill 5 (lo1 := [some (.ref a0), some (.int x1), some (.int (x2 + 1)), none, none, none]) rfl ?_
        exact hT1 _ _ _ _ _ h
      · replace h := h.2 c28
        refine q_iload C dX10_plays_81 rfl ?_
        refine q_if_lt (tgt := 91) C dX10_plays_83 (by decide) (fun c35 => ?_) (fun c35 => ?_)
        · replace h := h.1 c35
          refine q_aload_n C dX10_plays_91 rfl ?_
          refine q_iload_n C dX10_plays_92 rfl ?_
          refine q_iload C dX10_plays_93 rfl ?_
          refine q_cVi (as := [.int r7, .int r11]) (st := [.int r17, .ref (P14 a0 0)]) (r := a0) C mv_X10_better ml_RX10_275 dX10_plays_95 rfl s1 rfl (Nat.le_of_ble_eq_true rfl) ⟨Nat.le_refl _, Nat.le_refl _⟩ h (fun r36 I37 L38 P39 h => ?_)
          have s40 := h.1
          replace h := h.2
          refine q_iast C s15 s40 dX10_plays_98 (fun I41 eI41 => ?_)
          replace h := h I41 eI41
          refine q_iinc (w := 1) (lo1 := [some (.ref a0), some (.int x1), some (.int (x2 + 1)), some (.int r7), some (.int r11), some (.int (I12 (P14 a0 0) (Int32.toNatClampNeg (76 + x2))))]) C dX10_plays_99 rfl (by decide) (by decide) rfl ?_
          refine q_goto (tgt := 11) C dX10_plays_102 (by decide) ?_
          refine q_kill 3 (lo1 := [some (.ref a0), some (.int x1), some (.int (x2 + 1)), none, some (.int r11), some (.int (I12 (P14 a0 0) (Int32.toNatClampNeg (76 + x2))))]) rfl ?_
          refine q_kill 4 (lo1 := [some (.ref a0), some (.int x1), some (.int (x2 + 1)), none, none, some (.int (I12 (P14 a0 0) (Int32.toNatClampNeg (76 + x2))))]) rfl ?_
          refine q_kill 5 (lo1 := [some (.ref a0), some (.int x1), some (.int (x2 + 1)), none, none, none]) rfl ?_
          exact hT1 _ _ _ _ _ h
        · replace h := h.2 c35
          refine q_iload C dX10_plays_86 rfl ?_
          refine q_goto (tgt := 98) C dX10_plays_88 (by decide) ?_
          have s42 := h.1
          replace h := h.2
          refine q_iast C s15 s42 dX10_plays_98 (fun I43 eI43 => ?_)
          replace h := h I43 eI43
          refine q_iinc (w := 1) (lo1 := [some (.ref a0), some (.int x1), some (.int (x2 + 1)), some (.int r7), some (.int r11), some (.int (I12 (P14 a0 0) (Int32.toNatClampNeg (76 + x2))))]) C dX10_plays_99 rfl (by decide) (by decide) rfl ?_
          refine q_goto (tgt := 11) C dX10_plays_102 (by decide) ?_
          refine q_kill 3 (lo1 := [some (.ref a0), some (.int x1), some (.int (x2 + 1)), none, some (.int r11), some (.int (I12 (P14 a0 0) (Int32.toNatClampNeg (76 + x2))))]) rfl ?_
          refine q_kill 4 (lo1 := [some (.ref a0), some (.int x1), some (.int (x2 + 1)), none, none, some (.int (I12 (P14 a0 0) (Int32.toNatClampNeg (76 + x2))))]) rfl ?_
          refine q_kill 5 (lo1 := [some (.ref a0), some (.int x1), some (.int (x2 + 1)), none, none, none]) rfl ?_
          exact hT1 _ _ _ _ _ h
def vc_X10_plays_2 (d : Nat) (sh : List qSh) (K : Option Value → qMI → qML → qMP → Prop) (T1 : Int32 → Int32 → qMI → qML → qMP → Prop) (T2 : Int32 → Int32 → qMI → qML → qMP → Prop) (a0 : Nat) (x1 : Int32) (x2 : Int32) (I : qMI) (L : qML) (P : qMP) : Prop :=
  ((8 ≤ x2) → (((shp sh a0).1 = 10) ∧ (((shp sh (P a0 0)).1 = 20) ∧ ((vp_in 4 (shp sh (P a0 0)).2) ∧ (∀ I5 : qMI, I5 = uI I (P a0 0) (Int32.toNatClampNeg 4) x1 → (K none I5 L P)))))) ∧ ((¬ 8 ≤ x2) → (((shp sh a0).1 = 10) ∧ (((shp sh (P a0 0)).1 = 20) ∧ ((vp_in (76 + x2) (shp sh (P a0 0)).2) ∧ (∀ I9 : qMI, I9 = uI I (P a0 0) (Int32.toNatClampNeg (76 + x2)) ((-2)) → (T2 x1 (x2 + 1) I9 L P))))))
set_option maxRecDepth 100000 in
set_option maxHeartbeats 4000000 in
theorem rg_X10_plays_2 {X : qCT} {d : Nat} {sh : List qSh} {K : Option Value → qMI → qML → qMP → Prop} {T1 : Int32 → Int32 → qMI → qML → qMP → Prop} {T2 : Int32 → Int32 → qMI → qML → qMP → Prop} {a0 : Nat} {x1 : Int32} {x2 : Int32} {I : qMI} {L : qML} {P : qMP} (C : qCB X RX10 cX10_plays 6 (d + 1) 0 0) (hk : qCK X (none) 0 0 (fun v sh' I' L' P' => sh' = sh ∧ K v I' L' P')) (hT1 : ∀ (x1 : Int32) (x2 : Int32) (I : qMI) (L : qML) (P : qMP), T1 x1 x2 I L P → qG X 11 [some (.ref a0), some (.int x1), some (.int x2), none, none, none] [] sh I L P 0 0) (hT2 : ∀ (x1 : Int32) (x2 : Int32) (I : qMI) (L : qML) (P : qMP), T2 x1 x2 I L P → qG X 107 [some (.ref a0), some (.int x1), some (.int x2), none, none, none] [] sh I L P 0 0) (h : vc_X10_plays_2 d sh K T1 T2 a0 x1 x2 I L P) : qG X 107 [some (.ref a0), some (.int x1), some (.int x2), none, none, none] [] sh I L P 0 0 := by
  unfold vc_X10_plays_2 at h
  refine q_iload_n C dX10_plays_107 rfl ?_
  refine q_bipush (v := 8) C dX10_plays_108 (by decide) ?_
  refine q_icmp_ge (tgt := 130) C dX10_plays_110 (by decide) (fun c1 => ?_) (fun c1 => ?_)
  · replace h := h.1 c1
    refine q_aload_n C dX10_plays_130 rfl ?_
    have s2 := h.1
    replace h := h.2
    refine q_getP C fl_RX10_9 rfl s2 dX10_plays_131 ?_
    refine q_iconst (v := 4) C dX10_plays_134 (by decide) ?_
    refine q_iload_n C dX10_plays_135 rfl ?_
    have s3 := h.1
    replace h := h.2
    have s4 := h.1
    replace h := h.2
    refine q_iast C s3 s4 dX10_plays_136 (fun I5 eI5 => ?_)
    replace h := h I5 eI5
    exact q_vret C hk dX10_plays_137 ⟨rfl, h⟩
  · replace h := h.2 c1
    refine q_aload_n C dX10_plays_113 rfl ?_
    have s6 := h.1
    replace h := h.2
    refine q_getP C fl_RX10_9 rfl s6 dX10_plays_114 ?_
    refine q_bipush (v := 76) C dX10_plays_117 (by decide) ?_
    refine q_iload_n C dX10_plays_119 rfl ?_
    refine q_iadd C dX10_plays_120 ?_
    refine q_bipush (v := (-2)) C dX10_plays_121 (by decide) ?_
    have s7 := h.1
    replace h := h.2
    have s8 := h.1
    replace h := h.2
    refine q_iast C s7 s8 dX10_plays_123 (fun I9 eI9 => ?_)
    replace h := h I9 eI9
    refine q_iinc (w := 1) (lo1 := [some (.ref a0), some (.int x1), some (.int (x2 + 1)), none, none, none]) C dX10_plays_124 rfl (by decide) (by decide) rfl ?_
    refine q_goto (tgt := 107) C dX10_plays_127 (by decide) ?_
    exact hT2 _ _ _ _ _ h
theorem sp_X10_plays {d : Nat} {sh : List qSh} {K : Option Value → qMI → qML → qMP → Prop} {a0 : Nat} {I : qMI} {L : qML} {P : qMP} (T1 : Int32 → Int32 → qMI → qML → qMP → Prop) (m1 : Int32 → Int32 → qMI → qML → qMP → Nat) (T2 : Int32 → Int32 → qMI → qML → qMP → Prop) (m2 : Int32 → Int32 → qMI → qML → qMP → Nat) (h0 : vc_X10_plays_0 d sh K T1 T2 a0 I L P)
    (h1 : ∀ (x1 : Int32) (x2 : Int32) (I : qMI) (L : qML) (P : qMP), T1 x1 x2 I L P → vc_X10_plays_1 d sh K (fun w0 w1 I' L' P' => T1 w0 w1 I' L' P' ∧ m1 w0 w1 I' L' P' < m1 x1 x2 I L P) (fun w0 w1 I' L' P' => T2 w0 w1 I' L' P' ∧ m2 w0 w1 I' L' P' < m1 x1 x2 I L P) a0 x1 x2 I L P)
    (h2 : ∀ (x1 : Int32) (x2 : Int32) (I : qMI) (L : qML) (P : qMP), T2 x1 x2 I L P → vc_X10_plays_2 d sh K (fun w0 w1 I' L' P' => T1 w0 w1 I' L' P' ∧ m1 w0 w1 I' L' P' < m2 x1 x2 I L P) (fun w0 w1 I' L' P' => T2 w0 w1 I' L' P' ∧ m2 w0 w1 I' L' P' < m2 x1 x2 I L P) a0 x1 x2 I L P) : Sq (d + 1) mX10_plays sh [.ref a0] I L P K := by
  refine Sq_of (by decide +kernel) (Nat.le_of_ble_eq_true rfl) (fun X C hk hn => ?_)
  have go : ∀ N : Nat, (∀ (x1 : Int32) (x2 : Int32) (I : qMI) (L : qML) (P : qMP), T1 x1 x2 I L P → m1 x1 x2 I L P < N → qG X 11 [some (.ref a0), some (.int x1), some (.int x2), none, none, none] [] sh I L P 0 0) ∧ (∀ (x1 : Int32) (x2 : Int32) (I : qMI) (L : qML) (P : qMP), T2 x1 x2 I L P → m2 x1 x2 I L P < N → qG X 107 [some (.ref a0), some (.int x1), some (.int x2), none, none, none] [] sh I L P 0 0) := by
    intro N
    induction N with
    | zero => exact ⟨fun _ _ _ _ _ _ q => absurd q (Nat.not_lt_zero _), fun _ _ _ _ _ _ q => absurd q (Nat.not_lt_zero _)⟩
    | succ N ih =>
      exact ⟨fun b0 b1 I1 L1 P1 t q => rg_X10_plays_1 C hk (fun z0 z1 I2 L2 P2 z => ih.1 z0 z1 I2 L2 P2 z.1 (Nat.lt_of_lt_of_le z.2 (Nat.le_of_lt_succ q))) (fun z0 z1 I2 L2 P2 z => ih.2 z0 z1 I2 L2 P2 z.1 (Nat.lt_of_lt_of_le z.2 (Nat.le_of_lt_succ q))) (h1 b0 b1 I1 L1 P1 t), fun b0 b1 I1 L1 P1 t q => rg_X10_plays_2 C hk (fun z0 z1 I2 L2 P2 z => ih.1 z0 z1 I2 L2 P2 z.1 (Nat.lt_of_lt_of_le z.2 (Nat.le_of_lt_succ q))) (fun z0 z1 I2 L2 P2 z => ih.2 z0 z1 I2 L2 P2 z.1 (Nat.lt_of_lt_of_le z.2 (Nat.le_of_lt_succ q))) (h2 b0 b1 I1 L1 P1 t)⟩
  exact rg_X10_plays_0 C hk (fun b0 b1 I1 L1 P1 t => (go (m1 b0 b1 I1 L1 P1 + 1)).1 b0 b1 I1 L1 P1 t (Nat.lt_succ_self _)) (fun b0 b1 I1 L1 P1 t => (go (m2 b0 b1 I1 L1 P1 + 1)).2 b0 b1 I1 L1 P1 t (Nat.lt_succ_self _)) h0
/-! BracketDrawsModel.isOver()Z -/
def vc_X10_isOver_0 (d : Nat) (sh : List qSh) (K : Option Value → qMI → qML → qMP → Prop) (a0 : Nat) (I : qMI) (L : qML) (P : qMP) : Prop :=
  ((shp sh a0).1 = 10) ∧ (Sq d mX10_hasDraw sh [.ref a0] I L P (KI fun r2 I3 L4 P5 => ((r2 = 0) → (K (some (.int 1)) I3 L4 P5)) ∧ ((¬ r2 = 0) → (((shp sh (P5 a0 0)).1 = 20) ∧ ((vp_in 4 (shp sh (P5 a0 0)).2) ∧ (Sq d mX10_lastRound sh [.ref a0] I3 L4 P5 (KI fun r9 I10 L11 P12 => ((¬ (I3 (P5 a0 0) (Int32.toNatClampNeg 4)) = r9) → (K (some (.int 0)) I10 L11 P12)) ∧ (((I3 (P5 a0 0) (Int32.toNatClampNeg 4)) = r9) → (K (some (.int 1)) I10 L11 P12)))))))))
set_option maxRecDepth 100000 in
set_option maxHeartbeats 4000000 in
theorem rg_X10_isOver_0 {X : qCT} {d : Nat} {sh : List qSh} {K : Option Value → qMI → qML → qMP → Prop} {a0 : Nat} {I : qMI} {L : qML} {P : qMP} (C : qCB X RX10 cX10_isOver 1 (d + 1) 0 0) (hk : qCK X (some .boolean) 0 0 (fun v sh' I' L' P' => sh' = sh ∧ K v I' L' P')) (h : vc_X10_isOver_0 d sh K a0 I L P) : qG X 0 [some (.ref a0)] [] sh I L P 0 0 := by
  unfold vc_X10_isOver_0 at h
  refine q_aload_n C dX10_isOver_0 rfl ?_
  have s1 := h.1
  replace h := h.2
  refine q_cVi (as := []) (st := []) (r := a0) C mv_X10_hasDraw ml_RX10_257 dX10_isOver_1 rfl s1 rfl (Nat.le_of_ble_eq_true rfl) ⟨Nat.le_refl _, Nat.le_refl _⟩ h (fun r2 I3 L4 P5 h => ?_)
  refine q_if_eq (tgt := 20) C dX10_isOver_4 (by decide) (fun c6 => ?_) (fun c6 => ?_)
  · replace h := h.1 c6
    refine q_iconst (v := 1) C dX10_isOver_20 (by decide) ?_
    refine q_goto (tgt := 25) C dX10_isOver_21 (by decide) ?_
    exact q_zret C hk (Or.inr rfl) dX10_isOver_25 ⟨rfl, h⟩
  · replace h := h.2 c6
    refine q_aload_n C dX10_isOver_7 rfl ?_
    refine q_getP C fl_RX10_9 rfl s1 dX10_isOver_8 ?_
    refine q_iconst (v := 4) C dX10_isOver_11 (by decide) ?_
    have s7 := h.1
    replace h := h.2
    have s8 := h.1
    replace h := h.2
    refine q_iald C s7 s8 dX10_isOver_12 ?_
    refine q_aload_n C dX10_isOver_13 rfl ?_
    refine q_cVi (as := []) (st := [.int (I3 (P5 a0 0) (Int32.toNatClampNeg 4))]) (r := a0) C mv_X10_lastRound ml_RX10_71 dX10_isOver_14 rfl s1 rfl (Nat.le_of_ble_eq_true rfl) ⟨Nat.le_refl _, Nat.le_refl _⟩ h (fun r9 I10 L11 P12 h => ?_)
    refine q_icmp_ne (tgt := 24) C dX10_isOver_17 (by decide) (fun c13 => ?_) (fun c13 => ?_)
    · replace h := h.1 c13
      refine q_iconst (v := 0) C dX10_isOver_24 (by decide) ?_
      exact q_zret C hk (Or.inl rfl) dX10_isOver_25 ⟨rfl, h⟩
    · replace h := h.2 c13
      refine q_iconst (v := 1) C dX10_isOver_20 (by decide) ?_
      refine q_goto (tgt := 25) C dX10_isOver_21 (by decide) ?_
      exact q_zret C hk (Or.inr rfl) dX10_isOver_25 ⟨rfl, h⟩
theorem sp_X10_isOver {d : Nat} {sh : List qSh} {K : Option Value → qMI → qML → qMP → Prop} {a0 : Nat} {I : qMI} {L : qML} {P : qMP} (h0 : vc_X10_isOver_0 d sh K a0 I L P) : Sq (d + 1) mX10_isOver sh [.ref a0] I L P K := by
  refine Sq_of (by decide +kernel) (Nat.le_of_ble_eq_true rfl) (fun X C hk hn => ?_)
  exact rg_X10_isOver_0 C hk h0
/-! BracketDrawsModel.play()I -/
def vc_X10_play_0 (d : Nat) (sh : List qSh) (K : Option Value → qMI → qML → qMP → Prop) (a0 : Nat) (I : qMI) (L : qML) (P : qMP) : Prop :=
  ((shp sh a0).1 = 10) ∧ (Sq d mX10_isOver sh [.ref a0] I L P (KI fun r2 I3 L4 P5 => ((r2 = 0) → (Sq d mX10_changes sh [.ref a0] I3 L4 P5 (KV fun I7 L8 P9 => Sq d mX10_plays sh [.ref a0] I7 L8 P9 (KV fun I10 L11 P12 => ((shp sh (P12 a0 0)).1 = 20) ∧ ((vp_in 4 (shp sh (P12 a0 0)).2) ∧ (K (some (.int (I10 (P12 a0 0) (Int32.toNatClampNeg 4)))) I10 L11 P12)))))) ∧ ((¬ r2 = 0) → (K (some (.int ((-5)))) I3 L4 P5))))
set_option maxRecDepth 100000 in
set_option maxHeartbeats 4000000 in
theorem rg_X10_play_0 {X : qCT} {d : Nat} {sh : List qSh} {K : Option Value → qMI → qML → qMP → Prop} {a0 : Nat} {I : qMI} {L : qML} {P : qMP} (C : qCB X RX10 cX10_play 1 (d + 1) 0 0) (hk : qCK X (some .int) 0 0 (fun v sh' I' L' P' => sh' = sh ∧ K v I' L' P')) (h : vc_X10_play_0 d sh K a0 I L P) : qG X 0 [some (.ref a0)] [] sh I L P 0 0 := by
  unfold vc_X10_play_0 at h
  refine q_aload_n C dX10_play_0 rfl ?_
  have s1 := h.1
  replace h := h.2
  refine q_cVi (as := []) (st := []) (r := a0) C mv_X10_isOver ml_RX10_278 dX10_play_1 rfl s1 rfl (Nat.le_of_ble_eq_true rfl) ⟨Nat.le_refl _, Nat.le_refl _⟩ h (fun r2 I3 L4 P5 h => ?_)
  refine q_if_eq (tgt := 10) C dX10_play_4 (by decide) (fun c6 => ?_) (fun c6 => ?_)
  · replace h := h.1 c6
    refine q_aload_n C dX10_play_10 rfl ?_
    refine q_cVv (as := []) (st := []) (r := a0) C mv_X10_changes ml_RX10_122 dX10_play_11 rfl s1 rfl (Nat.le_of_ble_eq_true rfl) ⟨Nat.le_refl _, Nat.le_refl _⟩ h (fun I7 L8 P9 h => ?_)
    refine q_aload_n C dX10_play_14 rfl ?_
    refine q_cVv (as := []) (st := []) (r := a0) C mv_X10_plays ml_RX10_281 dX10_play_15 rfl s1 rfl (Nat.le_of_ble_eq_true rfl) ⟨Nat.le_refl _, Nat.le_refl _⟩ h (fun I10 L11 P12 h => ?_)
    refine q_aload_n C dX10_play_18 rfl ?_
    refine q_getP C fl_RX10_9 rfl s1 dX10_play_19 ?_
    refine q_iconst (v := 4) C dX10_play_22 (by decide) ?_
    have s13 := h.1
    replace h := h.2
    have s14 := h.1
    replace h := h.2
    refine q_iald C s13 s14 dX10_play_23 ?_
    exact q_iret C hk dX10_play_24 ⟨rfl, h⟩
  · replace h := h.2 c6
    refine q_bipush (v := (-5)) C dX10_play_7 (by decide) ?_
    exact q_iret C hk dX10_play_9 ⟨rfl, h⟩
theorem sp_X10_play {d : Nat} {sh : List qSh} {K : Option Value → qMI → qML → qMP → Prop} {a0 : Nat} {I : qMI} {L : qML} {P : qMP} (h0 : vc_X10_play_0 d sh K a0 I L P) : Sq (d + 1) mX10_play sh [.ref a0] I L P K := by
  refine Sq_of (by decide +kernel) (Nat.le_of_ble_eq_true rfl) (fun X C hk hn => ?_)
  exact rg_X10_play_0 C hk h0
/-! BracketDrawsModel.isThrough(II)Z -/
def vc_X10_isThrough_0 (d : Nat) (sh : List qSh) (K : Option Value → qMI → qML → qMP → Prop) (a0 : Nat) (x1 : Int32) (x2 : Int32) (I : qMI) (L : qML) (P : qMP) : Prop :=
  ((shp sh a0).1 = 10) ∧ (Sq d mX10_slotOf sh [.ref a0, .int x1] I L P (KI fun r2 I3 L4 P5 => Sq d mX10_cameTo sh [.ref a0, .int x2, .int (r2 >>> (x2 &&& 31))] I3 L4 P5 (KI fun r6 I7 L8 P9 => ((¬ r6 = x1) → (K (some (.int 0)) I7 L8 P9)) ∧ ((r6 = x1) → (K (some (.int 1)) I7 L8 P9)))))
set_option maxRecDepth 100000 in
set_option maxHeartbeats 4000000 in
theorem rg_X10_isThrough_0 {X : qCT} {d : Nat} {sh : List qSh} {K : Option Value → qMI → qML → qMP → Prop} {a0 : Nat} {x1 : Int32} {x2 : Int32} {I : qMI} {L : qML} {P : qMP} (C : qCB X RX10 cX10_isThrough 3 (d + 1) 0 0) (hk : qCK X (some .boolean) 0 0 (fun v sh' I' L' P' => sh' = sh ∧ K v I' L' P')) (h : vc_X10_isThrough_0 d sh K a0 x1 x2 I L P) : qG X 0 [some (.ref a0), some (.int x1), some (.int x2)] [] sh I L P 0 0 := by
  unfold vc_X10_isThrough_0 at h
  refine q_aload_n C dX10_isThrough_0 rfl ?_
  refine q_iload_n C dX10_isThrough_1 rfl ?_
  refine q_aload_n C dX10_isThrough_2 rfl ?_
  refine q_iload_n C dX10_isThrough_3 rfl ?_
  have s1 := h.1
  replace h := h.2
  refine q_cVi (as := [.int x1]) (st := [.int x2, .ref a0]) (r := a0) C mv_X10_slotOf ml_RX10_260 dX10_isThrough_4 rfl s1 rfl (Nat.le_of_ble_eq_true rfl) ⟨Nat.le_refl _, Nat.le_refl _⟩ h (fun r2 I3 L4 P5 h => ?_)
  refine q_iload_n C dX10_isThrough_7 rfl ?_
  refine q_ishr C dX10_isThrough_8 ?_
  refine q_cVi (as := [.int x2, .int (r2 >>> (x2 &&& 31))]) (st := []) (r := a0) C mv_X10_cameTo ml_RX10_272 dX10_isThrough_9 rfl s1 rfl (Nat.le_of_ble_eq_true rfl) ⟨Nat.le_refl _, Nat.le_refl _⟩ h (fun r6 I7 L8 P9 h => ?_)
  refine q_iload_n C dX10_isThrough_12 rfl ?_
  refine q_icmp_ne (tgt := 20) C dX10_isThrough_13 (by decide) (fun c10 => ?_) (fun c10 => ?_)
  · replace h := h.1 c10
    refine q_iconst (v := 0) C dX10_isThrough_20 (by decide) ?_
    exact q_zret C hk (Or.inl rfl) dX10_isThrough_21 ⟨rfl, h⟩
  · replace h := h.2 c10
    refine q_iconst (v := 1) C dX10_isThrough_16 (by decide) ?_
    refine q_goto (tgt := 21) C dX10_isThrough_17 (by decide) ?_
    exact q_zret C hk (Or.inr rfl) dX10_isThrough_21 ⟨rfl, h⟩
theorem sp_X10_isThrough {d : Nat} {sh : List qSh} {K : Option Value → qMI → qML → qMP → Prop} {a0 : Nat} {x1 : Int32} {x2 : Int32} {I : qMI} {L : qML} {P : qMP} (h0 : vc_X10_isThrough_0 d sh K a0 x1 x2 I L P) : Sq (d + 1) mX10_isThrough sh [.ref a0, .int x1, .int x2] I L P K := by
  refine Sq_of (by decide +kernel) (Nat.le_of_ble_eq_true rfl) (fun X C hk hn => ?_)
  exact rg_X10_isThrough_0 C hk h0
/-! BracketDrawsModel.byHand(I)I -/
def vc_X10_byHand_0 (d : Nat) (sh : List qSh) (K : Option Value → qMI → qML → qMP → Prop) (a0 : Nat) (x1 : Int32) (I : qMI) (L : qML) (P : qMP) : Prop :=
  ((shp sh a0).1 = 10) ∧ (Sq d mX10_isPlayer sh [.ref a0, .int x1] I L P (KI fun r2 I3 L4 P5 => ((¬ r2 = 0) → (Sq d mX10_isOver sh [.ref a0] I3 L4 P5 (KI fun r7 I8 L9 P10 => ((¬ r7 = 0) → (K (some (.int ((-5)))) I8 L9 P10)) ∧ ((r7 = 0) → (((shp sh (P10 a0 0)).1 = 20) ∧ ((vp_in 4 (shp sh (P10 a0 0)).2) ∧ (Sq d mX10_isThrough sh [.ref a0, .int x1, .int (I8 (P10 a0 0) (Int32.toNatClampNeg 4))] I8 L9 P10 (KI fun r14 I15 L16 P17 => ((¬ r14 = 0) → (Sq d mX10_changes sh [.ref a0] I15 L16 P17 (KV fun I19 L20 P21 => Sq d mX10_slotOf sh [.ref a0, .int x1] I19 L20 P21 (KI fun r22 I23 L24 P25 => ((shp sh (P25 a0 0)).1 = 20) ∧ ((vp_in 4 (shp sh (P25 a0 0)).2) ∧ ((vp_in (76 + ((r22 >>> ((I23 (P25 a0 0) (Int32.toNatClampNeg 4)) &&& 31)) / 2)) (shp sh (P25 a0 0)).2) ∧ (∀ I29 : qMI, I29 = uI I23 (P25 a0 0) (Int32.toNatClampNeg (76 + ((r22 >>> ((I23 (P25 a0 0) (Int32.toNatClampNeg 4)) &&& 31)) / 2))) x1 → (Sq d mX10_cameTo sh [.ref a0, .int (I29 (P25 a0 0) (Int32.toNatClampNeg 4)), .int ((r22 >>> ((I23 (P25 a0 0) (Int32.toNatClampNeg 4)) &&& 31)) ^^^ 1)] I29 L24 P25 (KI fun r30 I31 L32 P33 => K (some (.int r30)) I31 L32 P33))))))))) ∧ ((r14 = 0) → (K (some (.int ((-5)))) I15 L16 P17)))))))))) ∧ ((r2 = 0) → (K (some (.int ((-1)))) I3 L4 P5))))
set_option maxRecDepth 100000 in
set_option maxHeartbeats 4000000 in
theorem rg_X10_byHand_0 {X : qCT} {d : Nat} {sh : List qSh} {K : Option Value → qMI → qML → qMP → Prop} {a0 : Nat} {x1 : Int32} {I : qMI} {L : qML} {P : qMP} (C : qCB X RX10 cX10_byHand 3 (d + 1) 0 0) (hk : qCK X (some .int) 0 0 (fun v sh' I' L' P' => sh' = sh ∧ K v I' L' P')) (h : vc_X10_byHand_0 d sh K a0 x1 I L P) : qG X 0 [some (.ref a0), some (.int x1), none] [] sh I L P 0 0 := by
  unfold vc_X10_byHand_0 at h
  refine q_aload_n C dX10_byHand_0 rfl ?_
  refine q_iload_n C dX10_byHand_1 rfl ?_
  have s1 := h.1
  replace h := h.2
  refine q_cVi (as := [.int x1]) (st := []) (r := a0) C mv_X10_isPlayer ml_RX10_114 dX10_byHand_2 rfl s1 rfl (Nat.le_of_ble_eq_true rfl) ⟨Nat.le_refl _, Nat.le_refl _⟩ h (fun r2 I3 L4 P5 h => ?_)
  refine q_if_ne (tgt := 10) C dX10_byHand_5 (by decide) (fun c6 => ?_) (fun c6 => ?_)
  · replace h := h.1 c6
    refine q_aload_n C dX10_byHand_10 rfl ?_
    refine q_cVi (as := []) (st := []) (r := a0) C mv_X10_isOver ml_RX10_278 dX10_byHand_11 rfl s1 rfl (Nat.le_of_ble_eq_true rfl) ⟨Nat.le_refl _, Nat.le_refl _⟩ h (fun r7 I8 L9 P10 h => ?_)
    refine q_if_ne (tgt := 31) C dX10_byHand_14 (by decide) (fun c11 => ?_) (fun c11 => ?_)
    · replace h := h.1 c11
      refine q_bipush (v := (-5)) C dX10_byHand_31 (by decide) ?_
      exact q_iret C hk dX10_byHand_33 ⟨rfl, h⟩
    · replace h := h.2 c11
      refine q_aload_n C dX10_byHand_17 rfl ?_
      refine q_iload_n C dX10_byHand_18 rfl ?_
      refine q_aload_n C dX10_byHand_19 rfl ?_
      refine q_getP C fl_RX10_9 rfl s1 dX10_byHand_20 ?_
      refine q_iconst (v := 4) C dX10_byHand_23 (by decide) ?_
      have s12 := h.1
      replace h := h.2
      have s13 := h.1
      replace h := h.2
      refine q_iald C s12 s13 dX10_byHand_24 ?_
      refine q_cVi (as := [.int x1, .int (I8 (P10 a0 0) (Int32.toNatClampNeg 4))]) (st := []) (r := a0) C mv_X10_isThrough ml_RX10_284 dX10_byHand_25 rfl s1 rfl (Nat.le_of_ble_eq_true rfl) ⟨Nat.le_refl _, Nat.le_refl _⟩ h (fun r14 I15 L16 P17 h => ?_)
      refine q_if_ne (tgt := 34) C dX10_byHand_28 (by decide) (fun c18 => ?_) (fun c18 => ?_)
      · replace h := h.1 c18
        refine q_aload_n C dX10_byHand_34 rfl ?_
        refine q_cVv (as := []) (st := []) (r := a0) C mv_X10_changes ml_RX10_122 dX10_byHand_35 rfl s1 rfl (Nat.le_of_ble_eq_true rfl) ⟨Nat.le_refl _, Nat.le_refl _⟩ h (fun I19 L20 P21 h => ?_)
        refine q_aload_n C dX10_byHand_38 rfl ?_
        refine q_iload_n C dX10_byHand_39 rfl ?_
        refine q_cVi (as := [.int x1]) (st := []) (r := a0) C mv_X10_slotOf ml_RX10_260 dX10_byHand_40 rfl s1 rfl (Nat.le_of_ble_eq_true rfl) ⟨Nat.le_refl _, Nat.le_refl _⟩ h (fun r22 I23 L24 P25 h => ?_)
        refine q_aload_n C dX10_byHand_43 rfl ?_
        refine q_getP C fl_RX10_9 rfl s1 dX10_byHand_44 ?_
        refine q_iconst (v := 4) C dX10_byHand_47 (by decide) ?_
        have s26 := h.1
        replace h := h.2
        have s27 := h.1
        replace h := h.2
        refine q_iald C s26 s27 dX10_byHand_48 ?_
        refine q_ishr C dX10_byHand_49 ?_
        refine q_istore_n (lo1 := [some (.ref a0), some (.int x1), some (.int (r22 >>> ((I23 (P25 a0 0) (Int32.toNatClampNeg 4)) &&& 31)))]) C dX10_byHand_50 (by decide) rfl ?_
        refine q_aload_n C dX10_byHand_51 rfl ?_
        refine q_getP C fl_RX10_9 rfl s1 dX10_byHand_52 ?_
        refine q_bipush (v := 76) C dX10_byHand_55 (by decide) ?_
        refine q_iload_n C dX10_byHand_57 rfl ?_
        refine q_iconst (v := 2) C dX10_byHand_58 (by decide) ?_
        refine q_idiv C dX10_byHand_59 (by decide) ?_
        refine q_iadd C dX10_byHand_60 ?_
        refine q_iload_n C dX10_byHand_61 rfl ?_
        have s28 := h.1
        replace h := h.2
        refine q_iast C s26 s28 dX10_byHand_62 (fun I29 eI29 => ?_)
        replace h := h I29 eI29
        refine q_aload_n C dX10_byHand_63 rfl ?_
        refine q_aload_n C dX10_byHand_64 rfl ?_
        refine q_getP C fl_RX10_9 rfl s1 dX10_byHand_65 ?_
        refine q_iconst (v := 4) C dX10_byHand_68 (by decide) ?_
        refine q_iald C s26 s27 dX10_byHand_69 ?_
        refine q_iload_n C dX10_byHand_70 rfl ?_
        refine q_iconst (v := 1) C dX10_byHand_71 (by decide) ?_
        refine q_ixor C dX10_byHand_72 ?_
        refine q_cVi (as := [.int (I29 (P25 a0 0) (Int32.toNatClampNeg 4)), .int ((r22 >>> ((I23 (P25 a0 0) (Int32.toNatClampNeg 4)) &&& 31)) ^^^ 1)]) (st := []) (r := a0) C mv_X10_cameTo ml_RX10_272 dX10_byHand_73 rfl s1 rfl (Nat.le_of_ble_eq_true rfl) ⟨Nat.le_refl _, Nat.le_refl _⟩ h (fun r30 I31 L32 P33 h => ?_)
        exact q_iret C hk dX10_byHand_76 ⟨rfl, h⟩
      · replace h := h.2 c18
        refine q_bipush (v := (-5)) C dX10_byHand_31 (by decide) ?_
        exact q_iret C hk dX10_byHand_33 ⟨rfl, h⟩
  · replace h := h.2 c6
    refine q_iconst (v := (-1)) C dX10_byHand_8 (by decide) ?_
    exact q_iret C hk dX10_byHand_9 ⟨rfl, h⟩
theorem sp_X10_byHand {d : Nat} {sh : List qSh} {K : Option Value → qMI → qML → qMP → Prop} {a0 : Nat} {x1 : Int32} {I : qMI} {L : qML} {P : qMP} (h0 : vc_X10_byHand_0 d sh K a0 x1 I L P) : Sq (d + 1) mX10_byHand sh [.ref a0, .int x1] I L P K := by
  refine Sq_of (by decide +kernel) (Nat.le_of_ble_eq_true rfl) (fun X C hk hn => ?_)
  exact rg_X10_byHand_0 C hk h0
/-! BracketDrawsModel.through(II)I -/
def vc_X10_through_0 (d : Nat) (sh : List qSh) (K : Option Value → qMI → qML → qMP → Prop) (a0 : Nat) (x1 : Int32) (x2 : Int32) (I : qMI) (L : qML) (P : qMP) : Prop :=
  ((shp sh a0).1 = 10) ∧ (Sq d mX10_isRound sh [.ref a0, .int x1] I L P (KI fun r2 I3 L4 P5 => ((r2 = 0) → (K (some (.int ((-1)))) I3 L4 P5)) ∧ ((¬ r2 = 0) → (Sq d mX10_lastRound sh [.ref a0] I3 L4 P5 (KI fun r7 I8 L9 P10 => Sq d mX10_in sh [.long (Int32.toInt64 x2), .long 0, .long (Int32.toInt64 (((1 : Int32) <<< ((r7 - x1) &&& 31)) - 1))] I8 L9 P10 (KI fun r11 I12 L13 P14 => ((¬ r11 = 0) → (Sq d mX10_hasDraw sh [.ref a0] I12 L13 P14 (KI fun r16 I17 L18 P19 => ((¬ r16 = 0) → (((shp sh (P19 a0 0)).1 = 20) ∧ ((vp_in 4 (shp sh (P19 a0 0)).2) ∧ (((x1 ≤ (I17 (P19 a0 0) (Int32.toNatClampNeg 4))) → (Sq d mX10_cameTo sh [.ref a0, .int x1, .int x2] I17 L18 P19 (KI fun r24 I25 L26 P27 => K (some (.int r24)) I25 L26 P27))) ∧ ((¬ x1 ≤ (I17 (P19 a0 0) (Int32.toNatClampNeg 4))) → (K (some (.int ((-2)))) I17 L18 P19)))))) ∧ ((r16 = 0) → (K (some (.int ((-5)))) I17 L18 P19))))) ∧ ((r11 = 0) → (K (some (.int ((-1)))) I12 L13 P14))))))))
set_option maxRecDepth 100000 in
set_option maxHeartbeats 4000000 in
theorem rg_X10_through_0 {X : qCT} {d : Nat} {sh : List qSh} {K : Option Value → qMI → qML → qMP → Prop} {a0 : Nat} {x1 : Int32} {x2 : Int32} {I : qMI} {L : qML} {P : qMP} (C : qCB X RX10 cX10_through 3 (d + 1) 0 0) (hk : qCK X (some .int) 0 0 (fun v sh' I' L' P' => sh' = sh ∧ K v I' L' P')) (h : vc_X10_through_0 d sh K a0 x1 x2 I L P) : qG X 0 [some (.ref a0), some (.int x1), some (.int x2)] [] sh I L P 0 0 := by
  unfold vc_X10_through_0 at h
  refine q_aload_n C dX10_through_0 rfl ?_
  refine q_iload_n C dX10_through_1 rfl ?_
  have s1 := h.1
  replace h := h.2
  refine q_cVi (as := [.int x1]) (st := []) (r := a0) C mv_X10_isRound ml_RX10_228 dX10_through_2 rfl s1 rfl (Nat.le_of_ble_eq_true rfl) ⟨Nat.le_refl _, Nat.le_refl _⟩ h (fun r2 I3 L4 P5 h => ?_)
  refine q_if_eq (tgt := 28) C dX10_through_5 (by decide) (fun c6 => ?_) (fun c6 => ?_)
  · replace h := h.1 c6
    refine q_iconst (v := (-1)) C dX10_through_28 (by decide) ?_
    exact q_iret C hk dX10_through_29 ⟨rfl, h⟩
  · replace h := h.2 c6
    refine q_iload_n C dX10_through_8 rfl ?_
    refine q_i2l C dX10_through_9 ?_
    refine q_lconst (v := 0) C dX10_through_10 (by decide) ?_
    refine q_iconst (v := 1) C dX10_through_11 (by decide) ?_
    refine q_aload_n C dX10_through_12 rfl ?_
    refine q_cVi (as := []) (st := [.int 1, .long 0, .long (Int32.toInt64 x2)]) (r := a0) C mv_X10_lastRound ml_RX10_71 dX10_through_13 rfl s1 rfl (Nat.le_of_ble_eq_true rfl) ⟨Nat.le_refl _, Nat.le_refl _⟩ h (fun r7 I8 L9 P10 h => ?_)
    refine q_iload_n C dX10_through_16 rfl ?_
    refine q_isub C dX10_through_17 ?_
    refine q_ishl C dX10_through_18 ?_
    refine q_iconst (v := 1) C dX10_through_19 (by decide) ?_
    refine q_isub C dX10_through_20 ?_
    refine q_i2l C dX10_through_21 ?_
    refine q_cSi (as := [.long (Int32.toInt64 x2), .long 0, .long (Int32.toInt64 (((1 : Int32) <<< ((r7 - x1) &&& 31)) - 1))]) (st := []) C ms_X10_in ml_RX10_63 dX10_through_22 rfl rfl (Nat.le_of_ble_eq_true rfl) ⟨Nat.le_refl _, Nat.le_refl _⟩ h (fun r11 I12 L13 P14 h => ?_)
    refine q_if_ne (tgt := 30) C dX10_through_25 (by decide) (fun c15 => ?_) (fun c15 => ?_)
    · replace h := h.1 c15
      refine q_aload_n C dX10_through_30 rfl ?_
      refine q_cVi (as := []) (st := []) (r := a0) C mv_X10_hasDraw ml_RX10_257 dX10_through_31 rfl s1 rfl (Nat.le_of_ble_eq_true rfl) ⟨Nat.le_refl _, Nat.le_refl _⟩ h (fun r16 I17 L18 P19 h => ?_)
      refine q_if_ne (tgt := 42) C dX10_through_34 (by decide) (fun c20 => ?_) (fun c20 => ?_)
      · replace h := h.1 c20
        refine q_iload_n C dX10_through_42 rfl ?_
        refine q_aload_n C dX10_through_43 rfl ?_
        refine q_getP C fl_RX10_9 rfl s1 dX10_through_44 ?_
        refine q_iconst (v := 4) C dX10_through_47 (by decide) ?_
        have s21 := h.1
        replace h := h.2
        have s22 := h.1
        replace h := h.2
        refine q_iald C s21 s22 dX10_through_48 ?_
        refine q_icmp_le (tgt := 57) C dX10_through_49 (by decide) (fun c23 => ?_) (fun c23 => ?_)
        · replace h := h.1 c23
          refine q_aload_n C dX10_through_57 rfl ?_
          refine q_iload_n C dX10_through_58 rfl ?_
          refine q_iload_n C dX10_through_59 rfl ?_
          refine q_cVi (as := [.int x1, .int x2]) (st := []) (r := a0) C mv_X10_cameTo ml_RX10_272 dX10_through_60 rfl s1 rfl (Nat.le_of_ble_eq_true rfl) ⟨Nat.le_refl _, Nat.le_refl _⟩ h (fun r24 I25 L26 P27 h => ?_)
          exact q_iret C hk dX10_through_63 ⟨rfl, h⟩
        · replace h := h.2 c23
          refine q_bipush (v := (-2)) C dX10_through_52 (by decide) ?_
          refine q_goto (tgt := 63) C dX10_through_54 (by decide) ?_
          exact q_iret C hk dX10_through_63 ⟨rfl, h⟩
      · replace h := h.2 c20
        refine q_bipush (v := (-5)) C dX10_through_37 (by decide) ?_
        refine q_goto (tgt := 63) C dX10_through_39 (by decide) ?_
        exact q_iret C hk dX10_through_63 ⟨rfl, h⟩
    · replace h := h.2 c15
      refine q_iconst (v := (-1)) C dX10_through_28 (by decide) ?_
      exact q_iret C hk dX10_through_29 ⟨rfl, h⟩
theorem sp_X10_through {d : Nat} {sh : List qSh} {K : Option Value → qMI → qML → qMP → Prop} {a0 : Nat} {x1 : Int32} {x2 : Int32} {I : qMI} {L : qML} {P : qMP} (h0 : vc_X10_through_0 d sh K a0 x1 x2 I L P) : Sq (d + 1) mX10_through sh [.ref a0, .int x1, .int x2] I L P K := by
  refine Sq_of (by decide +kernel) (Nat.le_of_ble_eq_true rfl) (fun X C hk hn => ?_)
  exact rg_X10_through_0 C hk h0
/-! BracketDrawsModel.met(II)I -/
def vc_X10_met_0 (d : Nat) (sh : List qSh) (K : Option Value → qMI → qML → qMP → Prop) (a0 : Nat) (x1 : Int32) (x2 : Int32) (I : qMI) (L : qML) (P : qMP) : Prop :=
  ((shp sh a0).1 = 10) ∧ (Sq d mX10_isPlayer sh [.ref a0, .int x1] I L P (KI fun r2 I3 L4 P5 => ((r2 = 0) → (K (some (.int ((-1)))) I3 L4 P5)) ∧ ((¬ r2 = 0) → (Sq d mX10_isRound sh [.ref a0, .int x2] I3 L4 P5 (KI fun r7 I8 L9 P10 => ((¬ r7 = 0) → (Sq d mX10_hasDraw sh [.ref a0] I8 L9 P10 (KI fun r12 I13 L14 P15 => ((¬ r12 = 0) → (((shp sh (P15 a0 0)).1 = 20) ∧ ((vp_in 4 (shp sh (P15 a0 0)).2) ∧ ((((I13 (P15 a0 0) (Int32.toNatClampNeg 4)) < x2) → (K (some (.int ((-2)))) I13 L14 P15)) ∧ ((¬ (I13 (P15 a0 0) (Int32.toNatClampNeg 4)) < x2) → (Sq d mX10_isThrough sh [.ref a0, .int x1, .int (x2 - 1)] I13 L14 P15 (KI fun r20 I21 L22 P23 => ((¬ r20 = 0) → (Sq d mX10_slotOf sh [.ref a0, .int x1] I21 L22 P23 (KI fun r25 I26 L27 P28 => Sq d mX10_cameTo sh [.ref a0, .int (x2 - 1), .int ((r25 >>> ((x2 - 1) &&& 31)) ^^^ 1)] I26 L27 P28 (KI fun r29 I30 L31 P32 => K (some (.int r29)) I30 L31 P32)))) ∧ ((r20 = 0) → (K (some (.int ((-2)))) I21 L22 P23))))))))) ∧ ((r12 = 0) → (K (some (.int ((-5)))) I13 L14 P15))))) ∧ ((r7 = 0) → (K (some (.int ((-1)))) I8 L9 P10)))))))
set_option maxRecDepth 100000 in
set_option maxHeartbeats 4000000 in
theorem rg_X10_met_0 {X : qCT} {d : Nat} {sh : List qSh} {K : Option Value → qMI → qML → qMP → Prop} {a0 : Nat} {x1 : Int32} {x2 : Int32} {I : qMI} {L : qML} {P : qMP} (C : qCB X RX10 cX10_met 3 (d + 1) 0 0) (hk : qCK X (some .int) 0 0 (fun v sh' I' L' P' => sh' = sh ∧ K v I' L' P')) (h : vc_X10_met_0 d sh K a0 x1 x2 I L P) : qG X 0 [some (.ref a0), some (.int x1), some (.int x2)] [] sh I L P 0 0 := by
  unfold vc_X10_met_0 at h
  refine q_aload_n C dX10_met_0 rfl ?_
  refine q_iload_n C dX10_met_1 rfl ?_
  have s1 := h.1
  replace h := h.2
  refine q_cVi (as := [.int x1]) (st := []) (r := a0) C mv_X10_isPlayer ml_RX10_114 dX10_met_2 rfl s1 rfl (Nat.le_of_ble_eq_true rfl) ⟨Nat.le_refl _, Nat.le_refl _⟩ h (fun r2 I3 L4 P5 h => ?_)
  refine q_if_eq (tgt := 16) C dX10_met_5 (by decide) (fun c6 => ?_) (fun c6 => ?_)
  · replace h := h.1 c6
    refine q_iconst (v := (-1)) C dX10_met_16 (by decide) ?_
    exact q_iret C hk dX10_met_17 ⟨rfl, h⟩
  · replace h := h.2 c6
    refine q_aload_n C dX10_met_8 rfl ?_
    refine q_iload_n C dX10_met_9 rfl ?_
    refine q_cVi (as := [.int x2]) (st := []) (r := a0) C mv_X10_isRound ml_RX10_228 dX10_met_10 rfl s1 rfl (Nat.le_of_ble_eq_true rfl) ⟨Nat.le_refl _, Nat.le_refl _⟩ h (fun r7 I8 L9 P10 h => ?_)
    refine q_if_ne (tgt := 18) C dX10_met_13 (by decide) (fun c11 => ?_) (fun c11 => ?_)
    · replace h := h.1 c11
      refine q_aload_n C dX10_met_18 rfl ?_
      refine q_cVi (as := []) (st := []) (r := a0) C mv_X10_hasDraw ml_RX10_257 dX10_met_19 rfl s1 rfl (Nat.le_of_ble_eq_true rfl) ⟨Nat.le_refl _, Nat.le_refl _⟩ h (fun r12 I13 L14 P15 h => ?_)
      refine q_if_ne (tgt := 28) C dX10_met_22 (by decide) (fun c16 => ?_) (fun c16 => ?_)
      · replace h := h.1 c16
        refine q_iload_n C dX10_met_28 rfl ?_
        refine q_aload_n C dX10_met_29 rfl ?_
        refine q_getP C fl_RX10_9 rfl s1 dX10_met_30 ?_
        refine q_iconst (v := 4) C dX10_met_33 (by decide) ?_
        have s17 := h.1
        replace h := h.2
        have s18 := h.1
        replace h := h.2
        refine q_iald C s17 s18 dX10_met_34 ?_
        refine q_icmp_gt (tgt := 49) C dX10_met_35 (by decide) (fun c19 => ?_) (fun c19 => ?_)
        · replace h := h.1 c19
          refine q_bipush (v := (-2)) C dX10_met_49 (by decide) ?_
          refine q_goto (tgt := 72) C dX10_met_51 (by decide) ?_
          exact q_iret C hk dX10_met_72 ⟨rfl, h⟩
        · replace h := h.2 c19
          refine q_aload_n C dX10_met_38 rfl ?_
          refine q_iload_n C dX10_met_39 rfl ?_
          refine q_iload_n C dX10_met_40 rfl ?_
          refine q_iconst (v := 1) C dX10_met_41 (by decide) ?_
          refine q_isub C dX10_met_42 ?_
          refine q_cVi (as := [.int x1, .int (x2 - 1)]) (st := []) (r := a0) C mv_X10_isThrough ml_RX10_284 dX10_met_43 rfl s1 rfl (Nat.le_of_ble_eq_true rfl) ⟨Nat.le_refl _, Nat.le_refl _⟩ h (fun r20 I21 L22 P23 h => ?_)
          refine q_if_ne (tgt := 54) C dX10_met_46 (by decide) (fun c24 => ?_) (fun c24 => ?_)
          · replace h := h.1 c24
            refine q_aload_n C dX10_met_54 rfl ?_
            refine q_iload_n C dX10_met_55 rfl ?_
            refine q_iconst (v := 1) C dX10_met_56 (by decide) ?_
            refine q_isub C dX10_met_57 ?_
            refine q_aload_n C dX10_met_58 rfl ?_
            refine q_iload_n C dX10_met_59 rfl ?_
            refine q_cVi (as := [.int x1]) (st := [.int (x2 - 1), .ref a0]) (r := a0) C mv_X10_slotOf ml_RX10_260 dX10_met_60 rfl s1 rfl (Nat.le_of_ble_eq_true rfl) ⟨Nat.le_refl _, Nat.le_refl _⟩ h (fun r25 I26 L27 P28 h => ?_)
            refine q_iload_n C dX10_met_63 rfl ?_
            refine q_iconst (v := 1) C dX10_met_64 (by decide) ?_
            refine q_isub C dX10_met_65 ?_
            refine q_ishr C dX10_met_66 ?_
            refine q_iconst (v := 1) C dX10_met_67 (by decide) ?_
            refine q_ixor C dX10_met_68 ?_
            refine q_cVi (as := [.int (x2 - 1), .int ((r25 >>> ((x2 - 1) &&& 31)) ^^^ 1)]) (st := []) (r := a0) C mv_X10_cameTo ml_RX10_272 dX10_met_69 rfl s1 rfl (Nat.le_of_ble_eq_true rfl) ⟨Nat.le_refl _, Nat.le_refl _⟩ h (fun r29 I30 L31 P32 h => ?_)
            exact q_iret C hk dX10_met_72 ⟨rfl, h⟩
          · replace h := h.2 c24
            refine q_bipush (v := (-2)) C dX10_met_49 (by decide) ?_
            refine q_goto (tgt := 72) C dX10_met_51 (by decide) ?_
            exact q_iret C hk dX10_met_72 ⟨rfl, h⟩
      · replace h := h.2 c16
        refine q_bipush (v := (-5)) C dX10_met_25 (by decide) ?_
        exact q_iret C hk dX10_met_27 ⟨rfl, h⟩
    · replace h := h.2 c11
      refine q_iconst (v := (-1)) C dX10_met_16 (by decide) ?_
      exact q_iret C hk dX10_met_17 ⟨rfl, h⟩
theorem sp_X10_met {d : Nat} {sh : List qSh} {K : Option Value → qMI → qML → qMP → Prop} {a0 : Nat} {x1 : Int32} {x2 : Int32} {I : qMI} {L : qML} {P : qMP} (h0 : vc_X10_met_0 d sh K a0 x1 x2 I L P) : Sq (d + 1) mX10_met sh [.ref a0, .int x1, .int x2] I L P K := by
  refine Sq_of (by decide +kernel) (Nat.le_of_ble_eq_true rfl) (fun X C hk hn => ?_)
  exact rg_X10_met_0 C hk h0
/-! BracketDrawsModel.winner()I -/
def vc_X10_winner_0 (d : Nat) (sh : List qSh) (K : Option Value → qMI → qML → qMP → Prop) (T1 : qMI → qML → qMP → Prop) (a0 : Nat) (I : qMI) (L : qML) (P : qMP) : Prop :=
  ((shp sh a0).1 = 10) ∧ (Sq d mX10_hasDraw sh [.ref a0] I L P (KI fun r2 I3 L4 P5 => ((¬ r2 = 0) → (Sq d mX10_copies sh [.ref (P5 a0 0), .int 0, .ref (P5 a0 27), .int 0] I3 L4 P5 (KV fun I7 L8 P9 => T1  I7 L8 P9))) ∧ ((r2 = 0) → (K (some (.int ((-5)))) I3 L4 P5))))
set_option maxRecDepth 100000 in
set_option maxHeartbeats 4000000 in
theorem rg_X10_winner_0 {X : qCT} {d : Nat} {sh : List qSh} {K : Option Value → qMI → qML → qMP → Prop} {T1 : qMI → qML → qMP → Prop} {a0 : Nat} {I : qMI} {L : qML} {P : qMP} (C : qCB X RX10 cX10_winner 2 (d + 1) 0 0) (hk : qCK X (some .int) 0 0 (fun v sh' I' L' P' => sh' = sh ∧ K v I' L' P')) (hT1 : ∀  (I : qMI) (L : qML) (P : qMP), T1  I L P → qG X 23 [some (.ref a0), none] [] sh I L P 0 0) (h : vc_X10_winner_0 d sh K T1 a0 I L P) : qG X 0 [some (.ref a0), none] [] sh I L P 0 0 := by
  unfold vc_X10_winner_0 at h
  refine q_aload_n C dX10_winner_0 rfl ?_
  have s1 := h.1
  replace h := h.2
  refine q_cVi (as := []) (st := []) (r := a0) C mv_X10_hasDraw ml_RX10_257 dX10_winner_1 rfl s1 rfl (Nat.le_of_ble_eq_true rfl) ⟨Nat.le_refl _, Nat.le_refl _⟩ h (fun r2 I3 L4 P5 h => ?_)
  refine q_if_ne (tgt := 10) C dX10_winner_4 (by decide) (fun c6 => ?_) (fun c6 => ?_)
  · replace h := h.1 c6
    refine q_aload_n C dX10_winner_10 rfl ?_
    refine q_getP C fl_RX10_9 rfl s1 dX10_winner_11 ?_
    refine q_iconst (v := 0) C dX10_winner_14 (by decide) ?_
    refine q_aload_n C dX10_winner_15 rfl ?_
    refine q_getP C fl_RX10_60 rfl s1 dX10_winner_16 ?_
    refine q_iconst (v := 0) C dX10_winner_19 (by decide) ?_
    refine q_cSv (as := [.ref (P5 a0 0), .int 0, .ref (P5 a0 27), .int 0]) (st := []) C ms_X10_copies ml_RX10_85 dX10_winner_20 rfl rfl (Nat.le_of_ble_eq_true rfl) ⟨Nat.le_refl _, Nat.le_refl _⟩ h (fun I7 L8 P9 h => ?_)
    exact hT1 _ _ _ h
  · replace h := h.2 c6
    refine q_bipush (v := (-5)) C dX10_winner_7 (by decide) ?_
    exact q_iret C hk dX10_winner_9 ⟨rfl, h⟩
def vc_X10_winner_1 (d : Nat) (sh : List qSh) (K : Option Value → qMI → qML → qMP → Prop) (T1 : qMI → qML → qMP → Prop) (a0 : Nat) (I : qMI) (L : qML) (P : qMP) : Prop :=
  ((shp sh a0).1 = 10) ∧ (((shp sh (P a0 0)).1 = 20) ∧ ((vp_in 4 (shp sh (P a0 0)).2) ∧ (Sq d mX10_lastRound sh [.ref a0] I L P (KI fun r4 I5 L6 P7 => ((r4 ≤ (I (P a0 0) (Int32.toNatClampNeg 4))) → (Sq d mX10_lastRound sh [.ref a0] I5 L6 P7 (KI fun r9 I10 L11 P12 => Sq d mX10_cameTo sh [.ref a0, .int r9, .int 0] I10 L11 P12 (KI fun r13 I14 L15 P16 => Sq d mX10_copies sh [.ref (P16 a0 27), .int 0, .ref (P16 a0 0), .int 0] I14 L15 P16 (KV fun I17 L18 P19 => K (some (.int r13)) I17 L18 P19))))) ∧ ((¬ r4 ≤ (I (P a0 0) (Int32.toNatClampNeg 4))) → (Sq d mX10_plays sh [.ref a0] I5 L6 P7 (KV fun I20 L21 P22 => T1  I20 L21 P22)))))))
set_option maxRecDepth 100000 in
set_option maxHeartbeats 4000000 in
theorem rg_X10_winner_1 {X : qCT} {d : Nat} {sh : List qSh} {K : Option Value → qMI → qML → qMP → Prop} {T1 : qMI → qML → qMP → Prop} {a0 : Nat} {I : qMI} {L : qML} {P : qMP} (C : qCB X RX10 cX10_winner 2 (d + 1) 0 0) (hk : qCK X (some .int) 0 0 (fun v sh' I' L' P' => sh' = sh ∧ K v I' L' P')) (hT1 : ∀  (I : qMI) (L : qML) (P : qMP), T1  I L P → qG X 23 [some (.ref a0), none] [] sh I L P 0 0) (h : vc_X10_winner_1 d sh K T1 a0 I L P) : qG X 23 [some (.ref a0), none] [] sh I L P 0 0 := by
  unfold vc_X10_winner_1 at h
  refine q_aload_n C dX10_winner_23 rfl ?_
  have s1 := h.1
  replace h := h.2
  refine q_getP C fl_RX10_9 rfl s1 dX10_winner_24 ?_
  refine q_iconst (v := 4) C dX10_winner_27 (by decide) ?_
  have s2 := h.1
  replace h := h.2
  have s3 := h.1
  replace h := h.2
  refine q_iald C s2 s3 dX10_winner_28 ?_
  refine q_aload_n C dX10_winner_29 rfl ?_
  refine q_cVi (as := []) (st := [.int (I (P a0 0) (Int32.toNatClampNeg 4))]) (r := a0) C mv_X10_lastRound ml_RX10_71 dX10_winner_30 rfl s1 rfl (Nat.le_of_ble_eq_true rfl) ⟨Nat.le_refl _, Nat.le_refl _⟩ h (fun r4 I5 L6 P7 h => ?_)
  refine q_icmp_ge (tgt := 43) C dX10_winner_33 (by decide) (fun c8 => ?_) (fun c8 => ?_)
  · replace h := h.1 c8
    refine q_aload_n C dX10_winner_43 rfl ?_
    refine q_aload_n C dX10_winner_44 rfl ?_
    refine q_cVi (as := []) (st := [.ref a0]) (r := a0) C mv_X10_lastRound ml_RX10_71 dX10_winner_45 rfl s1 rfl (Nat.le_of_ble_eq_true rfl) ⟨Nat.le_refl _, Nat.le_refl _⟩ h (fun r9 I10 L11 P12 h => ?_)
    refine q_iconst (v := 0) C dX10_winner_48 (by decide) ?_
    refine q_cVi (as := [.int r9, .int 0]) (st := []) (r := a0) C mv_X10_cameTo ml_RX10_272 dX10_winner_49 rfl s1 rfl (Nat.le_of_ble_eq_true rfl) ⟨Nat.le_refl _, Nat.le_refl _⟩ h (fun r13 I14 L15 P16 h => ?_)
    refine q_istore_n (lo1 := [some (.ref a0), some (.int r13)]) C dX10_winner_52 (by decide) rfl ?_
    refine q_aload_n C dX10_winner_53 rfl ?_
    refine q_getP C fl_RX10_60 rfl s1 dX10_winner_54 ?_
    refine q_iconst (v := 0) C dX10_winner_57 (by decide) ?_
    refine q_aload_n C dX10_winner_58 rfl ?_
    refine q_getP C fl_RX10_9 rfl s1 dX10_winner_59 ?_
    refine q_iconst (v := 0) C dX10_winner_62 (by decide) ?_
    refine q_cSv (as := [.ref (P16 a0 27), .int 0, .ref (P16 a0 0), .int 0]) (st := []) C ms_X10_copies ml_RX10_85 dX10_winner_63 rfl rfl (Nat.le_of_ble_eq_true rfl) ⟨Nat.le_refl _, Nat.le_refl _⟩ h (fun I17 L18 P19 h => ?_)
    refine q_iload_n C dX10_winner_66 rfl ?_
    exact q_iret C hk dX10_winner_67 ⟨rfl, h⟩
  · replace h := h.2 c8
    refine q_aload_n C dX10_winner_36 rfl ?_
    refine q_cVv (as := []) (st := []) (r := a0) C mv_X10_plays ml_RX10_281 dX10_winner_37 rfl s1 rfl (Nat.le_of_ble_eq_true rfl) ⟨Nat.le_refl _, Nat.le_refl _⟩ h (fun I20 L21 P22 h => ?_)
    refine q_goto (tgt := 23) C dX10_winner_40 (by decide) ?_
    exact hT1 _ _ _ h
theorem sp_X10_winner {d : Nat} {sh : List qSh} {K : Option Value → qMI → qML → qMP → Prop} {a0 : Nat} {I : qMI} {L : qML} {P : qMP} (T1 : qMI → qML → qMP → Prop) (m1 : qMI → qML → qMP → Nat) (h0 : vc_X10_winner_0 d sh K T1 a0 I L P)
    (h1 : ∀  (I : qMI) (L : qML) (P : qMP), T1  I L P → vc_X10_winner_1 d sh K (fun  I' L' P' => T1  I' L' P' ∧ m1  I' L' P' < m1  I L P) a0 I L P) : Sq (d + 1) mX10_winner sh [.ref a0] I L P K := by
  refine Sq_of (by decide +kernel) (Nat.le_of_ble_eq_true rfl) (fun X C hk hn => ?_)
  have go : ∀ N : Nat, (∀  (I : qMI) (L : qML) (P : qMP), T1  I L P → m1  I L P < N → qG X 23 [some (.ref a0), none] [] sh I L P 0 0) := by
    intro N
    induction N with
    | zero => exact fun  _ _ _ _ q => absurd q (Nat.not_lt_zero _)
    | succ N ih =>
      exact fun  I1 L1 P1 t q => rg_X10_winner_1 C hk (fun  I2 L2 P2 z => ih  I2 L2 P2 z.1 (Nat.lt_of_lt_of_le z.2 (Nat.le_of_lt_succ q))) (h1  I1 L1 P1 t)
  exact rg_X10_winner_0 C hk (fun  I1 L1 P1 t => (go (m1  I1 L1 P1 + 1))  I1 L1 P1 t (Nat.lt_succ_self _)) h0
/-! BracketDrawsModel.wins(I)J -/
def vc_X10_wins_0 (d : Nat) (sh : List qSh) (K : Option Value → qMI → qML → qMP → Prop) (T1 : Int32 → Int32 → qMI → qML → qMP → Prop) (a0 : Nat) (x1 : Int32) (I : qMI) (L : qML) (P : qMP) : Prop :=
  ((shp sh a0).1 = 10) ∧ (Sq d mX10_isPlayer sh [.ref a0, .int x1] I L P (KI fun r2 I3 L4 P5 => ((¬ r2 = 0) → (Sq d mX10_areFew sh [.ref a0] I3 L4 P5 (KI fun r7 I8 L9 P10 => ((¬ r7 = 0) → (K (some (.long ((-5)))) I8 L9 P10)) ∧ ((r7 = 0) → (((shp sh (P10 a0 0)).1 = 20) ∧ ((vp_in 0 (shp sh (P10 a0 0)).2) ∧ ((((I8 (P10 a0 0) (Int32.toNatClampNeg 0)) ≤ 8) → (T1 1 0 I8 L9 P10)) ∧ ((¬ (I8 (P10 a0 0) (Int32.toNatClampNeg 0)) ≤ 8) → (K (some (.long ((-5)))) I8 L9 P10))))))))) ∧ ((r2 = 0) → (K (some (.long ((-1)))) I3 L4 P5))))
set_option maxRecDepth 100000 in
set_option maxHeartbeats 4000000 in
theorem rg_X10_wins_0 {X : qCT} {d : Nat} {sh : List qSh} {K : Option Value → qMI → qML → qMP → Prop} {T1 : Int32 → Int32 → qMI → qML → qMP → Prop} {a0 : Nat} {x1 : Int32} {I : qMI} {L : qML} {P : qMP} (C : qCB X RX10 cX10_wins 4 (d + 1) 0 0) (hk : qCK X (some .long) 0 0 (fun v sh' I' L' P' => sh' = sh ∧ K v I' L' P')) (hT1 : ∀ (x2 : Int32) (x3 : Int32) (I : qMI) (L : qML) (P : qMP), T1 x2 x3 I L P → qG X 38 [some (.ref a0), some (.int x1), some (.int x2), some (.int x3)] [] sh I L P 0 0) (h : vc_X10_wins_0 d sh K T1 a0 x1 I L P) : qG X 0 [some (.ref a0), some (.int x1), none, none] [] sh I L P 0 0 := by
  unfold vc_X10_wins_0 at h
  refine q_aload_n C dX10_wins_0 rfl ?_
  refine q_iload_n C dX10_wins_1 rfl ?_
  have s1 := h.1
  replace h := h.2
  refine q_cVi (as := [.int x1]) (st := []) (r := a0) C mv_X10_isPlayer ml_RX10_114 dX10_wins_2 rfl s1 rfl (Nat.le_of_ble_eq_true rfl) ⟨Nat.le_refl _, Nat.le_refl _⟩ h (fun r2 I3 L4 P5 h => ?_)
  refine q_if_ne (tgt := 12) C dX10_wins_5 (by decide) (fun c6 => ?_) (fun c6 => ?_)
  · replace h := h.1 c6
    refine q_aload_n C dX10_wins_12 rfl ?_
    refine q_cVi (as := []) (st := []) (r := a0) C mv_X10_areFew ml_RX10_214 dX10_wins_13 rfl s1 rfl (Nat.le_of_ble_eq_true rfl) ⟨Nat.le_refl _, Nat.le_refl _⟩ h (fun r7 I8 L9 P10 h => ?_)
    refine q_if_ne (tgt := 30) C dX10_wins_16 (by decide) (fun c11 => ?_) (fun c11 => ?_)
    · replace h := h.1 c11
      refine q_ldc2 C kl_RX10_217 dX10_wins_30 ?_
      exact q_lret C hk dX10_wins_33 ⟨rfl, h⟩
    · replace h := h.2 c11
      refine q_aload_n C dX10_wins_19 rfl ?_
      refine q_getP C fl_RX10_9 rfl s1 dX10_wins_20 ?_
      refine q_iconst (v := 0) C dX10_wins_23 (by decide) ?_
      have s12 := h.1
      replace h := h.2
      have s13 := h.1
      replace h := h.2
      refine q_iald C s12 s13 dX10_wins_24 ?_
      refine q_bipush (v := 8) C dX10_wins_25 (by decide) ?_
      refine q_icmp_le (tgt := 34) C dX10_wins_27 (by decide) (fun c14 => ?_) (fun c14 => ?_)
      · replace h := h.1 c14
        refine q_iconst (v := 1) C dX10_wins_34 (by decide) ?_
        refine q_istore_n (lo1 := [some (.ref a0), some (.int x1), some (.int 1), none]) C dX10_wins_35 (by decide) rfl ?_
        refine q_iconst (v := 0) C dX10_wins_36 (by decide) ?_
        refine q_istore_n (lo1 := [some (.ref a0), some (.int x1), some (.int 1), some (.int 0)]) C dX10_wins_37 (by decide) rfl ?_
        exact hT1 _ _ _ _ _ h
      · replace h := h.2 c14
        refine q_ldc2 C kl_RX10_217 dX10_wins_30 ?_
        exact q_lret C hk dX10_wins_33 ⟨rfl, h⟩
  · replace h := h.2 c6
    refine q_ldc2 C kl_RX10_226 dX10_wins_8 ?_
    exact q_lret C hk dX10_wins_11 ⟨rfl, h⟩
def vc_X10_wins_1 (d : Nat) (sh : List qSh) (K : Option Value → qMI → qML → qMP → Prop) (T1 : Int32 → Int32 → qMI → qML → qMP → Prop) (a0 : Nat) (x1 : Int32) (x2 : Int32) (x3 : Int32) (I : qMI) (L : qML) (P : qMP) : Prop :=
  ((shp sh a0).1 = 10) ∧ (((shp sh (P a0 0)).1 = 20) ∧ ((vp_in 0 (shp sh (P a0 0)).2) ∧ ((((I (P a0 0) (Int32.toNatClampNeg 0)) ≤ x3) → (((x2 = 0) → (K (some (.long 0)) I L P)) ∧ ((¬ x2 = 0) → (Sq d mX10_all sh [.ref a0] I L P (KL fun r6 I7 L8 P9 => K (some (.long r6)) I7 L8 P9))))) ∧ ((¬ (I (P a0 0) (Int32.toNatClampNeg 0)) ≤ x3) → (((x2 = 0) → (T1 0 (x3 + 1) I L P)) ∧ ((¬ x2 = 0) → (Sq d mX10_better sh [.ref a0, .int x1, .int x3] I L P (KI fun r11 I12 L13 P14 => ((¬ r11 = x1) → (T1 0 (x3 + 1) I12 L13 P14)) ∧ ((r11 = x1) → (T1 1 (x3 + 1) I12 L13 P14))))))))))
set_option maxRecDepth 100000 in
set_option maxHeartbeats 4000000 in
theorem rg_X10_wins_1 {X : qCT} {d : Nat} {sh : List qSh} {K : Option Value → qMI → qML → qMP → Prop} {T1 : Int32 → Int32 → qMI → qML → qMP → Prop} {a0 : Nat} {x1 : Int32} {x2 : Int32} {x3 : Int32} {I : qMI} {L : qML} {P : qMP} (C : qCB X RX10 cX10_wins 4 (d + 1) 0 0) (hk : qCK X (some .long) 0 0 (fun v sh' I' L' P' => sh' = sh ∧ K v I' L' P')) (hT1 : ∀ (x2 : Int32) (x3 : Int32) (I : qMI) (L : qML) (P : qMP), T1 x2 x3 I L P → qG X 38 [some (.ref a0), some (.int x1), some (.int x2), some (.int x3)] [] sh I L P 0 0) (h : vc_X10_wins_1 d sh K T1 a0 x1 x2 x3 I L P) : qG X 38 [some (.ref a0), some (.int x1), some (.int x2), some (.int x3)] [] sh I L P 0 0 := by
  unfold vc_X10_wins_1 at h
  refine q_iload_n C dX10_wins_38 rfl ?_
  refine q_aload_n C dX10_wins_39 rfl ?_
  have s1 := h.1
  replace h := h.2
  refine q_getP C fl_RX10_9 rfl s1 dX10_wins_40 ?_
  refine q_iconst (v := 0) C dX10_wins_43 (by decide) ?_
  have s2 := h.1
  replace h := h.2
  have s3 := h.1
  replace h := h.2
  refine q_iald C s2 s3 dX10_wins_44 ?_
  refine q_icmp_ge (tgt := 74) C dX10_wins_45 (by decide) (fun c4 => ?_) (fun c4 => ?_)
  · replace h := h.1 c4
    refine q_iload_n C dX10_wins_74 rfl ?_
    refine q_if_eq (tgt := 85) C dX10_wins_75 (by decide) (fun c5 => ?_) (fun c5 => ?_)
    · replace h := h.1 c5
      refine q_lconst (v := 0) C dX10_wins_85 (by decide) ?_
      exact q_lret C hk dX10_wins_86 ⟨rfl, h⟩
    · replace h := h.2 c5
      refine q_aload_n C dX10_wins_78 rfl ?_
      refine q_cVl (as := []) (st := []) (r := a0) C mv_X10_all ml_RX10_219 dX10_wins_79 rfl s1 rfl (Nat.le_of_ble_eq_true rfl) ⟨Nat.le_refl _, Nat.le_refl _⟩ h (fun r6 I7 L8 P9 h => ?_)
      refine q_goto (tgt := 86) C dX10_wins_82 (by decide) ?_
      exact q_lret C hk dX10_wins_86 ⟨rfl, h⟩
  · replace h := h.2 c4
    refine q_iload_n C dX10_wins_48 rfl ?_
    refine q_if_eq (tgt := 66) C dX10_wins_49 (by decide) (fun c10 => ?_) (fun c10 => ?_)
    · replace h := h.1 c10
      refine q_iconst (v := 0) C dX10_wins_66 (by decide) ?_
      refine q_istore_n (lo1 := [some (.ref a0), some (.int x1), some (.int 0), some (.int x3)]) C dX10_wins_67 (by decide) rfl ?_
      refine q_iinc (w := 1) (lo1 := [some (.ref a0), some (.int x1), some (.int 0), some (.int (x3 + 1))]) C dX10_wins_68 rfl (by decide) (by decide) rfl ?_
      refine q_goto (tgt := 38) C dX10_wins_71 (by decide) ?_
      exact hT1 _ _ _ _ _ h
    · replace h := h.2 c10
      refine q_aload_n C dX10_wins_52 rfl ?_
      refine q_iload_n C dX10_wins_53 rfl ?_
      refine q_iload_n C dX10_wins_54 rfl ?_
      refine q_cVi (as := [.int x1, .int x3]) (st := []) (r := a0) C mv_X10_better ml_RX10_275 dX10_wins_55 rfl s1 rfl (Nat.le_of_ble_eq_true rfl) ⟨Nat.le_refl _, Nat.le_refl _⟩ h (fun r11 I12 L13 P14 h => ?_)
      refine q_iload_n C dX10_wins_58 rfl ?_
      refine q_icmp_ne (tgt := 66) C dX10_wins_59 (by decide) (fun c15 => ?_) (fun c15 => ?_)
      · replace h := h.1 c15
        refine q_iconst (v := 0) C dX10_wins_66 (by decide) ?_
        refine q_istore_n (lo1 := [some (.ref a0), some (.int x1), some (.int 0), some (.int x3)]) C dX10_wins_67 (by decide) rfl ?_
        refine q_iinc (w := 1) (lo1 := [some (.ref a0), some (.int x1), some (.int 0), some (.int (x3 + 1))]) C dX10_wins_68 rfl (by decide) (by decide) rfl ?_
        refine q_goto (tgt := 38) C dX10_wins_71 (by decide) ?_
        exact hT1 _ _ _ _ _ h
      · replace h := h.2 c15
        refine q_iconst (v := 1) C dX10_wins_62 (by decide) ?_
        refine q_goto (tgt := 67) C dX10_wins_63 (by decide) ?_
        refine q_istore_n (lo1 := [some (.ref a0), some (.int x1), some (.int 1), some (.int x3)]) C dX10_wins_67 (by decide) rfl ?_
        refine q_iinc (w := 1) (lo1 := [some (.ref a0), some (.int x1), some (.int 1), some (.int (x3 + 1))]) C dX10_wins_68 rfl (by decide) (by decide) rfl ?_
        refine q_goto (tgt := 38) C dX10_wins_71 (by decide) ?_
        exact hT1 _ _ _ _ _ h
theorem sp_X10_wins {d : Nat} {sh : List qSh} {K : Option Value → qMI → qML → qMP → Prop} {a0 : Nat} {x1 : Int32} {I : qMI} {L : qML} {P : qMP} (T1 : Int32 → Int32 → qMI → qML → qMP → Prop) (m1 : Int32 → Int32 → qMI → qML → qMP → Nat) (h0 : vc_X10_wins_0 d sh K T1 a0 x1 I L P)
    (h1 : ∀ (x2 : Int32) (x3 : Int32) (I : qMI) (L : qML) (P : qMP), T1 x2 x3 I L P → vc_X10_wins_1 d sh K (fun w0 w1 I' L' P' => T1 w0 w1 I' L' P' ∧ m1 w0 w1 I' L' P' < m1 x2 x3 I L P) a0 x1 x2 x3 I L P) : Sq (d + 1) mX10_wins sh [.ref a0, .int x1] I L P K := by
  refine Sq_of (by decide +kernel) (Nat.le_of_ble_eq_true rfl) (fun X C hk hn => ?_)
  have go : ∀ N : Nat, (∀ (x2 : Int32) (x3 : Int32) (I : qMI) (L : qML) (P : qMP), T1 x2 x3 I L P → m1 x2 x3 I L P < N → qG X 38 [some (.ref a0), some (.int x1), some (.int x2), some (.int x3)] [] sh I L P 0 0) := by
    intro N
    induction N with
    | zero => exact fun _ _ _ _ _ _ q => absurd q (Nat.not_lt_zero _)
    | succ N ih =>
      exact fun b0 b1 I1 L1 P1 t q => rg_X10_wins_1 C hk (fun z0 z1 I2 L2 P2 z => ih z0 z1 I2 L2 P2 z.1 (Nat.lt_of_lt_of_le z.2 (Nat.le_of_lt_succ q))) (h1 b0 b1 I1 L1 P1 t)
  exact rg_X10_wins_0 C hk (fun b0 b1 I1 L1 P1 t => (go (m1 b0 b1 I1 L1 P1 + 1)) b0 b1 I1 L1 P1 t (Nat.lt_succ_self _)) h0
/-! BracketDrawsModel.letterOf(I)I -/
def vc_X10_letterOf_0 (d : Nat) (sh : List qSh) (K : Option Value → qMI → qML → qMP → Prop) (x0 : Int32) (I : qMI) (L : qML) (P : qMP) : Prop :=
  ((¬ x0 = 10) → (K (some (.int (48 + x0))) I L P)) ∧ ((x0 = 10) → (K (some (.int 45)) I L P))
set_option maxRecDepth 100000 in
set_option maxHeartbeats 4000000 in
theorem rg_X10_letterOf_0 {X : qCT} {d : Nat} {sh : List qSh} {K : Option Value → qMI → qML → qMP → Prop} {x0 : Int32} {I : qMI} {L : qML} {P : qMP} (C : qCB X RX10 cX10_letterOf 1 (d + 1) 0 0) (hk : qCK X (some .int) 0 0 (fun v sh' I' L' P' => sh' = sh ∧ K v I' L' P')) (h : vc_X10_letterOf_0 d sh K x0 I L P) : qG X 0 [some (.int x0)] [] sh I L P 0 0 := by
  unfold vc_X10_letterOf_0 at h
  refine q_iload_n C dX10_letterOf_0 rfl ?_
  refine q_bipush (v := 10) C dX10_letterOf_1 (by decide) ?_
  refine q_icmp_ne (tgt := 11) C dX10_letterOf_3 (by decide) (fun c1 => ?_) (fun c1 => ?_)
  · replace h := h.1 c1
    refine q_bipush (v := 48) C dX10_letterOf_11 (by decide) ?_
    refine q_iload_n C dX10_letterOf_13 rfl ?_
    refine q_iadd C dX10_letterOf_14 ?_
    exact q_iret C hk dX10_letterOf_15 ⟨rfl, h⟩
  · replace h := h.2 c1
    refine q_bipush (v := 45) C dX10_letterOf_6 (by decide) ?_
    refine q_goto (tgt := 15) C dX10_letterOf_8 (by decide) ?_
    exact q_iret C hk dX10_letterOf_15 ⟨rfl, h⟩
theorem sp_X10_letterOf {d : Nat} {sh : List qSh} {K : Option Value → qMI → qML → qMP → Prop} {x0 : Int32} {I : qMI} {L : qML} {P : qMP} (h0 : vc_X10_letterOf_0 d sh K x0 I L P) : Sq (d + 1) mX10_letterOf sh [.int x0] I L P K := by
  refine Sq_of (by decide +kernel) (Nat.le_of_ble_eq_true rfl) (fun X C hk hn => ?_)
  exact rg_X10_letterOf_0 C hk h0
/-! BracketDrawsModel.print(I)I -/
def vc_X10_print_0 (d : Nat) (sh : List qSh) (K : Option Value → qMI → qML → qMP → Prop) (a0 : Nat) (x1 : Int32) (I : qMI) (L : qML) (P : qMP) : Prop :=
  ((((-1)) ≤ x1) → (((shp sh a0).1 = 10) ∧ (Sq d mX10_hasDraw sh [.ref a0] I L P (KI fun r3 I4 L5 P6 => ((¬ r3 = 0) → (Sq d mX10_slots sh [.ref a0] I4 L5 P6 (KI fun r8 I9 L10 P11 => ((x1 < ((2 * r8) - 1)) → (((¬ x1 = ((-1))) → (((¬ (x1 - x1 / 2 * 2) = 0) → (((¬ (((x1 + 1) / 2) - ((x1 + 1) / 2) / 4 * 4) = 0) → (K (some (.int 32)) I9 L10 P11)) ∧ (((((x1 + 1) / 2) - ((x1 + 1) / 2) / 4 * 4) = 0) → (K (some (.int 124)) I9 L10 P11)))) ∧ (((x1 - x1 / 2 * 2) = 0) → (((shp sh (P11 a0 0)).1 = 20) ∧ ((vp_in (45 + (x1 / 2)) (shp sh (P11 a0 0)).2) ∧ (Sq d mX10_letterOf sh [.int (I9 (P11 a0 0) (Int32.toNatClampNeg (45 + (x1 / 2))))] I9 L10 P11 (KI fun r18 I19 L20 P21 => K (some (.int r18)) I19 L20 P21))))))) ∧ ((x1 = ((-1))) → (K (some (.int ((2 * r8) - 1))) I9 L10 P11)))) ∧ ((¬ x1 < ((2 * r8) - 1)) → (K (some (.int ((-2)))) I9 L10 P11))))) ∧ ((r3 = 0) → (K (some (.int ((-5)))) I4 L5 P6)))))) ∧ ((¬ ((-1)) ≤ x1) → (K (some (.int ((-1)))) I L P))
set_option maxRecDepth 100000 in
set_option maxHeartbeats 4000000 in
theorem rg_X10_print_0 {X : qCT} {d : Nat} {sh : List qSh} {K : Option Value → qMI → qML → qMP → Prop} {a0 : Nat} {x1 : Int32} {I : qMI} {L : qML} {P : qMP} (C : qCB X RX10 cX10_print 3 (d + 1) 0 0) (hk : qCK X (some .int) 0 0 (fun v sh' I' L' P' => sh' = sh ∧ K v I' L' P')) (h : vc_X10_print_0 d sh K a0 x1 I L P) : qG X 0 [some (.ref a0), some (.int x1), none] [] sh I L P 0 0 := by
  unfold vc_X10_print_0 at h
  refine q_iload_n C dX10_print_0 rfl ?_
  refine q_iconst (v := (-1)) C dX10_print_1 (by decide) ?_
  refine q_icmp_ge (tgt := 7) C dX10_print_2 (by decide) (fun c1 => ?_) (fun c1 => ?_)
  · replace h := h.1 c1
    refine q_aload_n C dX10_print_7 rfl ?_
    have s2 := h.1
    replace h := h.2
    refine q_cVi (as := []) (st := []) (r := a0) C mv_X10_hasDraw ml_RX10_257 dX10_print_8 rfl s2 rfl (Nat.le_of_ble_eq_true rfl) ⟨Nat.le_refl _, Nat.le_refl _⟩ h (fun r3 I4 L5 P6 h => ?_)
    refine q_if_ne (tgt := 17) C dX10_print_11 (by decide) (fun c7 => ?_) (fun c7 => ?_)
    · replace h := h.1 c7
      refine q_iconst (v := 2) C dX10_print_17 (by decide) ?_
      refine q_aload_n C dX10_print_18 rfl ?_
      refine q_cVi (as := []) (st := [.int 2]) (r := a0) C mv_X10_slots ml_RX10_67 dX10_print_19 rfl s2 rfl (Nat.le_of_ble_eq_true rfl) ⟨Nat.le_refl _, Nat.le_refl _⟩ h (fun r8 I9 L10 P11 h => ?_)
      refine q_imul C dX10_print_22 ?_
      refine q_iconst (v := 1) C dX10_print_23 (by decide) ?_
      refine q_isub C dX10_print_24 ?_
      refine q_istore_n (lo1 := [some (.ref a0), some (.int x1), some (.int ((2 * r8) - 1))]) C dX10_print_25 (by decide) rfl ?_
      refine q_iload_n C dX10_print_26 rfl ?_
      refine q_iload_n C dX10_print_27 rfl ?_
      refine q_icmp_lt (tgt := 34) C dX10_print_28 (by decide) (fun c12 => ?_) (fun c12 => ?_)
      · replace h := h.1 c12
        refine q_iload_n C dX10_print_34 rfl ?_
        refine q_iconst (v := (-1)) C dX10_print_35 (by decide) ?_
        refine q_icmp_ne (tgt := 43) C dX10_print_36 (by decide) (fun c13 => ?_) (fun c13 => ?_)
        · replace h := h.1 c13
          refine q_iload_n C dX10_print_43 rfl ?_
          refine q_iconst (v := 2) C dX10_print_44 (by decide) ?_
          refine q_irem C dX10_print_45 (by decide) ?_
          refine q_if_ne (tgt := 66) C dX10_print_46 (by decide) (fun c14 => ?_) (fun c14 => ?_)
          · replace h := h.1 c14
            refine q_iload_n C dX10_print_66 rfl ?_
            refine q_iconst (v := 1) C dX10_print_67 (by decide) ?_
            refine q_iadd C dX10_print_68 ?_
            refine q_iconst (v := 2) C dX10_print_69 (by decide) ?_
            refine q_idiv C dX10_print_70 (by decide) ?_
            refine q_iconst (v := 4) C dX10_print_71 (by decide) ?_
            refine q_irem C dX10_print_72 (by decide) ?_
            refine q_if_ne (tgt := 81) C dX10_print_73 (by decide) (fun c15 => ?_) (fun c15 => ?_)
            · replace h := h.1 c15
              refine q_bipush (v := 32) C dX10_print_81 (by decide) ?_
              exact q_iret C hk dX10_print_83 ⟨rfl, h⟩
            · replace h := h.2 c15
              refine q_bipush (v := 124) C dX10_print_76 (by decide) ?_
              refine q_goto (tgt := 83) C dX10_print_78 (by decide) ?_
              exact q_iret C hk dX10_print_83 ⟨rfl, h⟩
          · replace h := h.2 c14
            refine q_aload_n C dX10_print_49 rfl ?_
            refine q_getP C fl_RX10_9 rfl s2 dX10_print_50 ?_
            refine q_bipush (v := 45) C dX10_print_53 (by decide) ?_
            refine q_iload_n C dX10_print_55 rfl ?_
            refine q_iconst (v := 2) C dX10_print_56 (by decide) ?_
            refine q_idiv C dX10_print_57 (by decide) ?_
            refine q_iadd C dX10_print_58 ?_
            have s16 := h.1
            replace h := h.2
            have s17 := h.1
            replace h := h.2
            refine q_iald C s16 s17 dX10_print_59 ?_
            refine q_cSi (as := [.int (I9 (P11 a0 0) (Int32.toNatClampNeg (45 + (x1 / 2))))]) (st := []) C ms_X10_letterOf ml_RX10_287 dX10_print_60 rfl rfl (Nat.le_of_ble_eq_true rfl) ⟨Nat.le_refl _, Nat.le_refl _⟩ h (fun r18 I19 L20 P21 h => ?_)
            refine q_goto (tgt := 83) C dX10_print_63 (by decide) ?_
            exact q_iret C hk dX10_print_83 ⟨rfl, h⟩
        · replace h := h.2 c13
          refine q_iload_n C dX10_print_39 rfl ?_
          refine q_goto (tgt := 83) C dX10_print_40 (by decide) ?_
          exact q_iret C hk dX10_print_83 ⟨rfl, h⟩
      · replace h := h.2 c12
        refine q_bipush (v := (-2)) C dX10_print_31 (by decide) ?_
        exact q_iret C hk dX10_print_33 ⟨rfl, h⟩
    · replace h := h.2 c7
      refine q_bipush (v := (-5)) C dX10_print_14 (by decide) ?_
      exact q_iret C hk dX10_print_16 ⟨rfl, h⟩
  · replace h := h.2 c1
    refine q_iconst (v := (-1)) C dX10_print_5 (by decide) ?_
    exact q_iret C hk dX10_print_6 ⟨rfl, h⟩
theorem sp_X10_print {d : Nat} {sh : List qSh} {K : Option Value → qMI → qML → qMP → Prop} {a0 : Nat} {x1 : Int32} {I : qMI} {L : qML} {P : qMP} (h0 : vc_X10_print_0 d sh K a0 x1 I L P) : Sq (d + 1) mX10_print sh [.ref a0, .int x1] I L P K := by
  refine Sq_of (by decide +kernel) (Nat.le_of_ble_eq_true rfl) (fun X C hk hn => ?_)
  exact rg_X10_print_0 C hk h0
/-! BracketDrawsModel.brackets(I)I -/
def vc_X10_brackets_0 (d : Nat) (sh : List qSh) (K : Option Value → qMI → qML → qMP → Prop) (T1 : Int32 → Int32 → Int32 → qMI → qML → qMP → Prop) (T2 : Int32 → Int32 → Int32 → Int32 → Int32 → qMI → qML → qMP → Prop) (a0 : Nat) (x1 : Int32) (I : qMI) (L : qML) (P : qMP) : Prop :=
  ((((-1)) ≤ x1) → (((shp sh a0).1 = 10) ∧ (Sq d mX10_hasDraw sh [.ref a0] I L P (KI fun r3 I4 L5 P6 => ((¬ r3 = 0) → (T1 0 ((-2)) 1 I4 L5 P6)) ∧ ((r3 = 0) → (K (some (.int ((-5)))) I4 L5 P6)))))) ∧ ((¬ ((-1)) ≤ x1) → (K (some (.int ((-1)))) I L P))
set_option maxRecDepth 100000 in
set_option maxHeartbeats 4000000 in
theorem rg_X10_brackets_0 {X : qCT} {d : Nat} {sh : List qSh} {K : Option Value → qMI → qML → qMP → Prop} {T1 : Int32 → Int32 → Int32 → qMI → qML → qMP → Prop} {T2 : Int32 → Int32 → Int32 → Int32 → Int32 → qMI → qML → qMP → Prop} {a0 : Nat} {x1 : Int32} {I : qMI} {L : qML} {P : qMP} (C : qCB X RX10 cX10_brackets 7 (d + 1) 0 0) (hk : qCK X (some .int) 0 0 (fun v sh' I' L' P' => sh' = sh ∧ K v I' L' P')) (hT1 : ∀ (x2 : Int32) (x3 : Int32) (x4 : Int32) (I : qMI) (L : qML) (P : qMP), T1 x2 x3 x4 I L P → qG X 25 [some (.ref a0), some (.int x1), some (.int x2), some (.int x3), some (.int x4), none, none] [] sh I L P 0 0) (hT2 : ∀ (x2 : Int32) (x3 : Int32) (x4 : Int32) (x5 : Int32) (x6 : Int32) (I : qMI) (L : qML) (P : qMP), T2 x2 x3 x4 x5 x6 I L P → qG X 50 [some (.ref a0), some (.int x1), some (.int x2), some (.int x3), some (.int x4), some (.int x5), some (.int x6)] [] sh I L P 0 0) (h : vc_X10_brackets_0 d sh K T1 T2 a0 x1 I L P) : qG X 0 [some (.ref a0), some (.int x1), none, none, none, none, none] [] sh I L P 0 0 := by
  unfold vc_X10_brackets_0 at h
  refine q_iload_n C dX10_brackets_0 rfl ?_
  refine q_iconst (v := (-1)) C dX10_brackets_1 (by decide) ?_
  refine q_icmp_ge (tgt := 7) C dX10_brackets_2 (by decide) (fun c1 => ?_) (fun c1 => ?_)
  · replace h := h.1 c1
    refine q_aload_n C dX10_brackets_7 rfl ?_
    have s2 := h.1
    replace h := h.2
    refine q_cVi (as := []) (st := []) (r := a0) C mv_X10_hasDraw ml_RX10_257 dX10_brackets_8 rfl s2 rfl (Nat.le_of_ble_eq_true rfl) ⟨Nat.le_refl _, Nat.le_refl _⟩ h (fun r3 I4 L5 P6 h => ?_)
    refine q_if_ne (tgt := 17) C dX10_brackets_11 (by decide) (fun c7 => ?_) (fun c7 => ?_)
    · replace h := h.1 c7
      refine q_iconst (v := 0) C dX10_brackets_17 (by decide) ?_
      refine q_istore_n (lo1 := [some (.ref a0), some (.int x1), some (.int 0), none, none, none, none]) C dX10_brackets_18 (by decide) rfl ?_
      refine q_bipush (v := (-2)) C dX10_brackets_19 (by decide) ?_
      refine q_istore_n (lo1 := [some (.ref a0), some (.int x1), some (.int 0), some (.int ((-2))), none, none, none]) C dX10_brackets_21 (by decide) rfl ?_
      refine q_iconst (v := 1) C dX10_brackets_22 (by decide) ?_
      refine q_istore (lo1 := [some (.ref a0), some (.int x1), some (.int 0), some (.int ((-2))), some (.int 1), none, none]) C dX10_brackets_23 (by decide) rfl ?_
      exact hT1 _ _ _ _ _ _ h
    · replace h := h.2 c7
      refine q_bipush (v := (-5)) C dX10_brackets_14 (by decide) ?_
      exact q_iret C hk dX10_brackets_16 ⟨rfl, h⟩
  · replace h := h.2 c1
    refine q_iconst (v := (-1)) C dX10_brackets_5 (by decide) ?_
    exact q_iret C hk dX10_brackets_6 ⟨rfl, h⟩
def vc_X10_brackets_1 (d : Nat) (sh : List qSh) (K : Option Value → qMI → qML → qMP → Prop) (T1 : Int32 → Int32 → Int32 → qMI → qML → qMP → Prop) (T2 : Int32 → Int32 → Int32 → Int32 → Int32 → qMI → qML → qMP → Prop) (a0 : Nat) (x1 : Int32) (x2 : Int32) (x3 : Int32) (x4 : Int32) (I : qMI) (L : qML) (P : qMP) : Prop :=
  ((shp sh a0).1 = 10) ∧ (((shp sh (P a0 0)).1 = 20) ∧ ((vp_in 4 (shp sh (P a0 0)).2) ∧ ((((I (P a0 0) (Int32.toNatClampNeg 4)) < x4) → (((¬ x1 = ((-1))) → (K (some (.int x3)) I L P)) ∧ ((x1 = ((-1))) → (K (some (.int x2)) I L P)))) ∧ ((¬ (I (P a0 0) (Int32.toNatClampNeg 4)) < x4) → (Sq d mX10_lastRound sh [.ref a0] I L P (KI fun r6 I7 L8 P9 => T2 x2 x3 x4 ((1 : Int32) <<< ((r6 - x4) &&& 31)) 0 I7 L8 P9))))))
set_option maxRecDepth 100000 in
set_option maxHeartbeats 4000000 in
theorem rg_X10_brackets_1 {X : qCT} {d : Nat} {sh : List qSh} {K : Option Value → qMI → qML → qMP → Prop} {T1 : Int32 → Int32 → Int32 → qMI → qML → qMP → Prop} {T2 : Int32 → Int32 → Int32 → Int32 → Int32 → qMI → qML → qMP → Prop} {a0 : Nat} {x1 : Int32} {x2 : Int32} {x3 : Int32} {x4 : Int32} {I : qMI} {L : qML} {P : qMP} (C : qCB X RX10 cX10_brackets 7 (d + 1) 0 0) (hk : qCK X (some .int) 0 0 (fun v sh' I' L' P' => sh' = sh ∧ K v I' L' P')) (hT1 : ∀ (x2 : Int32) (x3 : Int32) (x4 : Int32) (I : qMI) (L : qML) (P : qMP), T1 x2 x3 x4 I L P → qG X 25 [some (.ref a0), some (.int x1), some (.int x2), some (.int x3), some (.int x4), none, none] [] sh I L P 0 0) (hT2 : ∀ (x2 : Int32) (x3 : Int32) (x4 : Int32) (x5 : Int32) (x6 : Int32) (I : qMI) (L : qML) (P : qMP), T2 x2 x3 x4 x5 x6 I L P → qG X 50 [some (.ref a0), some (.int x1), some (.int x2), some (.int x3), some (.int x4), some (.int x5), some (.int x6)] [] sh I L P 0 0) (h : vc_X10_brackets_1 d sh K T1 T2 a0 x1 x2 x3 x4 I L P) : qG X 25 [some (.ref a0), some (.int x1), some (.int x2), some (.int x3), some (.int x4), none, none] [] sh I L P 0 0 := by
  unfold vc_X10_brackets_1 at h
  refine q_iload C dX10_brackets_25 rfl ?_
  refine q_aload_n C dX10_brackets_27 rfl ?_
  have s1 := h.1
  replace h := h.2
  refine q_getP C fl_RX10_9 rfl s1 dX10_brackets_28 ?_
  refine q_iconst (v := 4) C dX10_brackets_31 (by decide) ?_
  have s2 := h.1
  replace h := h.2
  have s3 := h.1
  replace h := h.2
  refine q_iald C s2 s3 dX10_brackets_32 ?_
  refine q_icmp_gt (tgt := 119) C dX10_brackets_33 (by decide) (fun c4 => ?_) (fun c4 => ?_)
  · replace h := h.1 c4
    refine q_iload_n C dX10_brackets_119 rfl ?_
    refine q_iconst (v := (-1)) C dX10_brackets_120 (by decide) ?_
    refine q_icmp_ne (tgt := 128) C dX10_brackets_121 (by decide) (fun c5 => ?_) (fun c5 => ?_)
    · replace h := h.1 c5
      refine q_iload_n C dX10_brackets_128 rfl ?_
      exact q_iret C hk dX10_brackets_129 ⟨rfl, h⟩
    · replace h := h.2 c5
      refine q_iload_n C dX10_brackets_124 rfl ?_
      refine q_goto (tgt := 129) C dX10_brackets_125 (by decide) ?_
      exact q_iret C hk dX10_brackets_129 ⟨rfl, h⟩
  · replace h := h.2 c4
    refine q_iconst (v := 1) C dX10_brackets_36 (by decide) ?_
    refine q_aload_n C dX10_brackets_37 rfl ?_
    refine q_cVi (as := []) (st := [.int 1]) (r := a0) C mv_X10_lastRound ml_RX10_71 dX10_brackets_38 rfl s1 rfl (Nat.le_of_ble_eq_true rfl) ⟨Nat.le_refl _, Nat.le_refl _⟩ h (fun r6 I7 L8 P9 h => ?_)
    refine q_iload C dX10_brackets_41 rfl ?_
    refine q_isub C dX10_brackets_43 ?_
    refine q_ishl C dX10_brackets_44 ?_
    refine q_istore (lo1 := [some (.ref a0), some (.int x1), some (.int x2), some (.int x3), some (.int x4), some (.int ((1 : Int32) <<< ((r6 - x4) &&& 31))), none]) C dX10_brackets_45 (by decide) rfl ?_
    refine q_iconst (v := 0) C dX10_brackets_47 (by decide) ?_
    refine q_istore (lo1 := [some (.ref a0), some (.int x1), some (.int x2), some (.int x3), some (.int x4), some (.int ((1 : Int32) <<< ((r6 - x4) &&& 31))), some (.int 0)]) C dX10_brackets_48 (by decide) rfl ?_
    exact hT2 _ _ _ _ _ _ _ _ h
def vc_X10_brackets_2 (d : Nat) (sh : List qSh) (K : Option Value → qMI → qML → qMP → Prop) (T1 : Int32 → Int32 → Int32 → qMI → qML → qMP → Prop) (T2 : Int32 → Int32 → Int32 → Int32 → Int32 → qMI → qML → qMP → Prop) (a0 : Nat) (x1 : Int32) (x2 : Int32) (x3 : Int32) (x4 : Int32) (x5 : Int32) (x6 : Int32) (I : qMI) (L : qML) (P : qMP) : Prop :=
  ((x5 ≤ x6) → (T1 x2 x3 (x4 + 1) I L P)) ∧ ((¬ x5 ≤ x6) → (((¬ x2 = x1) → (((¬ (x2 + 1) = x1) → (T2 (x2 + 2) x3 x4 x5 (x6 + 1) I L P)) ∧ (((x2 + 1) = x1) → (((x5 ≤ (x6 + 1)) → (T2 (x2 + 2) 59 x4 x5 (x6 + 1) I L P)) ∧ ((¬ x5 ≤ (x6 + 1)) → (T2 (x2 + 2) 44 x4 x5 (x6 + 1) I L P)))))) ∧ ((x2 = x1) → (((shp sh a0).1 = 10) ∧ (Sq d mX10_cameTo sh [.ref a0, .int x4, .int x6] I L P (KI fun r6 I7 L8 P9 => Sq d mX10_letterOf sh [.int r6] I7 L8 P9 (KI fun r10 I11 L12 P13 => T2 (x2 + 2) r10 x4 x5 (x6 + 1) I11 L12 P13)))))))
set_option maxRecDepth 100000 in
set_option maxHeartbeats 4000000 in
theorem rg_X10_brackets_2 {X : qCT} {d : Nat} {sh : List qSh} {K : Option Value → qMI → qML → qMP → Prop} {T1 : Int32 → Int32 → Int32 → qMI → qML → qMP → Prop} {T2 : Int32 → Int32 → Int32 → Int32 → Int32 → qMI → qML → qMP → Prop} {a0 : Nat} {x1 : Int32} {x2 : Int32} {x3 : Int32} {x4 : Int32} {x5 : Int32} {x6 : Int32} {I : qMI} {L : qML} {P : qMP} (C : qCB X RX10 cX10_brackets 7 (d + 1) 0 0) (hk : qCK X (some .int) 0 0 (fun v sh' I' L' P' => sh' = sh ∧ K v I' L' P')) (hT1 : ∀ (x2 : Int32) (x3 : Int32) (x4 : Int32) (I : qMI) (L : qML) (P : qMP), T1 x2 x3 x4 I L P → qG X 25 [some (.ref a0), some (.int x1), some (.int x2), some (.int x3), some (.int x4), none, none] [] sh I L P 0 0) (hT2 : ∀ (x2 : Int32) (x3 : Int32) (x4 : Int32) (x5 : Int32) (x6 : Int32) (I : qMI) (L : qML) (P : qMP), T2 x2 x3 x4 x5 x6 I L P → qG X 50 [some (.ref a0), some (.int x1), some (.int x2), some (.int x3), some (.int x4), some (.int x5), some (.int x6)] [] sh I L P 0 0) (h : vc_X10_brackets_2 d sh K T1 T2 a0 x1 x2 x3 x4 x5 x6 I L P) : qG X 50 [some (.ref a0), some (.int x1), some (.int x2), some (.int x3), some (.int x4), some (.int x5), some (.int x6)] [] sh I L P 0 0 := by
  unfold vc_X10_brackets_2 at h
  refine q_iload C dX10_brackets_50 rfl ?_
  refine q_iload C dX10_brackets_52 rfl ?_
  refine q_icmp_ge (tgt := 113) C dX10_brackets_54 (by decide) (fun c1 => ?_) (fun c1 => ?_)
  · replace h := h.1 c1
    refine q_iinc (w := 1) (lo1 := [some (.ref a0), some (.int x1), some (.int x2), some (.int x3), some (.int (x4 + 1)), some (.int x5), some (.int x6)]) C dX10_brackets_113 rfl (by decide) (by decide) rfl ?_
    refine q_goto (tgt := 25) C dX10_brackets_116 (by decide) ?_
    refine q_kill 5 (lo1 := [some (.ref a0), some (.int x1), some (.int x2), some (.int x3), some (.int (x4 + 1)), none, some (.int x6)]) rfl ?_
    refine q_kill 6 (lo1 := [some (.ref a0), some (.int x1), some (.int x2), some (.int x3), some (.int (x4 + 1)), none, none]) rfl ?_
    exact hT1 _ _ _ _ _ _ h
  · replace h := h.2 c1
    refine q_iload_n C dX10_brackets_57 rfl ?_
    refine q_iload_n C dX10_brackets_58 rfl ?_
    refine q_icmp_ne (tgt := 76) C dX10_brackets_59 (by decide) (fun c2 => ?_) (fun c2 => ?_)
    · replace h := h.1 c2
      refine q_iload_n C dX10_brackets_76 rfl ?_
      refine q_iconst (v := 1) C dX10_brackets_77 (by decide) ?_
      refine q_iadd C dX10_brackets_78 ?_
      refine q_iload_n C dX10_brackets_79 rfl ?_
      refine q_icmp_ne (tgt := 102) C dX10_brackets_80 (by decide) (fun c3 => ?_) (fun c3 => ?_)
      · replace h := h.1 c3
        refine q_iload_n C dX10_brackets_102 rfl ?_
        refine q_istore_n (lo1 := [some (.ref a0), some (.int x1), some (.int x2), some (.int x3), some (.int x4), some (.int x5), some (.int x6)]) C dX10_brackets_103 (by decide) rfl ?_
        refine q_iinc (w := 2) (lo1 := [some (.ref a0), some (.int x1), some (.int (x2 + 2)), some (.int x3), some (.int x4), some (.int x5), some (.int x6)]) C dX10_brackets_104 rfl (by decide) (by decide) rfl ?_
        refine q_iinc (w := 1) (lo1 := [some (.ref a0), some (.int x1), some (.int (x2 + 2)), some (.int x3), some (.int x4), some (.int x5), some (.int (x6 + 1))]) C dX10_brackets_107 rfl (by decide) (by decide) rfl ?_
        refine q_goto (tgt := 50) C dX10_brackets_110 (by decide) ?_
        exact hT2 _ _ _ _ _ _ _ _ h
      · replace h := h.2 c3
        refine q_iload C dX10_brackets_83 rfl ?_
        refine q_iconst (v := 1) C dX10_brackets_85 (by decide) ?_
        refine q_iadd C dX10_brackets_86 ?_
        refine q_iload C dX10_brackets_87 rfl ?_
        refine q_icmp_ge (tgt := 97) C dX10_brackets_89 (by decide) (fun c4 => ?_) (fun c4 => ?_)
        · replace h := h.1 c4
          refine q_bipush (v := 59) C dX10_brackets_97 (by decide) ?_
          refine q_goto (tgt := 103) C dX10_brackets_99 (by decide) ?_
          refine q_istore_n (lo1 := [some (.ref a0), some (.int x1), some (.int x2), some (.int 59), some (.int x4), some (.int x5), some (.int x6)]) C dX10_brackets_103 (by decide) rfl ?_
          refine q_iinc (w := 2) (lo1 := [some (.ref a0), some (.int x1), some (.int (x2 + 2)), some (.int 59), some (.int x4), some (.int x5), some (.int x6)]) C dX10_brackets_104 rfl (by decide) (by decide) rfl ?_
          refine q_iinc (w := 1) (lo1 := [some (.ref a0), some (.int x1), some (.int (x2 + 2)), some (.int 59), some (.int x4), some (.int x5), some (.int (x6 + 1))]) C dX10_brackets_107 rfl (by decide) (by decide) rfl ?_
          refine q_goto (tgt := 50) C dX10_brackets_110 (by decide) ?_
          exact hT2 _ _ _ _ _ _ _ _ h
        · replace h := h.2 c4
          refine q_bipush (v := 44) C dX10_brackets_92 (by decide) ?_
          refine q_goto (tgt := 103) C dX10_brackets_94 (by decide) ?_
          refine q_istore_n (lo1 := [some (.ref a0), some (.int x1), some (.int x2), some (.int 44), some (.int x4), some (.int x5), some (.int x6)]) C dX10_brackets_103 (by decide) rfl ?_
          refine q_iinc (w := 2) (lo1 := [some (.ref a0), some (.int x1), some (.int (x2 + 2)), some (.int 44), some (.int x4), some (.int x5), some (.int x6)]) C dX10_brackets_104 rfl (by decide) (by decide) rfl ?_
          refine q_iinc (w := 1) (lo1 := [some (.ref a0), some (.int x1), some (.int (x2 + 2)), some (.int 44), some (.int x4), some (.int x5), some (.int (x6 + 1))]) C dX10_brackets_107 rfl (by decide) (by decide) rfl ?_
          refine q_goto (tgt := 50) C dX10_brackets_110 (by decide) ?_
          exact hT2 _ _ _ _ _ _ _ _ h
    · replace h := h.2 c2
      refine q_aload_n C dX10_brackets_62 rfl ?_
      refine q_iload C dX10_brackets_63 rfl ?_
      refine q_iload C dX10_brackets_65 rfl ?_
      have s5 := h.1
      replace h := h.2
      refine q_cVi (as := [.int x4, .int x6]) (st := []) (r := a0) C mv_X10_cameTo ml_RX10_272 dX10_brackets_67 rfl s5 rfl (Nat.le_of_ble_eq_true rfl) ⟨Nat.le_refl _, Nat.le_refl _⟩ h (fun r6 I7 L8 P9 h => ?_)
      refine q_cSi (as := [.int r6]) (st := []) C ms_X10_letterOf ml_RX10_287 dX10_brackets_70 rfl rfl (Nat.le_of_ble_eq_true rfl) ⟨Nat.le_refl _, Nat.le_refl _⟩ h (fun r10 I11 L12 P13 h => ?_)
      refine q_goto (tgt := 103) C dX10_brackets_73 (by decide) ?_
      refine q_istore_n (lo1 := [some (.ref a0), some (.int x1), some (.int x2), some (.int r10), some (.int x4), some (.int x5), some (.int x6)]) C dX10_brackets_103 (by decide) rfl ?_
      refine q_iinc (w := 2) (lo1 := [some (.ref a0), some (.int x1), some (.int (x2 + 2)), some (.int r10), some (.int x4), some (.int x5), some (.int x6)]) C dX10_brackets_104 rfl (by decide) (by decide) rfl ?_
      refine q_iinc (w := 1) (lo1 := [some (.ref a0), some (.int x1), some (.int (x2 + 2)), some (.int r10), some (.int x4), some (.int x5), some (.int (x6 + 1))]) C dX10_brackets_107 rfl (by decide) (by decide) rfl ?_
      refine q_goto (tgt := 50) C dX10_brackets_110 (by decide) ?_
      exact hT2 _ _ _ _ _ _ _ _ h
theorem sp_X10_brackets {d : Nat} {sh : List qSh} {K : Option Value → qMI → qML → qMP → Prop} {a0 : Nat} {x1 : Int32} {I : qMI} {L : qML} {P : qMP} (T1 : Int32 → Int32 → Int32 → qMI → qML → qMP → Prop) (m1 : Int32 → Int32 → Int32 → qMI → qML → qMP → Nat) (T2 : Int32 → Int32 → Int32 → Int32 → Int32 → qMI → qML → qMP → Prop) (m2 : Int32 → Int32 → Int32 → Int32 → Int32 → qMI → qML → qMP → Nat) (h0 : vc_X10_brackets_0 d sh K T1 T2 a0 x1 I L P)
    (h1 : ∀ (x2 : Int32) (x3 : Int32) (x4 : Int32) (I : qMI) (L : qML) (P : qMP), T1 x2 x3 x4 I L P → vc_X10_brackets_1 d sh K (fun w0 w1 w2 I' L' P' => T1 w0 w1 w2 I' L' P' ∧ m1 w0 w1 w2 I' L' P' < m1 x2 x3 x4 I L P) (fun w0 w1 w2 w3 w4 I' L' P' => T2 w0 w1 w2 w3 w4 I' L' P' ∧ m2 w0 w1 w2 w3 w4 I' L' P' < m1 x2 x3 x4 I L P) a0 x1 x2 x3 x4 I L P)
    (h2 : ∀ (x2 : Int32) (x3 : Int32) (x4 : Int32) (x5 : Int32) (x6 : Int32) (I : qMI) (L : qML) (P : qMP), T2 x2 x3 x4 x5 x6 I L P → vc_X10_brackets_2 d sh K (fun w0 w1 w2 I' L' P' => T1 w0 w1 w2 I' L' P' ∧ m1 w0 w1 w2 I' L' P' < m2 x2 x3 x4 x5 x6 I L P) (fun w0 w1 w2 w3 w4 I' L' P' => T2 w0 w1 w2 w3 w4 I' L' P' ∧ m2 w0 w1 w2 w3 w4 I' L' P' < m2 x2 x3 x4 x5 x6 I L P) a0 x1 x2 x3 x4 x5 x6 I L P) : Sq (d + 1) mX10_brackets sh [.ref a0, .int x1] I L P K := by
  refine Sq_of (by decide +kernel) (Nat.le_of_ble_eq_true rfl) (fun X C hk hn => ?_)
  have go : ∀ N : Nat, (∀ (x2 : Int32) (x3 : Int32) (x4 : Int32) (I : qMI) (L : qML) (P : qMP), T1 x2 x3 x4 I L P → m1 x2 x3 x4 I L P < N → qG X 25 [some (.ref a0), some (.int x1), some (.int x2), some (.int x3), some (.int x4), none, none] [] sh I L P 0 0) ∧ (∀ (x2 : Int32) (x3 : Int32) (x4 : Int32) (x5 : Int32) (x6 : Int32) (I : qMI) (L : qML) (P : qMP), T2 x2 x3 x4 x5 x6 I L P → m2 x2 x3 x4 x5 x6 I L P < N → qG X 50 [some (.ref a0), some (.int x1), some (.int x2), some (.int x3), some (.int x4), some (.int x5), some (.int x6)] [] sh I L P 0 0) := by
    intro N
    induction N with
    | zero => exact ⟨fun _ _ _ _ _ _ _ q => absurd q (Nat.not_lt_zero _), fun _ _ _ _ _ _ _ _ _ q => absurd q (Nat.not_lt_zero _)⟩
    | succ N ih =>
      exact ⟨fun b0 b1 b2 I1 L1 P1 t q => rg_X10_brackets_1 C hk (fun z0 z1 z2 I2 L2 P2 z => ih.1 z0 z1 z2 I2 L2 P2 z.1 (Nat.lt_of_lt_of_le z.2 (Nat.le_of_lt_succ q))) (fun z0 z1 z2 z3 z4 I2 L2 P2 z => ih.2 z0 z1 z2 z3 z4 I2 L2 P2 z.1 (Nat.lt_of_lt_of_le z.2 (Nat.le_of_lt_succ q))) (h1 b0 b1 b2 I1 L1 P1 t), fun b0 b1 b2 b3 b4 I1 L1 P1 t q => rg_X10_brackets_2 C hk (fun z0 z1 z2 I2 L2 P2 z => ih.1 z0 z1 z2 I2 L2 P2 z.1 (Nat.lt_of_lt_of_le z.2 (Nat.le_of_lt_succ q))) (fun z0 z1 z2 z3 z4 I2 L2 P2 z => ih.2 z0 z1 z2 z3 z4 I2 L2 P2 z.1 (Nat.lt_of_lt_of_le z.2 (Nat.le_of_lt_succ q))) (h2 b0 b1 b2 b3 b4 I1 L1 P1 t)⟩
  exact rg_X10_brackets_0 C hk (fun b0 b1 b2 I1 L1 P1 t => (go (m1 b0 b1 b2 I1 L1 P1 + 1)).1 b0 b1 b2 I1 L1 P1 t (Nat.lt_succ_self _)) (fun b0 b1 b2 b3 b4 I1 L1 P1 t => (go (m2 b0 b1 b2 b3 b4 I1 L1 P1 + 1)).2 b0 b1 b2 b3 b4 I1 L1 P1 t (Nat.lt_succ_self _)) h0
/-! BracketDrawsModel.count(I)I -/
def vc_X10_count_0 (d : Nat) (sh : List qSh) (K : Option Value → qMI → qML → qMP → Prop) (a0 : Nat) (x1 : Int32) (I : qMI) (L : qML) (P : qMP) : Prop :=
  ((x1 = 0) → (((shp sh a0).1 = 10) ∧ (((shp sh (P a0 0)).1 = 20) ∧ ((vp_in 0 (shp sh (P a0 0)).2) ∧ (K (some (.int (I (P a0 0) (Int32.toNatClampNeg 0)))) I L P))))) ∧ ((x1 = 1) → (((shp sh a0).1 = 10) ∧ (Sq d mX10_areFew sh [.ref a0] I L P (KI fun r5 I6 L7 P8 => ((r5 = 0) → (Sq d mX10_slots sh [.ref a0] I6 L7 P8 (KI fun r10 I11 L12 P13 => K (some (.int r10)) I11 L12 P13))) ∧ ((¬ r5 = 0) → (K (some (.int 0)) I6 L7 P8)))))) ∧ ((x1 = 2) → (((shp sh a0).1 = 10) ∧ (Sq d mX10_areFew sh [.ref a0] I L P (KI fun r15 I16 L17 P18 => ((r15 = 0) → (Sq d mX10_byes sh [.ref a0] I16 L17 P18 (KI fun r20 I21 L22 P23 => K (some (.int r20)) I21 L22 P23))) ∧ ((¬ r15 = 0) → (K (some (.int 0)) I16 L17 P18)))))) ∧ ((x1 = 3) → (((shp sh a0).1 = 10) ∧ (Sq d mX10_areFew sh [.ref a0] I L P (KI fun r25 I26 L27 P28 => ((r25 = 0) → (Sq d mX10_lastRound sh [.ref a0] I26 L27 P28 (KI fun r30 I31 L32 P33 => K (some (.int r30)) I31 L32 P33))) ∧ ((¬ r25 = 0) → (K (some (.int 0)) I26 L27 P28)))))) ∧ ((x1 = 4) → (((shp sh a0).1 = 10) ∧ (((shp sh (P a0 0)).1 = 20) ∧ ((vp_in 4 (shp sh (P a0 0)).2) ∧ (K (some (.int (I (P a0 0) (Int32.toNatClampNeg 4)))) I L P))))) ∧ ((x1 = 5) → (((shp sh a0).1 = 10) ∧ (((shp sh (P a0 0)).1 = 20) ∧ ((vp_in 1 (shp sh (P a0 0)).2) ∧ (K (some (.int (I (P a0 0) (Int32.toNatClampNeg 1)))) I L P))))) ∧ ((x1 = 6) → (((shp sh a0).1 = 10) ∧ (((shp sh (P a0 0)).1 = 20) ∧ ((vp_in 2 (shp sh (P a0 0)).2) ∧ (K (some (.int (I (P a0 0) (Int32.toNatClampNeg 2)))) I L P))))) ∧ ((x1 = 7) → (((shp sh a0).1 = 10) ∧ (K (some (.int (I a0 10))) I L P))) ∧ ((x1 = 8) → (((shp sh a0).1 = 10) ∧ (K (some (.int (I a0 4))) I L P))) ∧ ((x1 = 9) → (((shp sh a0).1 = 10) ∧ (K (some (.int (I a0 5))) I L P))) ∧ (¬ x1 = 0 → ¬ x1 = 1 → ¬ x1 = 2 → ¬ x1 = 3 → ¬ x1 = 4 → ¬ x1 = 5 → ¬ x1 = 6 → ¬ x1 = 7 → ¬ x1 = 8 → ¬ x1 = 9 → (K (some (.int ((-1)))) I L P))
set_option maxRecDepth 100000 in
set_option maxHeartbeats 4000000 in
theorem rg_X10_count_0 {X : qCT} {d : Nat} {sh : List qSh} {K : Option Value → qMI → qML → qMP → Prop} {a0 : Nat} {x1 : Int32} {I : qMI} {L : qML} {P : qMP} (C : qCB X RX10 cX10_count 2 (d + 1) 0 0) (hk : qCK X (some .int) 0 0 (fun v sh' I' L' P' => sh' = sh ∧ K v I' L' P')) (h : vc_X10_count_0 d sh K a0 x1 I L P) : qG X 0 [some (.ref a0), some (.int x1)] [] sh I L P 0 0 := by
  unfold vc_X10_count_0 at h
  refine q_iload_n C dX10_count_0 rfl ?_
  by_cases c0 : x1 = 0
  · replace h := h.1 c0
    refine q_tabI (off := 55) (tgt := 56) C dX10_count_1 (by rw [c0]; decide) (by rw [c0]; decide) (by rw [c0]; rfl) (by decide) ?_
    refine q_aload_n C dX10_count_56 rfl ?_
    have s1 := h.1
    replace h := h.2
    refine q_getP C fl_RX10_9 rfl s1 dX10_count_57 ?_
    refine q_iconst (v := 0) C dX10_count_60 (by decide) ?_
    have s2 := h.1
    replace h := h.2
    have s3 := h.1
    replace h := h.2
    refine q_iald C s2 s3 dX10_count_61 ?_
    exact q_iret C hk dX10_count_62 ⟨rfl, h⟩
  replace h := h.2
  by_cases c1 : x1 = 1
  · replace h := h.1 c1
    refine q_tabI (off := 62) (tgt := 63) C dX10_count_1 (by rw [c1]; decide) (by rw [c1]; decide) (by rw [c1]; rfl) (by decide) ?_
    refine q_aload_n C dX10_count_63 rfl ?_
    have s4 := h.1
    replace h := h.2
    refine q_cVi (as := []) (st := []) (r := a0) C mv_X10_areFew ml_RX10_214 dX10_count_64 rfl s4 rfl (Nat.le_of_ble_eq_true rfl) ⟨Nat.le_refl _, Nat.le_refl _⟩ h (fun r5 I6 L7 P8 h => ?_)
    refine q_if_eq (tgt := 74) C dX10_count_67 (by decide) (fun c9 => ?_) (fun c9 => ?_)
    · replace h := h.1 c9
      refine q_aload_n C dX10_count_74 rfl ?_
      refine q_cVi (as := []) (st := []) (r := a0) C mv_X10_slots ml_RX10_67 dX10_count_75 rfl s4 rfl (Nat.le_of_ble_eq_true rfl) ⟨Nat.le_refl _, Nat.le_refl _⟩ h (fun r10 I11 L12 P13 h => ?_)
      exact q_iret C hk dX10_count_78 ⟨rfl, h⟩
    · replace h := h.2 c9
      refine q_iconst (v := 0) C dX10_count_70 (by decide) ?_
      refine q_goto (tgt := 78) C dX10_count_71 (by decide) ?_
      exact q_iret C hk dX10_count_78 ⟨rfl, h⟩
  replace h := h.2
  by_cases c2 : x1 = 2
  · replace h := h.1 c2
    refine q_tabI (off := 78) (tgt := 79) C dX10_count_1 (by rw [c2]; decide) (by rw [c2]; decide) (by rw [c2]; rfl) (by decide) ?_
    refine q_aload_n C dX10_count_79 rfl ?_
    have s14 := h.1
    replace h := h.2
    refine q_cVi (as := []) (st := []) (r := a0) C mv_X10_areFew ml_RX10_214 dX10_count_80 rfl s14 rfl (Nat.le_of_ble_eq_true rfl) ⟨Nat.le_refl _, Nat.le_refl _⟩ h (fun r15 I16 L17 P18 h => ?_)
    refine q_if_eq (tgt := 90) C dX10_count_83 (by decide) (fun c19 => ?_) (fun c19 => ?_)
    · replace h := h.1 c19
      refine q_aload_n C dX10_count_90 rfl ?_
      refine q_cVi (as := []) (st := []) (r := a0) C mv_X10_byes ml_RX10_174 dX10_count_91 rfl s14 rfl (Nat.le_of_ble_eq_true rfl) ⟨Nat.le_refl _, Nat.le_refl _⟩ h (fun r20 I21 L22 P23 h => ?_)
      exact q_iret C hk dX10_count_94 ⟨rfl, h⟩
    · replace h := h.2 c19
      refine q_iconst (v := 0) C dX10_count_86 (by decide) ?_
      refine q_goto (tgt := 94) C dX10_count_87 (by decide) ?_
      exact q_iret C hk dX10_count_94 ⟨rfl, h⟩
  replace h := h.2
  by_cases c3 : x1 = 3
  · replace h := h.1 c3
    refine q_tabI (off := 94) (tgt := 95) C dX10_count_1 (by rw [c3]; decide) (by rw [c3]; decide) (by rw [c3]; rfl) (by decide) ?_
    refine q_aload_n C dX10_count_95 rfl ?_
    have s24 := h.1
    replace h := h.2
    refine q_cVi (as := []) (st := []) (r := a0) C mv_X10_areFew ml_RX10_214 dX10_count_96 rfl s24 rfl (Nat.le_of_ble_eq_true rfl) ⟨Nat.le_refl _, Nat.le_refl _⟩ h (fun r25 I26 L27 P28 h => ?_)
    refine q_if_eq (tgt := 106) C dX10_count_99 (by decide) (fun c29 => ?_) (fun c29 => ?_)
    · replace h := h.1 c29
      refine q_aload_n C dX10_count_106 rfl ?_
      refine q_cVi (as := []) (st := []) (r := a0) C mv_X10_lastRound ml_RX10_71 dX10_count_107 rfl s24 rfl (Nat.le_of_ble_eq_true rfl) ⟨Nat.le_refl _, Nat.le_refl _⟩ h (fun r30 I31 L32 P33 h => ?_)
      exact q_iret C hk dX10_count_110 ⟨rfl, h⟩
    · replace h := h.2 c29
      refine q_iconst (v := 0) C dX10_count_102 (by decide) ?_
      refine q_goto (tgt := 110) C dX10_count_103 (by decide) ?_
      exact q_iret C hk dX10_count_110 ⟨rfl, h⟩
  replace h := h.2
  by_cases c4 : x1 = 4
  · replace h := h.1 c4
    refine q_tabI (off := 110) (tgt := 111) C dX10_count_1 (by rw [c4]; decide) (by rw [c4]; decide) (by rw [c4]; rfl) (by decide) ?_
    refine q_aload_n C dX10_count_111 rfl ?_
    have s34 := h.1
    replace h := h.2
    refine q_getP C fl_RX10_9 rfl s34 dX10_count_112 ?_
    refine q_iconst (v := 4) C dX10_count_115 (by decide) ?_
    have s35 := h.1
    replace h := h.2
    have s36 := h.1
    replace h := h.2
    refine q_iald C s35 s36 dX10_count_116 ?_
    exact q_iret C hk dX10_count_117 ⟨rfl, h⟩
  replace h := h.2
  by_cases c5 : x1 = 5
  · replace h := h.1 c5
    refine q_tabI (off := 117) (tgt := 118) C dX10_count_1 (by rw [c5]; decide) (by rw [c5]; decide) (by rw [c5]; rfl) (by decide) ?_
    refine q_aload_n C dX10_count_118 rfl ?_
    have s37 := h.1
    replace h := h.2
    refine q_getP C fl_RX10_9 rfl s37 dX10_count_119 ?_
    refine q_iconst (v := 1) C dX10_count_122 (by decide) ?_
    have s38 := h.1
    replace h := h.2
    have s39 := h.1
    replace h := h.2
    refine q_iald C s38 s39 dX10_count_123 ?_
    exact q_iret C hk dX10_count_124 ⟨rfl, h⟩
  replace h := h.2
  by_cases c6 : x1 = 6
  · replace h := h.1 c6
    refine q_tabI (off := 124) (tgt := 125) C dX10_count_1 (by rw [c6]; decide) (by rw [c6]; decide) (by rw [c6]; rfl) (by decide) ?_
    refine q_aload_n C dX10_count_125 rfl ?_
    have s40 := h.1
    replace h := h.2
    refine q_getP C fl_RX10_9 rfl s40 dX10_count_126 ?_
    refine q_iconst (v := 2) C dX10_count_129 (by decide) ?_
    have s41 := h.1
    replace h := h.2
    have s42 := h.1
    replace h := h.2
    refine q_iald C s41 s42 dX10_count_130 ?_
    exact q_iret C hk dX10_count_131 ⟨rfl, h⟩
  replace h := h.2
  by_cases c7 : x1 = 7
  · replace h := h.1 c7
    refine q_tabI (off := 131) (tgt := 132) C dX10_count_1 (by rw [c7]; decide) (by rw [c7]; decide) (by rw [c7]; rfl) (by decide) ?_
    refine q_aload_n C dX10_count_132 rfl ?_
    have s43 := h.1
    replace h := h.2
    refine q_getI C fl_RX10_137 rfl s43 dX10_count_133 ?_
    exact q_iret C hk dX10_count_136 ⟨rfl, h⟩
  replace h := h.2
  by_cases c8 : x1 = 8
  · replace h := h.1 c8
    refine q_tabI (off := 136) (tgt := 137) C dX10_count_1 (by rw [c8]; decide) (by rw [c8]; decide) (by rw [c8]; rfl) (by decide) ?_
    refine q_aload_n C dX10_count_137 rfl ?_
    have s44 := h.1
    replace h := h.2
    refine q_getI C fl_RX10_81 rfl s44 dX10_count_138 ?_
    exact q_iret C hk dX10_count_141 ⟨rfl, h⟩
  replace h := h.2
  by_cases c9 : x1 = 9
  · replace h := h.1 c9
    refine q_tabI (off := 141) (tgt := 142) C dX10_count_1 (by rw [c9]; decide) (by rw [c9]; decide) (by rw [c9]; rfl) (by decide) ?_
    refine q_aload_n C dX10_count_142 rfl ?_
    have s45 := h.1
    replace h := h.2
    refine q_getI C fl_RX10_89 rfl s45 dX10_count_143 ?_
    exact q_iret C hk dX10_count_146 ⟨rfl, h⟩
  replace h := h.2
  replace h := h c0 c1 c2 c3 c4 c5 c6 c7 c8 c9
  refine q_tabO (tgt := 147) C dX10_count_1 (by
    have t0 : Int32.toInt x1 ≠ 0 := fun q => c0 (Int32.toInt_inj.mp q)
    have t1 : Int32.toInt x1 ≠ 1 := fun q => c1 (Int32.toInt_inj.mp q)
    have t2 : Int32.toInt x1 ≠ 2 := fun q => c2 (Int32.toInt_inj.mp q)
    have t3 : Int32.toInt x1 ≠ 3 := fun q => c3 (Int32.toInt_inj.mp q)
    have t4 : Int32.toInt x1 ≠ 4 := fun q => c4 (Int32.toInt_inj.mp q)
    have t5 : Int32.toInt x1 ≠ 5 := fun q => c5 (Int32.toInt_inj.mp q)
    have t6 : Int32.toInt x1 ≠ 6 := fun q => c6 (Int32.toInt_inj.mp q)
    have t7 : Int32.toInt x1 ≠ 7 := fun q => c7 (Int32.toInt_inj.mp q)
    have t8 : Int32.toInt x1 ≠ 8 := fun q => c8 (Int32.toInt_inj.mp q)
    have t9 : Int32.toInt x1 ≠ 9 := fun q => c9 (Int32.toInt_inj.mp q)
    omega) (by decide) ?_
  refine q_iconst (v := (-1)) C dX10_count_147 (by decide) ?_
  exact q_iret C hk dX10_count_148 ⟨rfl, h⟩
theorem sp_X10_count {d : Nat} {sh : List qSh} {K : Option Value → qMI → qML → qMP → Prop} {a0 : Nat} {x1 : Int32} {I : qMI} {L : qML} {P : qMP} (h0 : vc_X10_count_0 d sh K a0 x1 I L P) : Sq (d + 1) mX10_count sh [.ref a0, .int x1] I L P K := by
  refine Sq_of (by decide +kernel) (Nat.le_of_ble_eq_true rfl) (fun X C hk hn => ?_)
  exact rg_X10_count_0 C hk h0
