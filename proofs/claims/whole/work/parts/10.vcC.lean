/-! BracketDraws$Rules.begin(LBracketDraws$Entries;)V -/
def vc_X5_begin_0 (d : Nat) (sh : List qSh) (K : Option Value → qMI → qML → qMP → Prop) (T1 : Int32 → qMI → qML → qMP → Prop) (a0 : Nat) (a1 : Nat) (I : qMI) (L : qML) (P : qMP) : Prop :=
  ((shp sh a1).1 = 2) ∧ (((shp sh a0).1 = 5) ∧ (∀ I3 : qMI, I3 = uI I a0 0 (I a1 0) → (Sq d mX2_slots sh [.ref a1] I3 L P (KI fun r4 I5 L6 P7 => ∀ I8 : qMI, I8 = uI I5 a0 1 r4 → (∀ I9 : qMI, I9 = uI I8 a0 5 0 → (Sq d mX5_addGroups sh [.ref a0, .ref a1, .int 0, .int (I9 a1 1)] I9 L6 P7 (KV fun I10 L11 P12 => Sq d mX5_addGroups sh [.ref a0, .ref a1, .int 1, .int (I10 a1 2)] I10 L11 P12 (KV fun I13 L14 P15 => Sq d mX5_watch sh [.ref a0, .int 0, .int ((-1)), .int ((-1))] I13 L14 P15 (KV fun I16 L17 P18 => ∀ I19 : qMI, I19 = uI I16 a0 2 0 → (T1 0 I19 L17 P18))))))))))
set_option maxRecDepth 100000 in
set_option maxHeartbeats 4000000 in
theorem rg_X5_begin_0 {X : qCT} {d : Nat} {sh : List qSh} {K : Option Value → qMI → qML → qMP → Prop} {T1 : Int32 → qMI → qML → qMP → Prop} {a0 : Nat} {a1 : Nat} {I : qMI} {L : qML} {P : qMP} (C : qCB X RX5 cX5_begin 4 (d + 1) 0 0) (hk : qCK X (none) 0 0 (fun v sh' I' L' P' => sh' = sh ∧ K v I' L' P')) (hT1 : ∀ (x2 : Int32) (I : qMI) (L : qML) (P : qMP), T1 x2 I L P → qG X 55 [some (.ref a0), some (.ref a1), some (.int x2), none] [] sh I L P 0 0) (h : vc_X5_begin_0 d sh K T1 a0 a1 I L P) : qG X 0 [some (.ref a0), some (.ref a1), none, none] [] sh I L P 0 0 := by
  unfold vc_X5_begin_0 at h
  refine q_aload_n C dX5_begin_0 rfl ?_
  refine q_aload_n C dX5_begin_1 rfl ?_
  have s1 := h.1
  replace h := h.2
  refine q_getI C fl_RX5_22 rfl s1 dX5_begin_2 ?_
  have s2 := h.1
  replace h := h.2
  refine q_putI C fl_RX5_27 (fun T hT => by cases hT; rfl) rfl s2 dX5_begin_5 (fun I3 eI3 => ?_)
  replace h := h I3 eI3
  refine q_aload_n C dX5_begin_8 rfl ?_
  refine q_aload_n C dX5_begin_9 rfl ?_
  refine q_cVi (as := []) (st := [.ref a0]) (r := a1) C mv_X2_slots ml_RX5_28 dX5_begin_10 rfl s1 rfl (Nat.le_of_ble_eq_true rfl) ⟨Nat.le_refl _, Nat.le_refl _⟩ h (fun r4 I5 L6 P7 h => ?_)
  refine q_putI C fl_RX5_9 (fun T hT => by cases hT; rfl) rfl s2 dX5_begin_13 (fun I8 eI8 => ?_)
  replace h := h I8 eI8
  refine q_aload_n C dX5_begin_16 rfl ?_
  refine q_iconst (v := 0) C dX5_begin_17 (by decide) ?_
  refine q_putI C fl_RX5_31 (fun T hT => by cases hT; rfl) rfl s2 dX5_begin_18 (fun I9 eI9 => ?_)
  replace h := h I9 eI9
  refine q_aload_n C dX5_begin_21 rfl ?_
  refine q_aload_n C dX5_begin_22 rfl ?_
  refine q_iconst (v := 0) C dX5_begin_23 (by decide) ?_
  refine q_aload_n C dX5_begin_24 rfl ?_
  refine q_getI C fl_RX5_34 rfl s1 dX5_begin_25 ?_
  refine q_cVv (as := [.ref a1, .int 0, .int (I9 a1 1)]) (st := []) (r := a0) C mv_X5_addGroups ml_RX5_37 dX5_begin_28 rfl s2 rfl (Nat.le_of_ble_eq_true rfl) ⟨Nat.le_refl _, Nat.le_refl _⟩ h (fun I10 L11 P12 h => ?_)
  refine q_aload_n C dX5_begin_31 rfl ?_
  refine q_aload_n C dX5_begin_32 rfl ?_
  refine q_iconst (v := 1) C dX5_begin_33 (by decide) ?_
  refine q_aload_n C dX5_begin_34 rfl ?_
  refine q_getI C fl_RX5_41 rfl s1 dX5_begin_35 ?_
  refine q_cVv (as := [.ref a1, .int 1, .int (I10 a1 2)]) (st := []) (r := a0) C mv_X5_addGroups ml_RX5_37 dX5_begin_38 rfl s2 rfl (Nat.le_of_ble_eq_true rfl) ⟨Nat.le_refl _, Nat.le_refl _⟩ h (fun I13 L14 P15 h => ?_)
  refine q_aload_n C dX5_begin_41 rfl ?_
  refine q_iconst (v := 0) C dX5_begin_42 (by decide) ?_
  refine q_iconst (v := (-1)) C dX5_begin_43 (by decide) ?_
  refine q_iconst (v := (-1)) C dX5_begin_44 (by decide) ?_
  refine q_cVv (as := [.int 0, .int ((-1)), .int ((-1))]) (st := []) (r := a0) C mv_X5_watch ml_RX5_44 dX5_begin_45 rfl s2 rfl (Nat.le_of_ble_eq_true rfl) ⟨Nat.le_refl _, Nat.le_refl _⟩ h (fun I16 L17 P18 h => ?_)
  refine q_aload_n C dX5_begin_48 rfl ?_
  refine q_iconst (v := 0) C dX5_begin_49 (by decide) ?_
  refine q_putI C fl_RX5_48 (fun T hT => by cases hT; rfl) rfl s2 dX5_begin_50 (fun I19 eI19 => ?_)
  replace h := h I19 eI19
  refine q_iconst (v := 0) C dX5_begin_53 (by decide) ?_
  refine q_istore_n (lo1 := [some (.ref a0), some (.ref a1), some (.int 0), none]) C dX5_begin_54 (by decide) rfl ?_
  exact hT1 _ _ _ _ h
def vc_X5_begin_1 (d : Nat) (sh : List qSh) (K : Option Value → qMI → qML → qMP → Prop) (T1 : Int32 → qMI → qML → qMP → Prop) (a0 : Nat) (a1 : Nat) (x2 : Int32) (I : qMI) (L : qML) (P : qMP) : Prop :=
  ((shp sh a0).1 = 5) ∧ ((((I a0 0) ≤ x2) → (K none I L P)) ∧ ((¬ (I a0 0) ≤ x2) → (((shp sh a1).1 = 2) ∧ (Sq d mX2_told sh [.ref a1, .int x2, .int 2] I L P (KI fun r4 I5 L6 P7 => ((r4 ≤ 0) → (T1 (x2 + 1) I5 L6 P7)) ∧ ((¬ r4 ≤ 0) → (Sq d mX2_byes sh [.ref a1] I5 L6 P7 (KI fun r9 I10 L11 P12 => ((r9 < r4) → (T1 (x2 + 1) I10 L11 P12)) ∧ ((¬ r9 < r4) → (∀ I14 : qMI, I14 = uI I10 a0 2 ((I10 a0 2) ||| ((1 : Int32) <<< (x2 &&& 31))) → (T1 (x2 + 1) I14 L11 P12)))))))))))
set_option maxRecDepth 100000 in
set_option maxHeartbeats 4000000 in
theorem rg_X5_begin_1 {X : qCT} {d : Nat} {sh : List qSh} {K : Option Value → qMI → qML → qMP → Prop} {T1 : Int32 → qMI → qML → qMP → Prop} {a0 : Nat} {a1 : Nat} {x2 : Int32} {I : qMI} {L : qML} {P : qMP} (C : qCB X RX5 cX5_begin 4 (d + 1) 0 0) (hk : qCK X (none) 0 0 (fun v sh' I' L' P' => sh' = sh ∧ K v I' L' P')) (hT1 : ∀ (x2 : Int32) (I : qMI) (L : qML) (P : qMP), T1 x2 I L P → qG X 55 [some (.ref a0), some (.ref a1), some (.int x2), none] [] sh I L P 0 0) (h : vc_X5_begin_1 d sh K T1 a0 a1 x2 I L P) : qG X 55 [some (.ref a0), some (.ref a1), some (.int x2), none] [] sh I L P 0 0 := by
  unfold vc_X5_begin_1 at h
  refine q_iload_n C dX5_begin_55 rfl ?_
  refine q_aload_n C dX5_begin_56 rfl ?_
  have s1 := h.1
  replace h := h.2
  refine q_getI C fl_RX5_27 rfl s1 dX5_begin_57 ?_
  refine q_icmp_ge (tgt := 100) C dX5_begin_60 (by decide) (fun c2 => ?_) (fun c2 => ?_)
  · replace h := h.1 c2
    exact q_vret C hk dX5_begin_100 ⟨rfl, h⟩
  · replace h := h.2 c2
    refine q_aload_n C dX5_begin_63 rfl ?_
    refine q_iload_n C dX5_begin_64 rfl ?_
    refine q_iconst (v := 2) C dX5_begin_65 (by decide) ?_
    have s3 := h.1
    replace h := h.2
    refine q_cVi (as := [.int x2, .int 2]) (st := []) (r := a1) C mv_X2_told ml_RX5_51 dX5_begin_66 rfl s3 rfl (Nat.le_of_ble_eq_true rfl) ⟨Nat.le_refl _, Nat.le_refl _⟩ h (fun r4 I5 L6 P7 h => ?_)
    refine q_istore_n (lo1 := [some (.ref a0), some (.ref a1), some (.int x2), some (.int r4)]) C dX5_begin_69 (by decide) rfl ?_
    refine q_iload_n C dX5_begin_70 rfl ?_
    refine q_if_le (tgt := 94) C dX5_begin_71 (by decide) (fun c8 => ?_) (fun c8 => ?_)
    · replace h := h.1 c8
      refine q_iinc (w := 1) (lo1 := [some (.ref a0), some (.ref a1), some (.int (x2 + 1)), some (.int r4)]) C dX5_begin_94 rfl (by decide) (by decide) rfl ?_
      refine q_goto (tgt := 55) C dX5_begin_97 (by decide) ?_
      refine q_kill 3 (lo1 := [some (.ref a0), some (.ref a1), some (.int (x2 + 1)), none]) rfl ?_
      exact hT1 _ _ _ _ h
    · replace h := h.2 c8
      refine q_iload_n C dX5_begin_74 rfl ?_
      refine q_aload_n C dX5_begin_75 rfl ?_
      refine q_cVi (as := []) (st := [.int r4]) (r := a1) C mv_X2_byes ml_RX5_55 dX5_begin_76 rfl s3 rfl (Nat.le_of_ble_eq_true rfl) ⟨Nat.le_refl _, Nat.le_refl _⟩ h (fun r9 I10 L11 P12 h => ?_)
      refine q_icmp_gt (tgt := 94) C dX5_begin_79 (by decide) (fun c13 => ?_) (fun c13 => ?_)
      · replace h := h.1 c13
        refine q_iinc (w := 1) (lo1 := [some (.ref a0), some (.ref a1), some (.int (x2 + 1)), some (.int r4)]) C dX5_begin_94 rfl (by decide) (by decide) rfl ?_
        refine q_goto (tgt := 55) C dX5_begin_97 (by decide) ?_
        refine q_kill 3 (lo1 := [some (.ref a0), some (.ref a1), some (.int (x2 + 1)), none]) rfl ?_
        exact hT1 _ _ _ _ h
      · replace h := h.2 c13
        refine q_aload_n C dX5_begin_82 rfl ?_
        refine q_dup C dX5_begin_83 rfl ?_
        refine q_getI C fl_RX5_48 rfl s1 dX5_begin_84 ?_
        refine q_iconst (v := 1) C dX5_begin_87 (by decide) ?_
        refine q_iload_n C dX5_begin_88 rfl ?_
        refine q_ishl C dX5_begin_89 ?_
        refine q_ior C dX5_begin_90 ?_
        refine q_putI C fl_RX5_48 (fun T hT => by cases hT; rfl) rfl s1 dX5_begin_91 (fun I14 eI14 => ?_)
        replace h := h I14 eI14
        refine q_iinc (w := 1) (lo1 := [some (.ref a0), some (.ref a1), some (.int (x2 + 1)), some (.int r4)]) C dX5_begin_94 rfl (by decide) (by decide) rfl ?_
        refine q_goto (tgt := 55) C dX5_begin_97 (by decide) ?_
        refine q_kill 3 (lo1 := [some (.ref a0), some (.ref a1), some (.int (x2 + 1)), none]) rfl ?_
        exact hT1 _ _ _ _ h
theorem sp_X5_begin {d : Nat} {sh : List qSh} {K : Option Value → qMI → qML → qMP → Prop} {a0 : Nat} {a1 : Nat} {I : qMI} {L : qML} {P : qMP} (T1 : Int32 → qMI → qML → qMP → Prop) (m1 : Int32 → qMI → qML → qMP → Nat) (h0 : vc_X5_begin_0 d sh K T1 a0 a1 I L P)
    (h1 : ∀ (x2 : Int32) (I : qMI) (L : qML) (P : qMP), T1 x2 I L P → vc_X5_begin_1 d sh K (fun w0 I' L' P' => T1 w0 I' L' P' ∧ m1 w0 I' L' P' < m1 x2 I L P) a0 a1 x2 I L P) : Sq (d + 1) mX5_begin sh [.ref a0, .ref a1] I L P K := by
  refine Sq_of (by decide +kernel) (Nat.le_of_ble_eq_true rfl) (fun X C hk hn => ?_)
  have go : ∀ N : Nat, (∀ (x2 : Int32) (I : qMI) (L : qML) (P : qMP), T1 x2 I L P → m1 x2 I L P < N → qG X 55 [some (.ref a0), some (.ref a1), some (.int x2), none] [] sh I L P 0 0) := by
    intro N
    induction N with
    | zero => exact fun _ _ _ _ _ q => absurd q (Nat.not_lt_zero _)
    | succ N ih =>
      exact fun b0 I1 L1 P1 t q => rg_X5_begin_1 C hk (fun z0 I2 L2 P2 z => ih z0 I2 L2 P2 z.1 (Nat.lt_of_lt_of_le z.2 (Nat.le_of_lt_succ q))) (h1 b0 I1 L1 P1 t)
  exact rg_X5_begin_0 C hk (fun b0 I1 L1 P1 t => (go (m1 b0 I1 L1 P1 + 1)) b0 I1 L1 P1 t (Nat.lt_succ_self _)) h0
/-! BracketDraws$Rules.watch(III)V -/
def vc_X5_watch_0 (d : Nat) (sh : List qSh) (K : Option Value → qMI → qML → qMP → Prop) (a0 : Nat) (x1 : Int32) (x2 : Int32) (x3 : Int32) (I : qMI) (L : qML) (P : qMP) : Prop :=
  ((shp sh a0).1 = 5) ∧ (∀ I2 : qMI, I2 = uI I a0 6 x1 → (∀ I3 : qMI, I3 = uI I2 a0 7 x2 → (∀ I4 : qMI, I4 = uI I3 a0 8 x3 → (K none I4 L P))))
set_option maxRecDepth 100000 in
set_option maxHeartbeats 4000000 in
theorem rg_X5_watch_0 {X : qCT} {d : Nat} {sh : List qSh} {K : Option Value → qMI → qML → qMP → Prop} {a0 : Nat} {x1 : Int32} {x2 : Int32} {x3 : Int32} {I : qMI} {L : qML} {P : qMP} (C : qCB X RX5 cX5_watch 4 (d + 1) 0 0) (hk : qCK X (none) 0 0 (fun v sh' I' L' P' => sh' = sh ∧ K v I' L' P')) (h : vc_X5_watch_0 d sh K a0 x1 x2 x3 I L P) : qG X 0 [some (.ref a0), some (.int x1), some (.int x2), some (.int x3)] [] sh I L P 0 0 := by
  unfold vc_X5_watch_0 at h
  refine q_aload_n C dX5_watch_0 rfl ?_
  refine q_iload_n C dX5_watch_1 rfl ?_
  have s1 := h.1
  replace h := h.2
  refine q_putI C fl_RX5_58 (fun T hT => by cases hT; rfl) rfl s1 dX5_watch_2 (fun I2 eI2 => ?_)
  replace h := h I2 eI2
  refine q_aload_n C dX5_watch_5 rfl ?_
  refine q_iload_n C dX5_watch_6 rfl ?_
  refine q_putI C fl_RX5_61 (fun T hT => by cases hT; rfl) rfl s1 dX5_watch_7 (fun I3 eI3 => ?_)
  replace h := h I3 eI3
  refine q_aload_n C dX5_watch_10 rfl ?_
  refine q_iload_n C dX5_watch_11 rfl ?_
  refine q_putI C fl_RX5_64 (fun T hT => by cases hT; rfl) rfl s1 dX5_watch_12 (fun I4 eI4 => ?_)
  replace h := h I4 eI4
  exact q_vret C hk dX5_watch_15 ⟨rfl, h⟩
theorem sp_X5_watch {d : Nat} {sh : List qSh} {K : Option Value → qMI → qML → qMP → Prop} {a0 : Nat} {x1 : Int32} {x2 : Int32} {x3 : Int32} {I : qMI} {L : qML} {P : qMP} (h0 : vc_X5_watch_0 d sh K a0 x1 x2 x3 I L P) : Sq (d + 1) mX5_watch sh [.ref a0, .int x1, .int x2, .int x3] I L P K := by
  refine Sq_of (by decide +kernel) (Nat.le_of_ble_eq_true rfl) (fun X C hk hn => ?_)
  exact rg_X5_watch_0 C hk h0
/-! BracketDraws$Rules.addGroups(LBracketDraws$Entries;II)V -/
def vc_X5_addGroups_0 (d : Nat) (sh : List qSh) (K : Option Value → qMI → qML → qMP → Prop) (T1 : Int32 → qMI → qML → qMP → Prop) (T2 : Int32 → Int32 → Int32 → qMI → qML → qMP → Prop) (a0 : Nat) (a1 : Nat) (x2 : Int32) (x3 : Int32) (I : qMI) (L : qML) (P : qMP) : Prop :=
  T1 1 I L P
set_option maxRecDepth 100000 in
set_option maxHeartbeats 4000000 in
theorem rg_X5_addGroups_0 {X : qCT} {d : Nat} {sh : List qSh} {K : Option Value → qMI → qML → qMP → Prop} {T1 : Int32 → qMI → qML → qMP → Prop} {T2 : Int32 → Int32 → Int32 → qMI → qML → qMP → Prop} {a0 : Nat} {a1 : Nat} {x2 : Int32} {x3 : Int32} {I : qMI} {L : qML} {P : qMP} (C : qCB X RX5 cX5_addGroups 7 (d + 1) 0 0) (hk : qCK X (none) 0 0 (fun v sh' I' L' P' => sh' = sh ∧ K v I' L' P')) (hT1 : ∀ (x4 : Int32) (I : qMI) (L : qML) (P : qMP), T1 x4 I L P → qG X 3 [some (.ref a0), some (.ref a1), some (.int x2), some (.int x3), some (.int x4), none, none] [] sh I L P 0 0) (hT2 : ∀ (x4 : Int32) (x5 : Int32) (x6 : Int32) (I : qMI) (L : qML) (P : qMP), T2 x4 x5 x6 I L P → qG X 22 [some (.ref a0), some (.ref a1), some (.int x2), some (.int x3), some (.int x4), some (.int x5), some (.int x6)] [] sh I L P 0 0) (h : vc_X5_addGroups_0 d sh K T1 T2 a0 a1 x2 x3 I L P) : qG X 0 [some (.ref a0), some (.ref a1), some (.int x2), some (.int x3), none, none, none] [] sh I L P 0 0 := by
  unfold vc_X5_addGroups_0 at h
  refine q_iconst (v := 1) C dX5_addGroups_0 (by decide) ?_
  refine q_istore (lo1 := [some (.ref a0), some (.ref a1), some (.int x2), some (.int x3), some (.int 1), none, none]) C dX5_addGroups_1 (by decide) rfl ?_
  exact hT1 _ _ _ _ h
def vc_X5_addGroups_1 (d : Nat) (sh : List qSh) (K : Option Value → qMI → qML → qMP → Prop) (T1 : Int32 → qMI → qML → qMP → Prop) (T2 : Int32 → Int32 → Int32 → qMI → qML → qMP → Prop) (a0 : Nat) (a1 : Nat) (x2 : Int32) (x3 : Int32) (x4 : Int32) (I : qMI) (L : qML) (P : qMP) : Prop :=
  ((x3 ≤ 0) → (K none I L P)) ∧ ((¬ x3 ≤ 0) → (Sq d mX2_largest sh [.int x2] I L P (KI fun r2 I3 L4 P5 => ((r2 < x4) → (K none I3 L4 P5)) ∧ ((¬ r2 < x4) → (T2 x4 0 0 I3 L4 P5)))))
set_option maxRecDepth 100000 in
set_option maxHeartbeats 4000000 in
theorem rg_X5_addGroups_1 {X : qCT} {d : Nat} {sh : List qSh} {K : Option Value → qMI → qML → qMP → Prop} {T1 : Int32 → qMI → qML → qMP → Prop} {T2 : Int32 → Int32 → Int32 → qMI → qML → qMP → Prop} {a0 : Nat} {a1 : Nat} {x2 : Int32} {x3 : Int32} {x4 : Int32} {I : qMI} {L : qML} {P : qMP} (C : qCB X RX5 cX5_addGroups 7 (d + 1) 0 0) (hk : qCK X (none) 0 0 (fun v sh' I' L' P' => sh' = sh ∧ K v I' L' P')) (hT1 : ∀ (x4 : Int32) (I : qMI) (L : qML) (P : qMP), T1 x4 I L P → qG X 3 [some (.ref a0), some (.ref a1), some (.int x2), some (.int x3), some (.int x4), none, none] [] sh I L P 0 0) (hT2 : ∀ (x4 : Int32) (x5 : Int32) (x6 : Int32) (I : qMI) (L : qML) (P : qMP), T2 x4 x5 x6 I L P → qG X 22 [some (.ref a0), some (.ref a1), some (.int x2), some (.int x3), some (.int x4), some (.int x5), some (.int x6)] [] sh I L P 0 0) (h : vc_X5_addGroups_1 d sh K T1 T2 a0 a1 x2 x3 x4 I L P) : qG X 3 [some (.ref a0), some (.ref a1), some (.int x2), some (.int x3), some (.int x4), none, none] [] sh I L P 0 0 := by
  unfold vc_X5_addGroups_1 at h
  refine q_iload_n C dX5_addGroups_3 rfl ?_
  refine q_if_le (tgt := 115) C dX5_addGroups_4 (by decide) (fun c1 => ?_) (fun c1 => ?_)
  · replace h := h.1 c1
    exact q_vret C hk dX5_addGroups_115 ⟨rfl, h⟩
  · replace h := h.2 c1
    refine q_iload C dX5_addGroups_7 rfl ?_
    refine q_iload_n C dX5_addGroups_9 rfl ?_
    refine q_cSi (as := [.int x2]) (st := [.int x4]) C ms_X2_largest ml_RX5_67 dX5_addGroups_10 rfl rfl (Nat.le_of_ble_eq_true rfl) ⟨Nat.le_refl _, Nat.le_refl _⟩ h (fun r2 I3 L4 P5 h => ?_)
    refine q_icmp_gt (tgt := 115) C dX5_addGroups_13 (by decide) (fun c6 => ?_) (fun c6 => ?_)
    · replace h := h.1 c6
      exact q_vret C hk dX5_addGroups_115 ⟨rfl, h⟩
    · replace h := h.2 c6
      refine q_iconst (v := 0) C dX5_addGroups_16 (by decide) ?_
      refine q_istore (lo1 := [some (.ref a0), some (.ref a1), some (.int x2), some (.int x3), some (.int x4), some (.int 0), none]) C dX5_addGroups_17 (by decide) rfl ?_
      refine q_iconst (v := 0) C dX5_addGroups_19 (by decide) ?_
      refine q_istore (lo1 := [some (.ref a0), some (.ref a1), some (.int x2), some (.int x3), some (.int x4), some (.int 0), some (.int 0)]) C dX5_addGroups_20 (by decide) rfl ?_
      exact hT2 _ _ _ _ _ _ h
def vc_X5_addGroups_2 (d : Nat) (sh : List qSh) (K : Option Value → qMI → qML → qMP → Prop) (T1 : Int32 → qMI → qML → qMP → Prop) (T2 : Int32 → Int32 → Int32 → qMI → qML → qMP → Prop) (a0 : Nat) (a1 : Nat) (x2 : Int32) (x3 : Int32) (x4 : Int32) (x5 : Int32) (x6 : Int32) (I : qMI) (L : qML) (P : qMP) : Prop :=
  ((shp sh a1).1 = 2) ∧ ((((I a1 0) ≤ x6) → (Sq d mX5_severalOf sh [.int x5] I L P (KI fun r3 I4 L5 P6 => ((r3 = 0) → (T1 (x4 + 1) I4 L5 P6)) ∧ ((¬ r3 = 0) → (((shp sh a0).1 = 5) ∧ (((shp sh (P6 a0 3)).1 = 20) ∧ ((((nI (shp sh (P6 a0 3)).2) ≤ (I4 a0 5)) → (T1 (x4 + 1) I4 L5 P6)) ∧ ((¬ (nI (shp sh (P6 a0 3)).2) ≤ (I4 a0 5)) → ((vp_in (I4 a0 5) (shp sh (P6 a0 3)).2) ∧ (∀ I12 : qMI, I12 = uI I4 (P6 a0 3) (Int32.toNatClampNeg (I4 a0 5)) x5 → (((shp sh (P6 a0 4)).1 = 20) ∧ ((vp_in (I12 a0 5) (shp sh (P6 a0 4)).2) ∧ (∀ I15 : qMI, I15 = uI I12 (P6 a0 4) (Int32.toNatClampNeg (I12 a0 5)) x3 → (∀ I16 : qMI, I16 = uI I15 a0 5 ((I15 a0 5) + 1) → (T1 (x4 + 1) I16 L5 P6))))))))))))))) ∧ ((¬ (I a1 0) ≤ x6) → (Sq d mX2_told sh [.ref a1, .int x6, .int x2] I L P (KI fun r17 I18 L19 P20 => ((¬ r17 = x4) → (T2 x4 x5 (x6 + 1) I18 L19 P20)) ∧ ((r17 = x4) → (T2 x4 (x5 ||| ((1 : Int32) <<< (x6 &&& 31))) (x6 + 1) I18 L19 P20))))))
set_option maxRecDepth 100000 in
set_option maxHeartbeats 4000000 in
theorem rg_X5_addGroups_2 {X : qCT} {d : Nat} {sh : List qSh} {K : Option Value → qMI → qML → qMP → Prop} {T1 : Int32 → qMI → qML → qMP → Prop} {T2 : Int32 → Int32 → Int32 → qMI → qML → qMP → Prop} {a0 : Nat} {a1 : Nat} {x2 : Int32} {x3 : Int32} {x4 : Int32} {x5 : Int32} {x6 : Int32} {I : qMI} {L : qML} {P : qMP} (C : qCB X RX5 cX5_addGroups 7 (d + 1) 0 0) (hk : qCK X (none) 0 0 (fun v sh' I' L' P' => sh' = sh ∧ K v I' L' P')) (hT1 : ∀ (x4 : Int32) (I : qMI) (L : qML) (P : qMP), T1 x4 I L P → qG X 3 [some (.ref a0), some (.ref a1), some (.int x2), some (.int x3), some (.int x4), none, none] [] sh I L P 0 0) (hT2 : ∀ (x4 : Int32) (x5 : Int32) (x6 : Int32) (I : qMI) (L : qML) (P : qMP), T2 x4 x5 x6 I L P → qG X 22 [some (.ref a0), some (.ref a1), some (.int x2), some (.int x3), some (.int x4), some (.int x5), some (.int x6)] [] sh I L P 0 0) (h : vc_X5_addGroups_2 d sh K T1 T2 a0 a1 x2 x3 x4 x5 x6 I L P) : qG X 22 [some (.ref a0), some (.ref a1), some (.int x2), some (.int x3), some (.int x4), some (.int x5), some (.int x6)] [] sh I L P 0 0 := by
  unfold vc_X5_addGroups_2 at h
  refine q_iload C dX5_addGroups_22 rfl ?_
  refine q_aload_n C dX5_addGroups_24 rfl ?_
  have s1 := h.1
  replace h := h.2
  refine q_getI C fl_RX5_22 rfl s1 dX5_addGroups_25 ?_
  refine q_icmp_ge (tgt := 58) C dX5_addGroups_28 (by decide) (fun c2 => ?_) (fun c2 => ?_)
  · replace h := h.1 c2
    refine q_iload C dX5_addGroups_58 rfl ?_
    refine q_cSi (as := [.int x5]) (st := []) C ms_X5_severalOf ml_RX5_71 dX5_addGroups_60 rfl rfl (Nat.le_of_ble_eq_true rfl) ⟨Nat.le_refl _, Nat.le_refl _⟩ h (fun r3 I4 L5 P6 h => ?_)
    refine q_if_eq (tgt := 109) C dX5_addGroups_63 (by decide) (fun c7 => ?_) (fun c7 => ?_)
    · replace h := h.1 c7
      refine q_iinc (w := 1) (lo1 := [some (.ref a0), some (.ref a1), some (.int x2), some (.int x3), some (.int (x4 + 1)), some (.int x5), some (.int x6)]) C dX5_addGroups_109 rfl (by decide) (by decide) rfl ?_
      refine q_goto (tgt := 3) C dX5_addGroups_112 (by decide) ?_
      refine q_kill 5 (lo1 := [some (.ref a0), some (.ref a1), some (.int x2), some (.int x3), some (.int (x4 + 1)), none, some (.int x6)]) rfl ?_
      refine q_kill 6 (lo1 := [some (.ref a0), some (.ref a1), some (.int x2), some (.int x3), some (.int (x4 + 1)), none, none]) rfl ?_
      exact hT1 _ _ _ _ h
    · replace h := h.2 c7
      refine q_aload_n C dX5_addGroups_66 rfl ?_
      have s8 := h.1
      replace h := h.2
      refine q_getI C fl_RX5_31 rfl s8 dX5_addGroups_67 ?_
      refine q_aload_n C dX5_addGroups_70 rfl ?_
      refine q_getP C fl_RX5_15 rfl s8 dX5_addGroups_71 ?_
      have s9 := h.1
      replace h := h.2
      refine q_alen20 C s9 dX5_addGroups_74 ?_
      refine q_icmp_ge (tgt := 109) C dX5_addGroups_75 (by decide) (fun c10 => ?_) (fun c10 => ?_)
      · replace h := h.1 c10
        refine q_iinc (w := 1) (lo1 := [some (.ref a0), some (.ref a1), some (.int x2), some (.int x3), some (.int (x4 + 1)), some (.int x5), some (.int x6)]) C dX5_addGroups_109 rfl (by decide) (by decide) rfl ?_
        refine q_goto (tgt := 3) C dX5_addGroups_112 (by decide) ?_
        refine q_kill 5 (lo1 := [some (.ref a0), some (.ref a1), some (.int x2), some (.int x3), some (.int (x4 + 1)), none, some (.int x6)]) rfl ?_
        refine q_kill 6 (lo1 := [some (.ref a0), some (.ref a1), some (.int x2), some (.int x3), some (.int (x4 + 1)), none, none]) rfl ?_
        exact hT1 _ _ _ _ h
      · replace h := h.2 c10
        refine q_aload_n C dX5_addGroups_78 rfl ?_
        refine q_getP C fl_RX5_15 rfl s8 dX5_addGroups_79 ?_
        refine q_aload_n C dX5_addGroups_82 rfl ?_
        refine q_getI C fl_RX5_31 rfl s8 dX5_addGroups_83 ?_
        refine q_iload C dX5_addGroups_86 rfl ?_
        have s11 := h.1
        replace h := h.2
        refine q_iast C s9 s11 dX5_addGroups_88 (fun I12 eI12 => ?_)
        replace h := h I12 eI12
        refine q_aload_n C dX5_addGroups_89 rfl ?_
        refine q_getP C fl_RX5_19 rfl s8 dX5_addGroups_90 ?_
        refine q_aload_n C dX5_addGroups_93 rfl ?_
        refine q_getI C fl_RX5_31 rfl s8 dX5_addGroups_94 ?_
        refine q_iload_n C dX5_addGroups_97 rfl ?_
        have s13 := h.1
        replace h := h.2
        have s14 := h.1
        replace h := h.2
        refine q_iast C s13 s14 dX5_addGroups_98 (fun I15 eI15 => ?_)
        replace h := h I15 eI15
        refine q_aload_n C dX5_addGroups_99 rfl ?_
        refine q_dup C dX5_addGroups_100 rfl ?_
        refine q_getI C fl_RX5_31 rfl s8 dX5_addGroups_101 ?_
        refine q_iconst (v := 1) C dX5_addGroups_104 (by decide) ?_
        refine q_iadd C dX5_addGroups_105 ?_
        refine q_putI C fl_RX5_31 (fun T hT => by cases hT; rfl) rfl s8 dX5_addGroups_106 (fun I16 eI16 => ?_)
        replace h := h I16 eI16
        refine q_iinc (w := 1) (lo1 := [some (.ref a0), some (.ref a1), some (.int x2), some (.int x3), some (.int (x4 + 1)), some (.int x5), some (.int x6)]) C dX5_addGroups_109 rfl (by decide) (by decide) rfl ?_
        refine q_goto (tgt := 3) C dX5_addGroups_112 (by decide) ?_
        refine q_kill 5 (lo1 := [some (.ref a0), some (.ref a1), some (.int x2), some (.int x3), some (.int (x4 + 1)), none, some (.int x6)]) rfl ?_
        refine q_kill 6 (lo1 := [some (.ref a0), some (.ref a1), some (.int x2), some (.int x3), some (.int (x4 + 1)), none, none]) rfl ?_
        exact hT1 _ _ _ _ h
  · replace h := h.2 c2
    refine q_aload_n C dX5_addGroups_31 rfl ?_
    refine q_iload C dX5_addGroups_32 rfl ?_
    refine q_iload_n C dX5_addGroups_34 rfl ?_
    refine q_cVi (as := [.int x6, .int x2]) (st := []) (r := a1) C mv_X2_told ml_RX5_51 dX5_addGroups_35 rfl s1 rfl (Nat.le_of_ble_eq_true rfl) ⟨Nat.le_refl _, Nat.le_refl _⟩ h (fun r17 I18 L19 P20 h => ?_)
    refine q_iload C dX5_addGroups_38 rfl ?_
    refine q_icmp_ne (tgt := 52) C dX5_addGroups_40 (by decide) (fun c21 => ?_) (fun c21 => ?_)
    · replace h := h.1 c21
      refine q_iinc (w := 1) (lo1 := [some (.ref a0), some (.ref a1), some (.int x2), some (.int x3), some (.int x4), some (.int x5), some (.int (x6 + 1))]) C dX5_addGroups_52 rfl (by decide) (by decide) rfl ?_
      refine q_goto (tgt := 22) C dX5_addGroups_55 (by decide) ?_
      exact hT2 _ _ _ _ _ _ h
    · replace h := h.2 c21
      refine q_iload C dX5_addGroups_43 rfl ?_
      refine q_iconst (v := 1) C dX5_addGroups_45 (by decide) ?_
      refine q_iload C dX5_addGroups_46 rfl ?_
      refine q_ishl C dX5_addGroups_48 ?_
      refine q_ior C dX5_addGroups_49 ?_
      refine q_istore (lo1 := [some (.ref a0), some (.ref a1), some (.int x2), some (.int x3), some (.int x4), some (.int (x5 ||| ((1 : Int32) <<< (x6 &&& 31)))), some (.int x6)]) C dX5_addGroups_50 (by decide) rfl ?_
      refine q_iinc (w := 1) (lo1 := [some (.ref a0), some (.ref a1), some (.int x2), some (.int x3), some (.int x4), some (.int (x5 ||| ((1 : Int32) <<< (x6 &&& 31)))), some (.int (x6 + 1))]) C dX5_addGroups_52 rfl (by decide) (by decide) rfl ?_
      refine q_goto (tgt := 22) C dX5_addGroups_55 (by decide) ?_
      exact hT2 _ _ _ _ _ _ h
theorem sp_X5_addGroups {d : Nat} {sh : List qSh} {K : Option Value → qMI → qML → qMP → Prop} {a0 : Nat} {a1 : Nat} {x2 : Int32} {x3 : Int32} {I : qMI} {L : qML} {P : qMP} (T1 : Int32 → qMI → qML → qMP → Prop) (m1 : Int32 → qMI → qML → qMP → Nat) (T2 : Int32 → Int32 → Int32 → qMI → qML → qMP → Prop) (m2 : Int32 → Int32 → Int32 → qMI → qML → qMP → Nat) (h0 : vc_X5_addGroups_0 d sh K T1 T2 a0 a1 x2 x3 I L P)
    (h1 : ∀ (x4 : Int32) (I : qMI) (L : qML) (P : qMP), T1 x4 I L P → vc_X5_addGroups_1 d sh K (fun w0 I' L' P' => T1 w0 I' L' P' ∧ m1 w0 I' L' P' < m1 x4 I L P) (fun w0 w1 w2 I' L' P' => T2 w0 w1 w2 I' L' P' ∧ m2 w0 w1 w2 I' L' P' < m1 x4 I L P) a0 a1 x2 x3 x4 I L P)
    (h2 : ∀ (x4 : Int32) (x5 : Int32) (x6 : Int32) (I : qMI) (L : qML) (P : qMP), T2 x4 x5 x6 I L P → vc_X5_addGroups_2 d sh K (fun w0 I' L' P' => T1 w0 I' L' P' ∧ m1 w0 I' L' P' < m2 x4 x5 x6 I L P) (fun w0 w1 w2 I' L' P' => T2 w0 w1 w2 I' L' P' ∧ m2 w0 w1 w2 I' L' P' < m2 x4 x5 x6 I L P) a0 a1 x2 x3 x4 x5 x6 I L P) : Sq (d + 1) mX5_addGroups sh [.ref a0, .ref a1, .int x2, .int x3] I L P K := by
  refine Sq_of (by decide +kernel) (Nat.le_of_ble_eq_true rfl) (fun X C hk hn => ?_)
  have go : ∀ N : Nat, (∀ (x4 : Int32) (I : qMI) (L : qML) (P : qMP), T1 x4 I L P → m1 x4 I L P < N → qG X 3 [some (.ref a0), some (.ref a1), some (.int x2), some (.int x3), some (.int x4), none, none] [] sh I L P 0 0) ∧ (∀ (x4 : Int32) (x5 : Int32) (x6 : Int32) (I : qMI) (L : qML) (P : qMP), T2 x4 x5 x6 I L P → m2 x4 x5 x6 I L P < N → qG X 22 [some (.ref a0), some (.ref a1), some (.int x2), some (.int x3), some (.int x4), some (.int x5), some (.int x6)] [] sh I L P 0 0) := by
    intro N
    induction N with
    | zero => exact ⟨fun _ _ _ _ _ q => absurd q (Nat.not_lt_zero _), fun _ _ _ _ _ _ _ q => absurd q (Nat.not_lt_zero _)⟩
    | succ N ih =>
      exact ⟨fun b0 I1 L1 P1 t q => rg_X5_addGroups_1 C hk (fun z0 I2 L2 P2 z => ih.1 z0 I2 L2 P2 z.1 (Nat.lt_of_lt_of_le z.2 (Nat.le_of_lt_succ q))) (fun z0 z1 z2 I2 L2 P2 z => ih.2 z0 z1 z2 I2 L2 P2 z.1 (Nat.lt_of_lt_of_le z.2 (Nat.le_of_lt_succ q))) (h1 b0 I1 L1 P1 t), fun b0 b1 b2 I1 L1 P1 t q => rg_X5_addGroups_2 C hk (fun z0 I2 L2 P2 z => ih.1 z0 I2 L2 P2 z.1 (Nat.lt_of_lt_of_le z.2 (Nat.le_of_lt_succ q))) (fun z0 z1 z2 I2 L2 P2 z => ih.2 z0 z1 z2 I2 L2 P2 z.1 (Nat.lt_of_lt_of_le z.2 (Nat.le_of_lt_succ q))) (h2 b0 b1 b2 I1 L1 P1 t)⟩
  exact rg_X5_addGroups_0 C hk (fun b0 I1 L1 P1 t => (go (m1 b0 I1 L1 P1 + 1)).1 b0 I1 L1 P1 t (Nat.lt_succ_self _)) (fun b0 b1 b2 I1 L1 P1 t => (go (m2 b0 b1 b2 I1 L1 P1 + 1)).2 b0 b1 b2 I1 L1 P1 t (Nat.lt_succ_self _)) h0
/-! BracketDraws$Rules.fits(II)Z -/
def vc_X5_fits_0 (d : Nat) (sh : List qSh) (K : Option Value → qMI → qML → qMP → Prop) (a0 : Nat) (x1 : Int32) (x2 : Int32) (I : qMI) (L : qML) (P : qMP) : Prop :=
  Sq d mJ6_bitCount_0f7a4 sh [.int x1] I L P (KI fun r1 I2 L3 P4 => ((shp sh a0).1 = 5) ∧ (Sq d mX5_sizeFits sh [.ref a0, .int r1, .int x2] I2 L3 P4 (KI fun r6 I7 L8 P9 => ((r6 = 0) → (K (some (.int 0)) I7 L8 P9)) ∧ ((¬ r6 = 0) → (((¬ x2 = 1) → (Sq d mX5_tooClose sh [.ref a0, .int x1, .int x2] I7 L8 P9 (KI fun r12 I13 L14 P15 => ((¬ r12 = 0) → (K (some (.int 0)) I13 L14 P15)) ∧ ((r12 = 0) → (Sq d mX5_watchedFits sh [.ref a0, .int (x1 &&& (I13 a0 6)), .int x2] I13 L14 P15 (KI fun r17 I18 L19 P20 => ((r17 = 0) → (K (some (.int 0)) I18 L19 P20)) ∧ ((¬ r17 = 0) → (K (some (.int 1)) I18 L19 P20)))))))) ∧ ((x2 = 1) → ((((x1 &&& (I7 a0 2)) = 0) → (Sq d mX5_tooClose sh [.ref a0, .int x1, .int x2] I7 L8 P9 (KI fun r23 I24 L25 P26 => ((¬ r23 = 0) → (K (some (.int 0)) I24 L25 P26)) ∧ ((r23 = 0) → (Sq d mX5_watchedFits sh [.ref a0, .int (x1 &&& (I24 a0 6)), .int x2] I24 L25 P26 (KI fun r28 I29 L30 P31 => ((r28 = 0) → (K (some (.int 0)) I29 L30 P31)) ∧ ((¬ r28 = 0) → (K (some (.int 1)) I29 L30 P31)))))))) ∧ ((¬ (x1 &&& (I7 a0 2)) = 0) → (Sq d mX5_severalOf sh [.int x1] I7 L8 P9 (KI fun r33 I34 L35 P36 => ((¬ r33 = 0) → (K (some (.int 0)) I34 L35 P36)) ∧ ((r33 = 0) → (Sq d mX5_tooClose sh [.ref a0, .int x1, .int x2] I34 L35 P36 (KI fun r38 I39 L40 P41 => ((¬ r38 = 0) → (K (some (.int 0)) I39 L40 P41)) ∧ ((r38 = 0) → (Sq d mX5_watchedFits sh [.ref a0, .int (x1 &&& (I39 a0 6)), .int x2] I39 L40 P41 (KI fun r43 I44 L45 P46 => ((r43 = 0) → (K (some (.int 0)) I44 L45 P46)) ∧ ((¬ r43 = 0) → (K (some (.int 1)) I44 L45 P46))))))))))))))))))
set_option maxRecDepth 100000 in
set_option maxHeartbeats 4000000 in
theorem rg_X5_fits_0 {X : qCT} {d : Nat} {sh : List qSh} {K : Option Value → qMI → qML → qMP → Prop} {a0 : Nat} {x1 : Int32} {x2 : Int32} {I : qMI} {L : qML} {P : qMP} (C : qCB X RX5 cX5_fits 3 (d + 1) 0 0) (hk : qCK X (some .boolean) 0 0 (fun v sh' I' L' P' => sh' = sh ∧ K v I' L' P')) (h : vc_X5_fits_0 d sh K a0 x1 x2 I L P) : qG X 0 [some (.ref a0), some (.int x1), some (.int x2)] [] sh I L P 0 0 := by
  unfold vc_X5_fits_0 at h
  refine q_aload_n C dX5_fits_0 rfl ?_
  refine q_iload_n C dX5_fits_1 rfl ?_
  refine q_cSi (as := [.int x1]) (st := [.ref a0]) C ms_J6_bitCount_0f7a4 ml_RX5_75 dX5_fits_2 rfl rfl (Nat.le_of_ble_eq_true rfl) ⟨Nat.le_refl _, Nat.le_refl _⟩ h (fun r1 I2 L3 P4 h => ?_)
  refine q_iload_n C dX5_fits_5 rfl ?_
  have s5 := h.1
  replace h := h.2
  refine q_cVi (as := [.int r1, .int x2]) (st := []) (r := a0) C mv_X5_sizeFits ml_RX5_80 dX5_fits_6 rfl s5 rfl (Nat.le_of_ble_eq_true rfl) ⟨Nat.le_refl _, Nat.le_refl _⟩ h (fun r6 I7 L8 P9 h => ?_)
  refine q_if_eq (tgt := 60) C dX5_fits_9 (by decide) (fun c10 => ?_) (fun c10 => ?_)
  · replace h := h.1 c10
    refine q_iconst (v := 0) C dX5_fits_60 (by decide) ?_
    exact q_zret C hk (Or.inl rfl) dX5_fits_61 ⟨rfl, h⟩
  · replace h := h.2 c10
    refine q_iload_n C dX5_fits_12 rfl ?_
    refine q_iconst (v := 1) C dX5_fits_13 (by decide) ?_
    refine q_icmp_ne (tgt := 33) C dX5_fits_14 (by decide) (fun c11 => ?_) (fun c11 => ?_)
    · replace h := h.1 c11
      refine q_aload_n C dX5_fits_33 rfl ?_
      refine q_iload_n C dX5_fits_34 rfl ?_
      refine q_iload_n C dX5_fits_35 rfl ?_
      refine q_cVi (as := [.int x1, .int x2]) (st := []) (r := a0) C mv_X5_tooClose ml_RX5_84 dX5_fits_36 rfl s5 rfl (Nat.le_of_ble_eq_true rfl) ⟨Nat.le_refl _, Nat.le_refl _⟩ h (fun r12 I13 L14 P15 h => ?_)
      refine q_if_ne (tgt := 60) C dX5_fits_39 (by decide) (fun c16 => ?_) (fun c16 => ?_)
      · replace h := h.1 c16
        refine q_iconst (v := 0) C dX5_fits_60 (by decide) ?_
        exact q_zret C hk (Or.inl rfl) dX5_fits_61 ⟨rfl, h⟩
      · replace h := h.2 c16
        refine q_aload_n C dX5_fits_42 rfl ?_
        refine q_iload_n C dX5_fits_43 rfl ?_
        refine q_aload_n C dX5_fits_44 rfl ?_
        refine q_getI C fl_RX5_58 rfl s5 dX5_fits_45 ?_
        refine q_iand C dX5_fits_48 ?_
        refine q_iload_n C dX5_fits_49 rfl ?_
        refine q_cVi (as := [.int (x1 &&& (I13 a0 6)), .int x2]) (st := []) (r := a0) C mv_X5_watchedFits ml_RX5_87 dX5_fits_50 rfl s5 rfl (Nat.le_of_ble_eq_true rfl) ⟨Nat.le_refl _, Nat.le_refl _⟩ h (fun r17 I18 L19 P20 h => ?_)
        refine q_if_eq (tgt := 60) C dX5_fits_53 (by decide) (fun c21 => ?_) (fun c21 => ?_)
        · replace h := h.1 c21
          refine q_iconst (v := 0) C dX5_fits_60 (by decide) ?_
          exact q_zret C hk (Or.inl rfl) dX5_fits_61 ⟨rfl, h⟩
        · replace h := h.2 c21
          refine q_iconst (v := 1) C dX5_fits_56 (by decide) ?_
          refine q_goto (tgt := 61) C dX5_fits_57 (by decide) ?_
          exact q_zret C hk (Or.inr rfl) dX5_fits_61 ⟨rfl, h⟩
    · replace h := h.2 c11
      refine q_iload_n C dX5_fits_17 rfl ?_
      refine q_aload_n C dX5_fits_18 rfl ?_
      refine q_getI C fl_RX5_48 rfl s5 dX5_fits_19 ?_
      refine q_iand C dX5_fits_22 ?_
      refine q_if_eq (tgt := 33) C dX5_fits_23 (by decide) (fun c22 => ?_) (fun c22 => ?_)
      · replace h := h.1 c22
        refine q_aload_n C dX5_fits_33 rfl ?_
        refine q_iload_n C dX5_fits_34 rfl ?_
        refine q_iload_n C dX5_fits_35 rfl ?_
        refine q_cVi (as := [.int x1, .int x2]) (st := []) (r := a0) C mv_X5_tooClose ml_RX5_84 dX5_fits_36 rfl s5 rfl (Nat.le_of_ble_eq_true rfl) ⟨Nat.le_refl _, Nat.le_refl _⟩ h (fun r23 I24 L25 P26 h => ?_)
        refine q_if_ne (tgt := 60) C dX5_fits_39 (by decide) (fun c27 => ?_) (fun c27 => ?_)
        · replace h := h.1 c27
          refine q_iconst (v := 0) C dX5_fits_60 (by decide) ?_
          exact q_zret C hk (Or.inl rfl) dX5_fits_61 ⟨rfl, h⟩
        · replace h := h.2 c27
          refine q_aload_n C dX5_fits_42 rfl ?_
          refine q_iload_n C dX5_fits_43 rfl ?_
          refine q_aload_n C dX5_fits_44 rfl ?_
          refine q_getI C fl_RX5_58 rfl s5 dX5_fits_45 ?_
          refine q_iand C dX5_fits_48 ?_
          refine q_iload_n C dX5_fits_49 rfl ?_
          refine q_cVi (as := [.int (x1 &&& (I24 a0 6)), .int x2]) (st := []) (r := a0) C mv_X5_watchedFits ml_RX5_87 dX5_fits_50 rfl s5 rfl (Nat.le_of_ble_eq_true rfl) ⟨Nat.le_refl _, Nat.le_refl _⟩ h (fun r28 I29 L30 P31 h => ?_)
          refine q_if_eq (tgt := 60) C dX5_fits_53 (by decide) (fun c32 => ?_) (fun c32 => ?_)
          · replace h := h.1 c32
            refine q_iconst (v := 0) C dX5_fits_60 (by decide) ?_
            exact q_zret C hk (Or.inl rfl) dX5_fits_61 ⟨rfl, h⟩
          · replace h := h.2 c32
            refine q_iconst (v := 1) C dX5_fits_56 (by decide) ?_
            refine q_goto (tgt := 61) C dX5_fits_57 (by decide) ?_
            exact q_zret C hk (Or.inr rfl) dX5_fits_61 ⟨rfl, h⟩
      · replace h := h.2 c22
        refine q_iload_n C dX5_fits_26 rfl ?_
        refine q_cSi (as := [.int x1]) (st := []) C ms_X5_severalOf ml_RX5_71 dX5_fits_27 rfl rfl (Nat.le_of_ble_eq_true rfl) ⟨Nat.le_refl _, Nat.le_refl _⟩ h (fun r33 I34 L35 P36 h => ?_)
        refine q_if_ne (tgt := 60) C dX5_fits_30 (by decide) (fun c37 => ?_) (fun c37 => ?_)
        · replace h := h.1 c37
          refine q_iconst (v := 0) C dX5_fits_60 (by decide) ?_
          exact q_zret C hk (Or.inl rfl) dX5_fits_61 ⟨rfl, h⟩
        · replace h := h.2 c37
          refine q_aload_n C dX5_fits_33 rfl ?_
          refine q_iload_n C dX5_fits_34 rfl ?_
          refine q_iload_n C dX5_fits_35 rfl ?_
          refine q_cVi (as := [.int x1, .int x2]) (st := []) (r := a0) C mv_X5_tooClose ml_RX5_84 dX5_fits_36 rfl s5 rfl (Nat.le_of_ble_eq_true rfl) ⟨Nat.le_refl _, Nat.le_refl _⟩ h (fun r38 I39 L40 P41 h => ?_)
          refine q_if_ne (tgt := 60) C dX5_fits_39 (by decide) (fun c42 => ?_) (fun c42 => ?_)
          · replace h := h.1 c42
            refine q_iconst (v := 0) C dX5_fits_60 (by decide) ?_
            exact q_zret C hk (Or.inl rfl) dX5_fits_61 ⟨rfl, h⟩
          · replace h := h.2 c42
            refine q_aload_n C dX5_fits_42 rfl ?_
            refine q_iload_n C dX5_fits_43 rfl ?_
            refine q_aload_n C dX5_fits_44 rfl ?_
            refine q_getI C fl_RX5_58 rfl s5 dX5_fits_45 ?_
            refine q_iand C dX5_fits_48 ?_
            refine q_iload_n C dX5_fits_49 rfl ?_
            refine q_cVi (as := [.int (x1 &&& (I39 a0 6)), .int x2]) (st := []) (r := a0) C mv_X5_watchedFits ml_RX5_87 dX5_fits_50 rfl s5 rfl (Nat.le_of_ble_eq_true rfl) ⟨Nat.le_refl _, Nat.le_refl _⟩ h (fun r43 I44 L45 P46 h => ?_)
            refine q_if_eq (tgt := 60) C dX5_fits_53 (by decide) (fun c47 => ?_) (fun c47 => ?_)
            · replace h := h.1 c47
              refine q_iconst (v := 0) C dX5_fits_60 (by decide) ?_
              exact q_zret C hk (Or.inl rfl) dX5_fits_61 ⟨rfl, h⟩
            · replace h := h.2 c47
              refine q_iconst (v := 1) C dX5_fits_56 (by decide) ?_
              refine q_goto (tgt := 61) C dX5_fits_57 (by decide) ?_
              exact q_zret C hk (Or.inr rfl) dX5_fits_61 ⟨rfl, h⟩
theorem sp_X5_fits {d : Nat} {sh : List qSh} {K : Option Value → qMI → qML → qMP → Prop} {a0 : Nat} {x1 : Int32} {x2 : Int32} {I : qMI} {L : qML} {P : qMP} (h0 : vc_X5_fits_0 d sh K a0 x1 x2 I L P) : Sq (d + 1) mX5_fits sh [.ref a0, .int x1, .int x2] I L P K := by
  refine Sq_of (by decide +kernel) (Nat.le_of_ble_eq_true rfl) (fun X C hk hn => ?_)
  exact rg_X5_fits_0 C hk h0
/-! BracketDraws$Rules.sizeFits(II)Z -/
def vc_X5_sizeFits_0 (d : Nat) (sh : List qSh) (K : Option Value → qMI → qML → qMP → Prop) (a0 : Nat) (x1 : Int32) (x2 : Int32) (I : qMI) (L : qML) (P : qMP) : Prop :=
  ((shp sh a0).1 = 5) ∧ (((x1 < (if (((1 : Int32) <<< (x2 &&& 31)) / 2) < ((I a0 0) - ((I a0 1) - ((1 : Int32) <<< (x2 &&& 31)))) then ((I a0 0) - ((I a0 1) - ((1 : Int32) <<< (x2 &&& 31)))) else (((1 : Int32) <<< (x2 &&& 31)) / 2))) → (K (some (.int 0)) I L P)) ∧ ((¬ x1 < (if (((1 : Int32) <<< (x2 &&& 31)) / 2) < ((I a0 0) - ((I a0 1) - ((1 : Int32) <<< (x2 &&& 31)))) then ((I a0 0) - ((I a0 1) - ((1 : Int32) <<< (x2 &&& 31)))) else (((1 : Int32) <<< (x2 &&& 31)) / 2))) → ((((if ((I a0 0) - (((I a0 1) - ((1 : Int32) <<< (x2 &&& 31))) / 2)) < ((1 : Int32) <<< (x2 &&& 31)) then ((I a0 0) - (((I a0 1) - ((1 : Int32) <<< (x2 &&& 31))) / 2)) else ((1 : Int32) <<< (x2 &&& 31))) < x1) → (K (some (.int 0)) I L P)) ∧ ((¬ (if ((I a0 0) - (((I a0 1) - ((1 : Int32) <<< (x2 &&& 31))) / 2)) < ((1 : Int32) <<< (x2 &&& 31)) then ((I a0 0) - (((I a0 1) - ((1 : Int32) <<< (x2 &&& 31))) / 2)) else ((1 : Int32) <<< (x2 &&& 31))) < x1) → (K (some (.int 1)) I L P)))))
set_option maxRecDepth 100000 in
set_option maxHeartbeats 4000000 in
theorem rg_X5_sizeFits_0 {X : qCT} {d : Nat} {sh : List qSh} {K : Option Value → qMI → qML → qMP → Prop} {a0 : Nat} {x1 : Int32} {x2 : Int32} {I : qMI} {L : qML} {P : qMP} (C : qCB X RX5 cX5_sizeFits 7 (d + 1) 0 0) (hk : qCK X (some .boolean) 0 0 (fun v sh' I' L' P' => sh' = sh ∧ K v I' L' P')) (h : vc_X5_sizeFits_0 d sh K a0 x1 x2 I L P) : qG X 0 [some (.ref a0), some (.int x1), some (.int x2), none, none, none, none] [] sh I L P 0 0 := by
  unfold vc_X5_sizeFits_0 at h
  refine q_iconst (v := 1) C dX5_sizeFits_0 (by decide) ?_
  refine q_iload_n C dX5_sizeFits_1 rfl ?_
  refine q_ishl C dX5_sizeFits_2 ?_
  refine q_istore_n (lo1 := [some (.ref a0), some (.int x1), some (.int x2), some (.int ((1 : Int32) <<< (x2 &&& 31))), none, none, none]) C dX5_sizeFits_3 (by decide) rfl ?_
  refine q_aload_n C dX5_sizeFits_4 rfl ?_
  have s1 := h.1
  replace h := h.2
  refine q_getI C fl_RX5_9 rfl s1 dX5_sizeFits_5 ?_
  refine q_iload_n C dX5_sizeFits_8 rfl ?_
  refine q_isub C dX5_sizeFits_9 ?_
  refine q_istore (lo1 := [some (.ref a0), some (.int x1), some (.int x2), some (.int ((1 : Int32) <<< (x2 &&& 31))), some (.int ((I a0 1) - ((1 : Int32) <<< (x2 &&& 31)))), none, none]) C dX5_sizeFits_10 (by decide) rfl ?_
  refine q_iload_n C dX5_sizeFits_12 rfl ?_
  refine q_iconst (v := 2) C dX5_sizeFits_13 (by decide) ?_
  refine q_idiv C dX5_sizeFits_14 (by decide) ?_
  refine q_aload_n C dX5_sizeFits_15 rfl ?_
  refine q_getI C fl_RX5_27 rfl s1 dX5_sizeFits_16 ?_
  refine q_iload C dX5_sizeFits_19 rfl ?_
  refine q_isub C dX5_sizeFits_21 ?_
  refine q_mmax C ⟨Nat.le_refl _, Nat.le_refl _⟩ ml_RX5_90 (Nat.le_of_ble_eq_true rfl) dX5_sizeFits_22 ?_
  refine q_istore (lo1 := [some (.ref a0), some (.int x1), some (.int x2), some (.int ((1 : Int32) <<< (x2 &&& 31))), some (.int ((I a0 1) - ((1 : Int32) <<< (x2 &&& 31)))), some (.int (if (((1 : Int32) <<< (x2 &&& 31)) / 2) < ((I a0 0) - ((I a0 1) - ((1 : Int32) <<< (x2 &&& 31)))) then ((I a0 0) - ((I a0 1) - ((1 : Int32) <<< (x2 &&& 31)))) else (((1 : Int32) <<< (x2 &&& 31)) / 2))), none]) C dX5_sizeFits_25 (by decide) rfl ?_
  refine q_iload_n C dX5_sizeFits_27 rfl ?_
  refine q_aload_n C dX5_sizeFits_28 rfl ?_
  refine q_getI C fl_RX5_27 rfl s1 dX5_sizeFits_29 ?_
  refine q_iload C dX5_sizeFits_32 rfl ?_
  refine q_iconst (v := 2) C dX5_sizeFits_34 (by decide) ?_
  refine q_idiv C dX5_sizeFits_35 (by decide) ?_
  refine q_isub C dX5_sizeFits_36 ?_
  refine q_mmin C ⟨Nat.le_refl _, Nat.le_refl _⟩ ml_RX5_95 (Nat.le_of_ble_eq_true rfl) dX5_sizeFits_37 ?_
  refine q_istore (lo1 := [some (.ref a0), some (.int x1), some (.int x2), some (.int ((1 : Int32) <<< (x2 &&& 31))), some (.int ((I a0 1) - ((1 : Int32) <<< (x2 &&& 31)))), some (.int (if (((1 : Int32) <<< (x2 &&& 31)) / 2) < ((I a0 0) - ((I a0 1) - ((1 : Int32) <<< (x2 &&& 31)))) then ((I a0 0) - ((I a0 1) - ((1 : Int32) <<< (x2 &&& 31)))) else (((1 : Int32) <<< (x2 &&& 31)) / 2))), some (.int (if ((I a0 0) - (((I a0 1) - ((1 : Int32) <<< (x2 &&& 31))) / 2)) < ((1 : Int32) <<< (x2 &&& 31)) then ((I a0 0) - (((I a0 1) - ((1 : Int32) <<< (x2 &&& 31))) / 2)) else ((1 : Int32) <<< (x2 &&& 31))))]) C dX5_sizeFits_40 (by decide) rfl ?_
  refine q_iload_n C dX5_sizeFits_42 rfl ?_
  refine q_iload C dX5_sizeFits_43 rfl ?_
  refine q_icmp_lt (tgt := 58) C dX5_sizeFits_45 (by decide) (fun c2 => ?_) (fun c2 => ?_)
  · replace h := h.1 c2
    refine q_iconst (v := 0) C dX5_sizeFits_58 (by decide) ?_
    exact q_zret C hk (Or.inl rfl) dX5_sizeFits_59 ⟨rfl, h⟩
  · replace h := h.2 c2
    refine q_iload_n C dX5_sizeFits_48 rfl ?_
    refine q_iload C dX5_sizeFits_49 rfl ?_
    refine q_icmp_gt (tgt := 58) C dX5_sizeFits_51 (by decide) (fun c3 => ?_) (fun c3 => ?_)
    · replace h := h.1 c3
      refine q_iconst (v := 0) C dX5_sizeFits_58 (by decide) ?_
      exact q_zret C hk (Or.inl rfl) dX5_sizeFits_59 ⟨rfl, h⟩
    · replace h := h.2 c3
      refine q_iconst (v := 1) C dX5_sizeFits_54 (by decide) ?_
      refine q_goto (tgt := 59) C dX5_sizeFits_55 (by decide) ?_
      exact q_zret C hk (Or.inr rfl) dX5_sizeFits_59 ⟨rfl, h⟩
theorem sp_X5_sizeFits {d : Nat} {sh : List qSh} {K : Option Value → qMI → qML → qMP → Prop} {a0 : Nat} {x1 : Int32} {x2 : Int32} {I : qMI} {L : qML} {P : qMP} (h0 : vc_X5_sizeFits_0 d sh K a0 x1 x2 I L P) : Sq (d + 1) mX5_sizeFits sh [.ref a0, .int x1, .int x2] I L P K := by
  refine Sq_of (by decide +kernel) (Nat.le_of_ble_eq_true rfl) (fun X C hk hn => ?_)
  exact rg_X5_sizeFits_0 C hk h0
/-! BracketDraws$Rules.tooClose(II)Z -/
def vc_X5_tooClose_0 (d : Nat) (sh : List qSh) (K : Option Value → qMI → qML → qMP → Prop) (T1 : Int32 → qMI → qML → qMP → Prop) (a0 : Nat) (x1 : Int32) (x2 : Int32) (I : qMI) (L : qML) (P : qMP) : Prop :=
  T1 0 I L P
set_option maxRecDepth 100000 in
set_option maxHeartbeats 4000000 in
theorem rg_X5_tooClose_0 {X : qCT} {d : Nat} {sh : List qSh} {K : Option Value → qMI → qML → qMP → Prop} {T1 : Int32 → qMI → qML → qMP → Prop} {a0 : Nat} {x1 : Int32} {x2 : Int32} {I : qMI} {L : qML} {P : qMP} (C : qCB X RX5 cX5_tooClose 4 (d + 1) 0 0) (hk : qCK X (some .boolean) 0 0 (fun v sh' I' L' P' => sh' = sh ∧ K v I' L' P')) (hT1 : ∀ (x3 : Int32) (I : qMI) (L : qML) (P : qMP), T1 x3 I L P → qG X 2 [some (.ref a0), some (.int x1), some (.int x2), some (.int x3)] [] sh I L P 0 0) (h : vc_X5_tooClose_0 d sh K T1 a0 x1 x2 I L P) : qG X 0 [some (.ref a0), some (.int x1), some (.int x2), none] [] sh I L P 0 0 := by
  unfold vc_X5_tooClose_0 at h
  refine q_iconst (v := 0) C dX5_tooClose_0 (by decide) ?_
  refine q_istore_n (lo1 := [some (.ref a0), some (.int x1), some (.int x2), some (.int 0)]) C dX5_tooClose_1 (by decide) rfl ?_
  exact hT1 _ _ _ _ h
def vc_X5_tooClose_1 (d : Nat) (sh : List qSh) (K : Option Value → qMI → qML → qMP → Prop) (T1 : Int32 → qMI → qML → qMP → Prop) (a0 : Nat) (x1 : Int32) (x2 : Int32) (x3 : Int32) (I : qMI) (L : qML) (P : qMP) : Prop :=
  ((shp sh a0).1 = 5) ∧ ((((I a0 5) ≤ x3) → (K (some (.int 0)) I L P)) ∧ ((¬ (I a0 5) ≤ x3) → (((shp sh (P a0 3)).1 = 20) ∧ ((((nI (shp sh (P a0 3)).2) ≤ x3) → (K (some (.int 0)) I L P)) ∧ ((¬ (nI (shp sh (P a0 3)).2) ≤ x3) → (((shp sh (P a0 4)).1 = 20) ∧ ((vp_in x3 (shp sh (P a0 4)).2) ∧ ((((I (P a0 4) (Int32.toNatClampNeg x3)) < x2) → (T1 (x3 + 1) I L P)) ∧ ((¬ (I (P a0 4) (Int32.toNatClampNeg x3)) < x2) → ((vp_in x3 (shp sh (P a0 3)).2) ∧ (Sq d mX5_severalOf sh [.int (x1 &&& (I (P a0 3) (Int32.toNatClampNeg x3)))] I L P (KI fun r9 I10 L11 P12 => ((r9 = 0) → (T1 (x3 + 1) I10 L11 P12)) ∧ ((¬ r9 = 0) → (K (some (.int 1)) I10 L11 P12))))))))))))))
set_option maxRecDepth 100000 in
set_option maxHeartbeats 4000000 in
theorem rg_X5_tooClose_1 {X : qCT} {d : Nat} {sh : List qSh} {K : Option Value → qMI → qML → qMP → Prop} {T1 : Int32 → qMI → qML → qMP → Prop} {a0 : Nat} {x1 : Int32} {x2 : Int32} {x3 : Int32} {I : qMI} {L : qML} {P : qMP} (C : qCB X RX5 cX5_tooClose 4 (d + 1) 0 0) (hk : qCK X (some .boolean) 0 0 (fun v sh' I' L' P' => sh' = sh ∧ K v I' L' P')) (hT1 : ∀ (x3 : Int32) (I : qMI) (L : qML) (P : qMP), T1 x3 I L P → qG X 2 [some (.ref a0), some (.int x1), some (.int x2), some (.int x3)] [] sh I L P 0 0) (h : vc_X5_tooClose_1 d sh K T1 a0 x1 x2 x3 I L P) : qG X 2 [some (.ref a0), some (.int x1), some (.int x2), some (.int x3)] [] sh I L P 0 0 := by
  unfold vc_X5_tooClose_1 at h
  refine q_iload_n C dX5_tooClose_2 rfl ?_
  refine q_aload_n C dX5_tooClose_3 rfl ?_
  have s1 := h.1
  replace h := h.2
  refine q_getI C fl_RX5_31 rfl s1 dX5_tooClose_4 ?_
  refine q_icmp_ge (tgt := 51) C dX5_tooClose_7 (by decide) (fun c2 => ?_) (fun c2 => ?_)
  · replace h := h.1 c2
    refine q_iconst (v := 0) C dX5_tooClose_51 (by decide) ?_
    exact q_zret C hk (Or.inl rfl) dX5_tooClose_52 ⟨rfl, h⟩
  · replace h := h.2 c2
    refine q_iload_n C dX5_tooClose_10 rfl ?_
    refine q_aload_n C dX5_tooClose_11 rfl ?_
    refine q_getP C fl_RX5_15 rfl s1 dX5_tooClose_12 ?_
    have s3 := h.1
    replace h := h.2
    refine q_alen20 C s3 dX5_tooClose_15 ?_
    refine q_icmp_ge (tgt := 51) C dX5_tooClose_16 (by decide) (fun c4 => ?_) (fun c4 => ?_)
    · replace h := h.1 c4
      refine q_iconst (v := 0) C dX5_tooClose_51 (by decide) ?_
      exact q_zret C hk (Or.inl rfl) dX5_tooClose_52 ⟨rfl, h⟩
    · replace h := h.2 c4
      refine q_iload_n C dX5_tooClose_19 rfl ?_
      refine q_aload_n C dX5_tooClose_20 rfl ?_
      refine q_getP C fl_RX5_19 rfl s1 dX5_tooClose_21 ?_
      refine q_iload_n C dX5_tooClose_24 rfl ?_
      have s5 := h.1
      replace h := h.2
      have s6 := h.1
      replace h := h.2
      refine q_iald C s5 s6 dX5_tooClose_25 ?_
      refine q_icmp_gt (tgt := 45) C dX5_tooClose_26 (by decide) (fun c7 => ?_) (fun c7 => ?_)
      · replace h := h.1 c7
        refine q_iinc (w := 1) (lo1 := [some (.ref a0), some (.int x1), some (.int x2), some (.int (x3 + 1))]) C dX5_tooClose_45 rfl (by decide) (by decide) rfl ?_
        refine q_goto (tgt := 2) C dX5_tooClose_48 (by decide) ?_
        exact hT1 _ _ _ _ h
      · replace h := h.2 c7
        refine q_iload_n C dX5_tooClose_29 rfl ?_
        refine q_aload_n C dX5_tooClose_30 rfl ?_
        refine q_getP C fl_RX5_15 rfl s1 dX5_tooClose_31 ?_
        refine q_iload_n C dX5_tooClose_34 rfl ?_
        have s8 := h.1
        replace h := h.2
        refine q_iald C s3 s8 dX5_tooClose_35 ?_
        refine q_iand C dX5_tooClose_36 ?_
        refine q_cSi (as := [.int (x1 &&& (I (P a0 3) (Int32.toNatClampNeg x3)))]) (st := []) C ms_X5_severalOf ml_RX5_71 dX5_tooClose_37 rfl rfl (Nat.le_of_ble_eq_true rfl) ⟨Nat.le_refl _, Nat.le_refl _⟩ h (fun r9 I10 L11 P12 h => ?_)
        refine q_if_eq (tgt := 45) C dX5_tooClose_40 (by decide) (fun c13 => ?_) (fun c13 => ?_)
        · replace h := h.1 c13
          refine q_iinc (w := 1) (lo1 := [some (.ref a0), some (.int x1), some (.int x2), some (.int (x3 + 1))]) C dX5_tooClose_45 rfl (by decide) (by decide) rfl ?_
          refine q_goto (tgt := 2) C dX5_tooClose_48 (by decide) ?_
          exact hT1 _ _ _ _ h
        · replace h := h.2 c13
          refine q_iconst (v := 1) C dX5_tooClose_43 (by decide) ?_
          exact q_zret C hk (Or.inr rfl) dX5_tooClose_44 ⟨rfl, h⟩
theorem sp_X5_tooClose {d : Nat} {sh : List qSh} {K : Option Value → qMI → qML → qMP → Prop} {a0 : Nat} {x1 : Int32} {x2 : Int32} {I : qMI} {L : qML} {P : qMP} (T1 : Int32 → qMI → qML → qMP → Prop) (m1 : Int32 → qMI → qML → qMP → Nat) (h0 : vc_X5_tooClose_0 d sh K T1 a0 x1 x2 I L P)
    (h1 : ∀ (x3 : Int32) (I : qMI) (L : qML) (P : qMP), T1 x3 I L P → vc_X5_tooClose_1 d sh K (fun w0 I' L' P' => T1 w0 I' L' P' ∧ m1 w0 I' L' P' < m1 x3 I L P) a0 x1 x2 x3 I L P) : Sq (d + 1) mX5_tooClose sh [.ref a0, .int x1, .int x2] I L P K := by
  refine Sq_of (by decide +kernel) (Nat.le_of_ble_eq_true rfl) (fun X C hk hn => ?_)
  have go : ∀ N : Nat, (∀ (x3 : Int32) (I : qMI) (L : qML) (P : qMP), T1 x3 I L P → m1 x3 I L P < N → qG X 2 [some (.ref a0), some (.int x1), some (.int x2), some (.int x3)] [] sh I L P 0 0) := by
    intro N
    induction N with
    | zero => exact fun _ _ _ _ _ q => absurd q (Nat.not_lt_zero _)
    | succ N ih =>
      exact fun b0 I1 L1 P1 t q => rg_X5_tooClose_1 C hk (fun z0 I2 L2 P2 z => ih z0 I2 L2 P2 z.1 (Nat.lt_of_lt_of_le z.2 (Nat.le_of_lt_succ q))) (h1 b0 I1 L1 P1 t)
  exact rg_X5_tooClose_0 C hk (fun b0 I1 L1 P1 t => (go (m1 b0 I1 L1 P1 + 1)) b0 I1 L1 P1 t (Nat.lt_succ_self _)) h0
/-! BracketDraws$Rules.watchedFits(II)Z -/
def vc_X5_watchedFits_0 (d : Nat) (sh : List qSh) (K : Option Value → qMI → qML → qMP → Prop) (a0 : Nat) (x1 : Int32) (x2 : Int32) (I : qMI) (L : qML) (P : qMP) : Prop :=
  ((shp sh a0).1 = 5) ∧ (((¬ x2 = (I a0 7)) → (((¬ x2 = (I a0 8)) → (K (some (.int 1)) I L P)) ∧ ((x2 = (I a0 8)) → (((x1 = 0) → (K (some (.int 1)) I L P)) ∧ ((¬ x1 = 0) → (((¬ x1 = (I a0 6)) → (K (some (.int 0)) I L P)) ∧ ((x1 = (I a0 6)) → (K (some (.int 1)) I L P)))))))) ∧ ((x2 = (I a0 7)) → (Sq d mX5_severalOf sh [.int x1] I L P (KI fun r6 I7 L8 P9 => ((r6 = 0) → (((¬ x2 = (I7 a0 8)) → (K (some (.int 1)) I7 L8 P9)) ∧ ((x2 = (I7 a0 8)) → (((x1 = 0) → (K (some (.int 1)) I7 L8 P9)) ∧ ((¬ x1 = 0) → (((¬ x1 = (I7 a0 6)) → (K (some (.int 0)) I7 L8 P9)) ∧ ((x1 = (I7 a0 6)) → (K (some (.int 1)) I7 L8 P9)))))))) ∧ ((¬ r6 = 0) → (K (some (.int 0)) I7 L8 P9))))))
set_option maxRecDepth 100000 in
set_option maxHeartbeats 4000000 in
theorem rg_X5_watchedFits_0 {X : qCT} {d : Nat} {sh : List qSh} {K : Option Value → qMI → qML → qMP → Prop} {a0 : Nat} {x1 : Int32} {x2 : Int32} {I : qMI} {L : qML} {P : qMP} (C : qCB X RX5 cX5_watchedFits 3 (d + 1) 0 0) (hk : qCK X (some .boolean) 0 0 (fun v sh' I' L' P' => sh' = sh ∧ K v I' L' P')) (h : vc_X5_watchedFits_0 d sh K a0 x1 x2 I L P) : qG X 0 [some (.ref a0), some (.int x1), some (.int x2)] [] sh I L P 0 0 := by
  unfold vc_X5_watchedFits_0 at h
  refine q_iload_n C dX5_watchedFits_0 rfl ?_
  refine q_aload_n C dX5_watchedFits_1 rfl ?_
  have s1 := h.1
  replace h := h.2
  refine q_getI C fl_RX5_61 rfl s1 dX5_watchedFits_2 ?_
  refine q_icmp_ne (tgt := 17) C dX5_watchedFits_5 (by decide) (fun c2 => ?_) (fun c2 => ?_)
  · replace h := h.1 c2
    refine q_iload_n C dX5_watchedFits_17 rfl ?_
    refine q_aload_n C dX5_watchedFits_18 rfl ?_
    refine q_getI C fl_RX5_64 rfl s1 dX5_watchedFits_19 ?_
    refine q_icmp_ne (tgt := 37) C dX5_watchedFits_22 (by decide) (fun c3 => ?_) (fun c3 => ?_)
    · replace h := h.1 c3
      refine q_iconst (v := 1) C dX5_watchedFits_37 (by decide) ?_
      refine q_goto (tgt := 42) C dX5_watchedFits_38 (by decide) ?_
      exact q_zret C hk (Or.inr rfl) dX5_watchedFits_42 ⟨rfl, h⟩
    · replace h := h.2 c3
      refine q_iload_n C dX5_watchedFits_25 rfl ?_
      refine q_if_eq (tgt := 37) C dX5_watchedFits_26 (by decide) (fun c4 => ?_) (fun c4 => ?_)
      · replace h := h.1 c4
        refine q_iconst (v := 1) C dX5_watchedFits_37 (by decide) ?_
        refine q_goto (tgt := 42) C dX5_watchedFits_38 (by decide) ?_
        exact q_zret C hk (Or.inr rfl) dX5_watchedFits_42 ⟨rfl, h⟩
      · replace h := h.2 c4
        refine q_iload_n C dX5_watchedFits_29 rfl ?_
        refine q_aload_n C dX5_watchedFits_30 rfl ?_
        refine q_getI C fl_RX5_58 rfl s1 dX5_watchedFits_31 ?_
        refine q_icmp_ne (tgt := 41) C dX5_watchedFits_34 (by decide) (fun c5 => ?_) (fun c5 => ?_)
        · replace h := h.1 c5
          refine q_iconst (v := 0) C dX5_watchedFits_41 (by decide) ?_
          exact q_zret C hk (Or.inl rfl) dX5_watchedFits_42 ⟨rfl, h⟩
        · replace h := h.2 c5
          refine q_iconst (v := 1) C dX5_watchedFits_37 (by decide) ?_
          refine q_goto (tgt := 42) C dX5_watchedFits_38 (by decide) ?_
          exact q_zret C hk (Or.inr rfl) dX5_watchedFits_42 ⟨rfl, h⟩
  · replace h := h.2 c2
    refine q_iload_n C dX5_watchedFits_8 rfl ?_
    refine q_cSi (as := [.int x1]) (st := []) C ms_X5_severalOf ml_RX5_71 dX5_watchedFits_9 rfl rfl (Nat.le_of_ble_eq_true rfl) ⟨Nat.le_refl _, Nat.le_refl _⟩ h (fun r6 I7 L8 P9 h => ?_)
    refine q_if_eq (tgt := 17) C dX5_watchedFits_12 (by decide) (fun c10 => ?_) (fun c10 => ?_)
    · replace h := h.1 c10
      refine q_iload_n C dX5_watchedFits_17 rfl ?_
      refine q_aload_n C dX5_watchedFits_18 rfl ?_
      refine q_getI C fl_RX5_64 rfl s1 dX5_watchedFits_19 ?_
      refine q_icmp_ne (tgt := 37) C dX5_watchedFits_22 (by decide) (fun c11 => ?_) (fun c11 => ?_)
      · replace h := h.1 c11
        refine q_iconst (v := 1) C dX5_watchedFits_37 (by decide) ?_
        refine q_goto (tgt := 42) C dX5_watchedFits_38 (by decide) ?_
        exact q_zret C hk (Or.inr rfl) dX5_watchedFits_42 ⟨rfl, h⟩
      · replace h := h.2 c11
        refine q_iload_n C dX5_watchedFits_25 rfl ?_
        refine q_if_eq (tgt := 37) C dX5_watchedFits_26 (by decide) (fun c12 => ?_) (fun c12 => ?_)
        · replace h := h.1 c12
          refine q_iconst (v := 1) C dX5_watchedFits_37 (by decide) ?_
          refine q_goto (tgt := 42) C dX5_watchedFits_38 (by decide) ?_
          exact q_zret C hk (Or.inr rfl) dX5_watchedFits_42 ⟨rfl, h⟩
        · replace h := h.2 c12
          refine q_iload_n C dX5_watchedFits_29 rfl ?_
          refine q_aload_n C dX5_watchedFits_30 rfl ?_
          refine q_getI C fl_RX5_58 rfl s1 dX5_watchedFits_31 ?_
          refine q_icmp_ne (tgt := 41) C dX5_watchedFits_34 (by decide) (fun c13 => ?_) (fun c13 => ?_)
          · replace h := h.1 c13
            refine q_iconst (v := 0) C dX5_watchedFits_41 (by decide) ?_
            exact q_zret C hk (Or.inl rfl) dX5_watchedFits_42 ⟨rfl, h⟩
          · replace h := h.2 c13
            refine q_iconst (v := 1) C dX5_watchedFits_37 (by decide) ?_
            refine q_goto (tgt := 42) C dX5_watchedFits_38 (by decide) ?_
            exact q_zret C hk (Or.inr rfl) dX5_watchedFits_42 ⟨rfl, h⟩
    · replace h := h.2 c10
      refine q_iconst (v := 0) C dX5_watchedFits_15 (by decide) ?_
      exact q_zret C hk (Or.inl rfl) dX5_watchedFits_16 ⟨rfl, h⟩
theorem sp_X5_watchedFits {d : Nat} {sh : List qSh} {K : Option Value → qMI → qML → qMP → Prop} {a0 : Nat} {x1 : Int32} {x2 : Int32} {I : qMI} {L : qML} {P : qMP} (h0 : vc_X5_watchedFits_0 d sh K a0 x1 x2 I L P) : Sq (d + 1) mX5_watchedFits sh [.ref a0, .int x1, .int x2] I L P K := by
  refine Sq_of (by decide +kernel) (Nat.le_of_ble_eq_true rfl) (fun X C hk hn => ?_)
  exact rg_X5_watchedFits_0 C hk h0
/-! BracketDraws$Rules.severalOf(I)Z -/
def vc_X5_severalOf_0 (d : Nat) (sh : List qSh) (K : Option Value → qMI → qML → qMP → Prop) (x0 : Int32) (I : qMI) (L : qML) (P : qMP) : Prop :=
  (((x0 &&& (x0 - 1)) = 0) → (K (some (.int 0)) I L P)) ∧ ((¬ (x0 &&& (x0 - 1)) = 0) → (K (some (.int 1)) I L P))
set_option maxRecDepth 100000 in
set_option maxHeartbeats 4000000 in
theorem rg_X5_severalOf_0 {X : qCT} {d : Nat} {sh : List qSh} {K : Option Value → qMI → qML → qMP → Prop} {x0 : Int32} {I : qMI} {L : qML} {P : qMP} (C : qCB X RX5 cX5_severalOf 1 (d + 1) 0 0) (hk : qCK X (some .boolean) 0 0 (fun v sh' I' L' P' => sh' = sh ∧ K v I' L' P')) (h : vc_X5_severalOf_0 d sh K x0 I L P) : qG X 0 [some (.int x0)] [] sh I L P 0 0 := by
  unfold vc_X5_severalOf_0 at h
  refine q_iload_n C dX5_severalOf_0 rfl ?_
  refine q_iload_n C dX5_severalOf_1 rfl ?_
  refine q_iconst (v := 1) C dX5_severalOf_2 (by decide) ?_
  refine q_isub C dX5_severalOf_3 ?_
  refine q_iand C dX5_severalOf_4 ?_
  refine q_if_eq (tgt := 12) C dX5_severalOf_5 (by decide) (fun c1 => ?_) (fun c1 => ?_)
  · replace h := h.1 c1
    refine q_iconst (v := 0) C dX5_severalOf_12 (by decide) ?_
    exact q_zret C hk (Or.inl rfl) dX5_severalOf_13 ⟨rfl, h⟩
  · replace h := h.2 c1
    refine q_iconst (v := 1) C dX5_severalOf_8 (by decide) ?_
    refine q_goto (tgt := 13) C dX5_severalOf_9 (by decide) ?_
    exact q_zret C hk (Or.inr rfl) dX5_severalOf_13 ⟨rfl, h⟩
theorem sp_X5_severalOf {d : Nat} {sh : List qSh} {K : Option Value → qMI → qML → qMP → Prop} {x0 : Int32} {I : qMI} {L : qML} {P : qMP} (h0 : vc_X5_severalOf_0 d sh K x0 I L P) : Sq (d + 1) mX5_severalOf sh [.int x0] I L P K := by
  refine Sq_of (by decide +kernel) (Nat.le_of_ble_eq_true rfl) (fun X C hk hn => ?_)
  exact rg_X5_severalOf_0 C hk h0
/-! BracketDraws$Text.read(LBracketDraws$Entries;)I -/
def vc_X8_read_0 (d : Nat) (sh : List qSh) (K : Option Value → qMI → qML → qMP → Prop) (T1 : Int32 → qMI → qML → qMP → Prop) (a0 : Nat) (a1 : Nat) (I : qMI) (L : qML) (P : qMP) : Prop :=
  ((shp sh a0).1 = 8) ∧ (∀ I2 : qMI, I2 = uI I a0 3 0 → (((shp sh (P a0 0)).1 = 2) ∧ (Sq d mX2_copyFrom sh [.ref (P a0 0), .ref a1] I2 L P (KV fun I4 L5 P6 => ((shp sh a1).1 = 2) ∧ (T1 (I4 a1 0) I4 L5 P6)))))
set_option maxRecDepth 100000 in
set_option maxHeartbeats 4000000 in
theorem rg_X8_read_0 {X : qCT} {d : Nat} {sh : List qSh} {K : Option Value → qMI → qML → qMP → Prop} {T1 : Int32 → qMI → qML → qMP → Prop} {a0 : Nat} {a1 : Nat} {I : qMI} {L : qML} {P : qMP} (C : qCB X RX8 cX8_read 3 (d + 1) 0 0) (hk : qCK X (some .int) 0 0 (fun v sh' I' L' P' => sh' = sh ∧ K v I' L' P')) (hT1 : ∀ (x2 : Int32) (I : qMI) (L : qML) (P : qMP), T1 x2 I L P → qG X 18 [some (.ref a0), some (.ref a1), some (.int x2)] [] sh I L P 0 0) (h : vc_X8_read_0 d sh K T1 a0 a1 I L P) : qG X 0 [some (.ref a0), some (.ref a1), none] [] sh I L P 0 0 := by
  unfold vc_X8_read_0 at h
  refine q_aload_n C dX8_read_0 rfl ?_
  refine q_iconst (v := 0) C dX8_read_1 (by decide) ?_
  have s1 := h.1
  replace h := h.2
  refine q_putI C fl_RX8_29 (fun T hT => by cases hT; rfl) rfl s1 dX8_read_2 (fun I2 eI2 => ?_)
  replace h := h I2 eI2
  refine q_aload_n C dX8_read_5 rfl ?_
  refine q_getP C fl_RX8_12 rfl s1 dX8_read_6 ?_
  refine q_aload_n C dX8_read_9 rfl ?_
  have s3 := h.1
  replace h := h.2
  refine q_cVv (as := [.ref a1]) (st := []) (r := P a0 0) C mv_X2_copyFrom ml_RX8_33 dX8_read_10 rfl s3 rfl (Nat.le_of_ble_eq_true rfl) ⟨Nat.le_refl _, Nat.le_refl _⟩ h (fun I4 L5 P6 h => ?_)
  refine q_aload_n C dX8_read_13 rfl ?_
  have s7 := h.1
  replace h := h.2
  refine q_getI C fl_RX8_37 rfl s7 dX8_read_14 ?_
  refine q_istore_n (lo1 := [some (.ref a0), some (.ref a1), some (.int (I4 a1 0))]) C dX8_read_17 (by decide) rfl ?_
  exact hT1 _ _ _ _ h
def vc_X8_read_1 (d : Nat) (sh : List qSh) (K : Option Value → qMI → qML → qMP → Prop) (T1 : Int32 → qMI → qML → qMP → Prop) (a0 : Nat) (a1 : Nat) (x2 : Int32) (I : qMI) (L : qML) (P : qMP) : Prop :=
  ((10 ≤ x2) → (((shp sh a0).1 = 8) ∧ (K (some (.int (I a0 3))) I L P))) ∧ ((¬ 10 ≤ x2) → (((shp sh a0).1 = 8) ∧ (Sq d mX8_readPlayer sh [.ref a0] I L P (KI fun r4 I5 L6 P7 => ((¬ r4 = 0) → (((shp sh (P7 a0 1)).1 = 20) ∧ ((vp_in 0 (shp sh (P7 a0 1)).2) ∧ ((vp_in 1 (shp sh (P7 a0 1)).2) ∧ ((vp_in 2 (shp sh (P7 a0 1)).2) ∧ ((vp_in 3 (shp sh (P7 a0 1)).2) ∧ (((shp sh (P7 a0 0)).1 = 2) ∧ (Sq d mX2_add sh [.ref (P7 a0 0), .int (I5 (P7 a0 1) (Int32.toNatClampNeg 0)), .int (I5 (P7 a0 1) (Int32.toNatClampNeg 1)), .int (I5 (P7 a0 1) (Int32.toNatClampNeg 2)), .int (I5 (P7 a0 1) (Int32.toNatClampNeg 3))] I5 L6 P7 (KV fun I15 L16 P17 => ((shp sh (P17 a0 2)).1 = 7) ∧ ((((I15 a0 3) < (I15 (P17 a0 2) 1)) → (∀ I20 : qMI, I20 = uI I15 a0 3 ((I15 a0 3) + 1) → (T1 (x2 + 1) I20 L16 P17))) ∧ ((¬ (I15 a0 3) < (I15 (P17 a0 2) 1)) → (K (some (.int ((-1)))) I15 L16 P17)))))))))))) ∧ ((r4 = 0) → (K (some (.int (I5 a0 3))) I5 L6 P7))))))
set_option maxRecDepth 100000 in
set_option maxHeartbeats 4000000 in
theorem rg_X8_read_1 {X : qCT} {d : Nat} {sh : List qSh} {K : Option Value → qMI → qML → qMP → Prop} {T1 : Int32 → qMI → qML → qMP → Prop} {a0 : Nat} {a1 : Nat} {x2 : Int32} {I : qMI} {L : qML} {P : qMP} (C : qCB X RX8 cX8_read 3 (d + 1) 0 0) (hk : qCK X (some .int) 0 0 (fun v sh' I' L' P' => sh' = sh ∧ K v I' L' P')) (hT1 : ∀ (x2 : Int32) (I : qMI) (L : qML) (P : qMP), T1 x2 I L P → qG X 18 [some (.ref a0), some (.ref a1), some (.int x2)] [] sh I L P 0 0) (h : vc_X8_read_1 d sh K T1 a0 a1 x2 I L P) : qG X 18 [some (.ref a0), some (.ref a1), some (.int x2)] [] sh I L P 0 0 := by
  unfold vc_X8_read_1 at h
  refine q_iload_n C dX8_read_18 rfl ?_
  refine q_bipush (v := 10) C dX8_read_19 (by decide) ?_
  refine q_icmp_ge (tgt := 99) C dX8_read_21 (by decide) (fun c1 => ?_) (fun c1 => ?_)
  · replace h := h.1 c1
    refine q_aload_n C dX8_read_99 rfl ?_
    have s2 := h.1
    replace h := h.2
    refine q_getI C fl_RX8_29 rfl s2 dX8_read_100 ?_
    exact q_iret C hk dX8_read_103 ⟨rfl, h⟩
  · replace h := h.2 c1
    refine q_aload_n C dX8_read_24 rfl ?_
    have s3 := h.1
    replace h := h.2
    refine q_cVi (as := []) (st := []) (r := a0) C mv_X8_readPlayer ml_RX8_40 dX8_read_25 rfl s3 rfl (Nat.le_of_ble_eq_true rfl) ⟨Nat.le_refl _, Nat.le_refl _⟩ h (fun r4 I5 L6 P7 h => ?_)
    refine q_if_ne (tgt := 36) C dX8_read_28 (by decide) (fun c8 => ?_) (fun c8 => ?_)
    · replace h := h.1 c8
      refine q_aload_n C dX8_read_36 rfl ?_
      refine q_getP C fl_RX8_12 rfl s3 dX8_read_37 ?_
      refine q_aload_n C dX8_read_40 rfl ?_
      refine q_getP C fl_RX8_18 rfl s3 dX8_read_41 ?_
      refine q_iconst (v := 0) C dX8_read_44 (by decide) ?_
      have s9 := h.1
      replace h := h.2
      have s10 := h.1
      replace h := h.2
      refine q_iald C s9 s10 dX8_read_45 ?_
      refine q_aload_n C dX8_read_46 rfl ?_
      refine q_getP C fl_RX8_18 rfl s3 dX8_read_47 ?_
      refine q_iconst (v := 1) C dX8_read_50 (by decide) ?_
      have s11 := h.1
      replace h := h.2
      refine q_iald C s9 s11 dX8_read_51 ?_
      refine q_aload_n C dX8_read_52 rfl ?_
      refine q_getP C fl_RX8_18 rfl s3 dX8_read_53 ?_
      refine q_iconst (v := 2) C dX8_read_56 (by decide) ?_
      have s12 := h.1
      replace h := h.2
      refine q_iald C s9 s12 dX8_read_57 ?_
      refine q_aload_n C dX8_read_58 rfl ?_
      refine q_getP C fl_RX8_18 rfl s3 dX8_read_59 ?_
      refine q_iconst (v := 3) C dX8_read_62 (by decide) ?_
      have s13 := h.1
      replace h := h.2
      refine q_iald C s9 s13 dX8_read_63 ?_
      have s14 := h.1
      replace h := h.2
      refine q_cVv (as := [.int (I5 (P7 a0 1) (Int32.toNatClampNeg 0)), .int (I5 (P7 a0 1) (Int32.toNatClampNeg 1)), .int (I5 (P7 a0 1) (Int32.toNatClampNeg 2)), .int (I5 (P7 a0 1) (Int32.toNatClampNeg 3))]) (st := []) (r := P7 a0 0) C mv_X2_add ml_RX8_44 dX8_read_64 rfl s14 rfl (Nat.le_of_ble_eq_true rfl) ⟨Nat.le_refl _, Nat.le_refl _⟩ h (fun I15 L16 P17 h => ?_)
      refine q_aload_n C dX8_read_67 rfl ?_
      refine q_getI C fl_RX8_29 rfl s3 dX8_read_68 ?_
      refine q_aload_n C dX8_read_71 rfl ?_
      refine q_getP C fl_RX8_25 rfl s3 dX8_read_72 ?_
      have s18 := h.1
      replace h := h.2
      refine q_getI C fl_RX8_48 rfl s18 dX8_read_75 ?_
      refine q_icmp_lt (tgt := 83) C dX8_read_78 (by decide) (fun c19 => ?_) (fun c19 => ?_)
      · replace h := h.1 c19
        refine q_aload_n C dX8_read_83 rfl ?_
        refine q_dup C dX8_read_84 rfl ?_
        refine q_getI C fl_RX8_29 rfl s3 dX8_read_85 ?_
        refine q_iconst (v := 1) C dX8_read_88 (by decide) ?_
        refine q_iadd C dX8_read_89 ?_
        refine q_putI C fl_RX8_29 (fun T hT => by cases hT; rfl) rfl s3 dX8_read_90 (fun I20 eI20 => ?_)
        replace h := h I20 eI20
        refine q_iinc (w := 1) (lo1 := [some (.ref a0), some (.ref a1), some (.int (x2 + 1))]) C dX8_read_93 rfl (by decide) (by decide) rfl ?_
        refine q_goto (tgt := 18) C dX8_read_96 (by decide) ?_
        exact hT1 _ _ _ _ h
      · replace h := h.2 c19
        refine q_iconst (v := (-1)) C dX8_read_81 (by decide) ?_
        exact q_iret C hk dX8_read_82 ⟨rfl, h⟩
    · replace h := h.2 c8
      refine q_aload_n C dX8_read_31 rfl ?_
      refine q_getI C fl_RX8_29 rfl s3 dX8_read_32 ?_
      exact q_iret C hk dX8_read_35 ⟨rfl, h⟩
theorem sp_X8_read {d : Nat} {sh : List qSh} {K : Option Value → qMI → qML → qMP → Prop} {a0 : Nat} {a1 : Nat} {I : qMI} {L : qML} {P : qMP} (T1 : Int32 → qMI → qML → qMP → Prop) (m1 : Int32 → qMI → qML → qMP → Nat) (h0 : vc_X8_read_0 d sh K T1 a0 a1 I L P)
    (h1 : ∀ (x2 : Int32) (I : qMI) (L : qML) (P : qMP), T1 x2 I L P → vc_X8_read_1 d sh K (fun w0 I' L' P' => T1 w0 I' L' P' ∧ m1 w0 I' L' P' < m1 x2 I L P) a0 a1 x2 I L P) : Sq (d + 1) mX8_read sh [.ref a0, .ref a1] I L P K := by
  refine Sq_of (by decide +kernel) (Nat.le_of_ble_eq_true rfl) (fun X C hk hn => ?_)
  have go : ∀ N : Nat, (∀ (x2 : Int32) (I : qMI) (L : qML) (P : qMP), T1 x2 I L P → m1 x2 I L P < N → qG X 18 [some (.ref a0), some (.ref a1), some (.int x2)] [] sh I L P 0 0) := by
    intro N
    induction N with
    | zero => exact fun _ _ _ _ _ q => absurd q (Nat.not_lt_zero _)
    | succ N ih =>
      exact fun b0 I1 L1 P1 t q => rg_X8_read_1 C hk (fun z0 I2 L2 P2 z => ih z0 I2 L2 P2 z.1 (Nat.lt_of_lt_of_le z.2 (Nat.le_of_lt_succ q))) (h1 b0 I1 L1 P1 t)
  exact rg_X8_read_0 C hk (fun b0 I1 L1 P1 t => (go (m1 b0 I1 L1 P1 + 1)) b0 I1 L1 P1 t (Nat.lt_succ_self _)) h0
/-! BracketDraws$Text.readPlayer()Z -/
def vc_X8_readPlayer_0 (d : Nat) (sh : List qSh) (K : Option Value → qMI → qML → qMP → Prop) (T1 : Int32 → Int32 → qMI → qML → qMP → Prop) (T2 : Int32 → Int32 → qMI → qML → qMP → Prop) (a0 : Nat) (I : qMI) (L : qML) (P : qMP) : Prop :=
  T1 0 0 I L P
set_option maxRecDepth 100000 in
set_option maxHeartbeats 4000000 in
theorem rg_X8_readPlayer_0 {X : qCT} {d : Nat} {sh : List qSh} {K : Option Value → qMI → qML → qMP → Prop} {T1 : Int32 → Int32 → qMI → qML → qMP → Prop} {T2 : Int32 → Int32 → qMI → qML → qMP → Prop} {a0 : Nat} {I : qMI} {L : qML} {P : qMP} (C : qCB X RX8 cX8_readPlayer 5 (d + 1) 0 0) (hk : qCK X (some .boolean) 0 0 (fun v sh' I' L' P' => sh' = sh ∧ K v I' L' P')) (hT1 : ∀ (x1 : Int32) (x2 : Int32) (I : qMI) (L : qML) (P : qMP), T1 x1 x2 I L P → qG X 4 [some (.ref a0), some (.int x1), some (.int x2), none, none] [] sh I L P 0 0) (hT2 : ∀ (x1 : Int32) (x2 : Int32) (I : qMI) (L : qML) (P : qMP), T2 x1 x2 I L P → qG X 28 [some (.ref a0), some (.int x1), some (.int x2), none, none] [] sh I L P 0 0) (h : vc_X8_readPlayer_0 d sh K T1 T2 a0 I L P) : qG X 0 [some (.ref a0), none, none, none, none] [] sh I L P 0 0 := by
  unfold vc_X8_readPlayer_0 at h
  refine q_iconst (v := 0) C dX8_readPlayer_0 (by decide) ?_
  refine q_istore_n (lo1 := [some (.ref a0), some (.int 0), none, none, none]) C dX8_readPlayer_1 (by decide) rfl ?_
  refine q_iconst (v := 0) C dX8_readPlayer_2 (by decide) ?_
  refine q_istore_n (lo1 := [some (.ref a0), some (.int 0), some (.int 0), none, none]) C dX8_readPlayer_3 (by decide) rfl ?_
  exact hT1 _ _ _ _ _ h
def vc_X8_readPlayer_1 (d : Nat) (sh : List qSh) (K : Option Value → qMI → qML → qMP → Prop) (T1 : Int32 → Int32 → qMI → qML → qMP → Prop) (T2 : Int32 → Int32 → qMI → qML → qMP → Prop) (a0 : Nat) (x1 : Int32) (x2 : Int32) (I : qMI) (L : qML) (P : qMP) : Prop :=
  ((shp sh a0).1 = 8) ∧ (((shp sh (P a0 1)).1 = 20) ∧ ((((nI (shp sh (P a0 1)).2) ≤ x2) → (T2 x1 0 I L P)) ∧ ((¬ (nI (shp sh (P a0 1)).2) ≤ x2) → ((vp_in x2 (shp sh (P a0 1)).2) ∧ (∀ I5 : qMI, I5 = uI I (P a0 1) (Int32.toNatClampNeg x2) 0 → (T1 x1 (x2 + 1) I5 L P))))))
set_option maxRecDepth 100000 in
set_option maxHeartbeats 4000000 in
theorem rg_X8_readPlayer_1 {X : qCT} {d : Nat} {sh : List qSh} {K : Option Value → qMI → qML → qMP → Prop} {T1 : Int32 → Int32 → qMI → qML → qMP → Prop} {T2 : Int32 → Int32 → qMI → qML → qMP → Prop} {a0 : Nat} {x1 : Int32} {x2 : Int32} {I : qMI} {L : qML} {P : qMP} (C : qCB X RX8 cX8_readPlayer 5 (d + 1) 0 0) (hk : qCK X (some .boolean) 0 0 (fun v sh' I' L' P' => sh' = sh ∧ K v I' L' P')) (hT1 : ∀ (x1 : Int32) (x2 : Int32) (I : qMI) (L : qML) (P : qMP), T1 x1 x2 I L P → qG X 4 [some (.ref a0), some (.int x1), some (.int x2), none, none] [] sh I L P 0 0) (hT2 : ∀ (x1 : Int32) (x2 : Int32) (I : qMI) (L : qML) (P : qMP), T2 x1 x2 I L P → qG X 28 [some (.ref a0), some (.int x1), some (.int x2), none, none] [] sh I L P 0 0) (h : vc_X8_readPlayer_1 d sh K T1 T2 a0 x1 x2 I L P) : qG X 4 [some (.ref a0), some (.int x1), some (.int x2), none, none] [] sh I L P 0 0 := by
  unfold vc_X8_readPlayer_1 at h
  refine q_iload_n C dX8_readPlayer_4 rfl ?_
  refine q_aload_n C dX8_readPlayer_5 rfl ?_
  have s1 := h.1
  replace h := h.2
  refine q_getP C fl_RX8_18 rfl s1 dX8_readPlayer_6 ?_
  have s2 := h.1
  replace h := h.2
  refine q_alen20 C s2 dX8_readPlayer_9 ?_
  refine q_icmp_ge (tgt := 26) C dX8_readPlayer_10 (by decide) (fun c3 => ?_) (fun c3 => ?_)
  · replace h := h.1 c3
    refine q_iconst (v := 0) C dX8_readPlayer_26 (by decide) ?_
    refine q_istore_n (lo1 := [some (.ref a0), some (.int x1), some (.int 0), none, none]) C dX8_readPlayer_27 (by decide) rfl ?_
    exact hT2 _ _ _ _ _ h
  · replace h := h.2 c3
    refine q_aload_n C dX8_readPlayer_13 rfl ?_
    refine q_getP C fl_RX8_18 rfl s1 dX8_readPlayer_14 ?_
    refine q_iload_n C dX8_readPlayer_17 rfl ?_
    refine q_iconst (v := 0) C dX8_readPlayer_18 (by decide) ?_
    have s4 := h.1
    replace h := h.2
    refine q_iast C s2 s4 dX8_readPlayer_19 (fun I5 eI5 => ?_)
    replace h := h I5 eI5
    refine q_iinc (w := 1) (lo1 := [some (.ref a0), some (.int x1), some (.int (x2 + 1)), none, none]) C dX8_readPlayer_20 rfl (by decide) (by decide) rfl ?_
    refine q_goto (tgt := 4) C dX8_readPlayer_23 (by decide) ?_
    exact hT1 _ _ _ _ _ h
def vc_X8_readPlayer_2 (d : Nat) (sh : List qSh) (K : Option Value → qMI → qML → qMP → Prop) (T1 : Int32 → Int32 → qMI → qML → qMP → Prop) (T2 : Int32 → Int32 → qMI → qML → qMP → Prop) (a0 : Nat) (x1 : Int32) (x2 : Int32) (I : qMI) (L : qML) (P : qMP) : Prop :=
  ((shp sh a0).1 = 8) ∧ (((shp sh (P a0 1)).1 = 20) ∧ ((((nI (shp sh (P a0 1)).2) < x2) → (K (some (.int 0)) I L P)) ∧ ((¬ (nI (shp sh (P a0 1)).2) < x2) → (((shp sh (P a0 2)).1 = 7) ∧ (Sq d mX7_at sh [.ref (P a0 2), .int (I a0 3)] I L P (KI fun r5 I6 L7 P8 => ((x2 ≤ 0) → (Sq d mX8_whatOf sh [.int r5] I6 L7 P8 (KI fun r10 I11 L12 P13 => ((r10 = ((-1))) → (K (some (.int 0)) I11 L12 P13)) ∧ ((¬ r10 = ((-1))) → (((¬ ((x1 >>> (r10 &&& 31)) &&& 1) = 1) → (∀ I16 : qMI, I16 = uI I11 a0 3 ((I11 a0 3) + 1) → (Sq d mX8_readNumber sh [.ref a0, .int r10] I16 L12 P13 (KI fun r17 I18 L19 P20 => ((¬ r17 = 0) → (T2 (x1 ||| ((1 : Int32) <<< (r10 &&& 31))) (x2 + 1) I18 L19 P20)) ∧ ((r17 = 0) → (K (some (.int 0)) I18 L19 P20)))))) ∧ ((((x1 >>> (r10 &&& 31)) &&& 1) = 1) → (K (some (.int 0)) I11 L12 P13))))))) ∧ ((¬ x2 ≤ 0) → (((r5 = 59) → (K (some (.int 1)) I6 L7 P8)) ∧ ((¬ r5 = 59) → (((¬ r5 = ((-1))) → (Sq d mX8_whatOf sh [.int r5] I6 L7 P8 (KI fun r24 I25 L26 P27 => ((r24 = ((-1))) → (K (some (.int 0)) I25 L26 P27)) ∧ ((¬ r24 = ((-1))) → (((¬ ((x1 >>> (r24 &&& 31)) &&& 1) = 1) → (∀ I30 : qMI, I30 = uI I25 a0 3 ((I25 a0 3) + 1) → (Sq d mX8_readNumber sh [.ref a0, .int r24] I30 L26 P27 (KI fun r31 I32 L33 P34 => ((¬ r31 = 0) → (T2 (x1 ||| ((1 : Int32) <<< (r24 &&& 31))) (x2 + 1) I32 L33 P34)) ∧ ((r31 = 0) → (K (some (.int 0)) I32 L33 P34)))))) ∧ ((((x1 >>> (r24 &&& 31)) &&& 1) = 1) → (K (some (.int 0)) I25 L26 P27))))))) ∧ ((r5 = ((-1))) → (K (some (.int 1)) I6 L7 P8))))))))))))
set_option maxRecDepth 100000 in
set_option maxHeartbeats 4000000 in
theorem rg_X8_readPlayer_2 {X : qCT} {d : Nat} {sh : List qSh} {K : Option Value → qMI → qML → qMP → Prop} {T1 : Int32 → Int32 → qMI → qML → qMP → Prop} {T2 : Int32 → Int32 → qMI → qML → qMP → Prop} {a0 : Nat} {x1 : Int32} {x2 : Int32} {I : qMI} {L : qML} {P : qMP} (C : qCB X RX8 cX8_readPlayer 5 (d + 1) 0 0) (hk : qCK X (some .boolean) 0 0 (fun v sh' I' L' P' => sh' = sh ∧ K v I' L' P')) (hT1 : ∀ (x1 : Int32) (x2 : Int32) (I : qMI) (L : qML) (P : qMP), T1 x1 x2 I L P → qG X 4 [some (.ref a0), some (.int x1), some (.int x2), none, none] [] sh I L P 0 0) (hT2 : ∀ (x1 : Int32) (x2 : Int32) (I : qMI) (L : qML) (P : qMP), T2 x1 x2 I L P → qG X 28 [some (.ref a0), some (.int x1), some (.int x2), none, none] [] sh I L P 0 0) (h : vc_X8_readPlayer_2 d sh K T1 T2 a0 x1 x2 I L P) : qG X 28 [some (.ref a0), some (.int x1), some (.int x2), none, none] [] sh I L P 0 0 := by
  unfold vc_X8_readPlayer_2 at h
  refine q_iload_n C dX8_readPlayer_28 rfl ?_
  refine q_aload_n C dX8_readPlayer_29 rfl ?_
  have s1 := h.1
  replace h := h.2
  refine q_getP C fl_RX8_18 rfl s1 dX8_readPlayer_30 ?_
  have s2 := h.1
  replace h := h.2
  refine q_alen20 C s2 dX8_readPlayer_33 ?_
  refine q_icmp_gt (tgt := 124) C dX8_readPlayer_34 (by decide) (fun c3 => ?_) (fun c3 => ?_)
  · replace h := h.1 c3
    refine q_iconst (v := 0) C dX8_readPlayer_124 (by decide) ?_
    exact q_zret C hk (Or.inl rfl) dX8_readPlayer_125 ⟨rfl, h⟩
  · replace h := h.2 c3
    refine q_aload_n C dX8_readPlayer_37 rfl ?_
    refine q_getP C fl_RX8_25 rfl s1 dX8_readPlayer_38 ?_
    refine q_aload_n C dX8_readPlayer_41 rfl ?_
    refine q_getI C fl_RX8_29 rfl s1 dX8_readPlayer_42 ?_
    have s4 := h.1
    replace h := h.2
    refine q_cVi (as := [.int (I a0 3)]) (st := []) (r := P a0 2) C mv_X7_at ml_RX8_51 dX8_readPlayer_45 rfl s4 rfl (Nat.le_of_ble_eq_true rfl) ⟨Nat.le_refl _, Nat.le_refl _⟩ h (fun r5 I6 L7 P8 h => ?_)
    refine q_istore_n (lo1 := [some (.ref a0), some (.int x1), some (.int x2), some (.int r5), none]) C dX8_readPlayer_48 (by decide) rfl ?_
    refine q_iload_n C dX8_readPlayer_49 rfl ?_
    refine q_if_le (tgt := 66) C dX8_readPlayer_50 (by decide) (fun c9 => ?_) (fun c9 => ?_)
    · replace h := h.1 c9
      refine q_iload_n C dX8_readPlayer_66 rfl ?_
      refine q_cSi (as := [.int r5]) (st := []) C ms_X8_whatOf ml_RX8_55 dX8_readPlayer_67 rfl rfl (Nat.le_of_ble_eq_true rfl) ⟨Nat.le_refl _, Nat.le_refl _⟩ h (fun r10 I11 L12 P13 h => ?_)
      refine q_istore (lo1 := [some (.ref a0), some (.int x1), some (.int x2), some (.int r5), some (.int r10)]) C dX8_readPlayer_70 (by decide) rfl ?_
      refine q_iload C dX8_readPlayer_72 rfl ?_
      refine q_iconst (v := (-1)) C dX8_readPlayer_74 (by decide) ?_
      refine q_icmp_eq (tgt := 88) C dX8_readPlayer_75 (by decide) (fun c14 => ?_) (fun c14 => ?_)
      · replace h := h.1 c14
        refine q_iconst (v := 0) C dX8_readPlayer_88 (by decide) ?_
        exact q_zret C hk (Or.inl rfl) dX8_readPlayer_89 ⟨rfl, h⟩
      · replace h := h.2 c14
        refine q_iload_n C dX8_readPlayer_78 rfl ?_
        refine q_iload C dX8_readPlayer_79 rfl ?_
        refine q_ishr C dX8_readPlayer_81 ?_
        refine q_iconst (v := 1) C dX8_readPlayer_82 (by decide) ?_
        refine q_iand C dX8_readPlayer_83 ?_
        refine q_iconst (v := 1) C dX8_readPlayer_84 (by decide) ?_
        refine q_icmp_ne (tgt := 90) C dX8_readPlayer_85 (by decide) (fun c15 => ?_) (fun c15 => ?_)
        · replace h := h.1 c15
          refine q_iload_n C dX8_readPlayer_90 rfl ?_
          refine q_iconst (v := 1) C dX8_readPlayer_91 (by decide) ?_
          refine q_iload C dX8_readPlayer_92 rfl ?_
          refine q_ishl C dX8_readPlayer_94 ?_
          refine q_ior C dX8_readPlayer_95 ?_
          refine q_istore_n (lo1 := [some (.ref a0), some (.int (x1 ||| ((1 : Int32) <<< (r10 &&& 31)))), some (.int x2), some (.int r5), some (.int r10)]) C dX8_readPlayer_96 (by decide) rfl ?_
          refine q_aload_n C dX8_readPlayer_97 rfl ?_
          refine q_dup C dX8_readPlayer_98 rfl ?_
          refine q_getI C fl_RX8_29 rfl s1 dX8_readPlayer_99 ?_
          refine q_iconst (v := 1) C dX8_readPlayer_102 (by decide) ?_
          refine q_iadd C dX8_readPlayer_103 ?_
          refine q_putI C fl_RX8_29 (fun T hT => by cases hT; rfl) rfl s1 dX8_readPlayer_104 (fun I16 eI16 => ?_)
          replace h := h I16 eI16
          refine q_aload_n C dX8_readPlayer_107 rfl ?_
          refine q_iload C dX8_readPlayer_108 rfl ?_
          refine q_cVi (as := [.int r10]) (st := []) (r := a0) C mv_X8_readNumber ml_RX8_58 dX8_readPlayer_110 rfl s1 rfl (Nat.le_of_ble_eq_true rfl) ⟨Nat.le_refl _, Nat.le_refl _⟩ h (fun r17 I18 L19 P20 h => ?_)
          refine q_if_ne (tgt := 118) C dX8_readPlayer_113 (by decide) (fun c21 => ?_) (fun c21 => ?_)
          · replace h := h.1 c21
            refine q_iinc (w := 1) (lo1 := [some (.ref a0), some (.int (x1 ||| ((1 : Int32) <<< (r10 &&& 31)))), some (.int (x2 + 1)), some (.int r5), some (.int r10)]) C dX8_readPlayer_118 rfl (by decide) (by decide) rfl ?_
            refine q_goto (tgt := 28) C dX8_readPlayer_121 (by decide) ?_
            refine q_kill 3 (lo1 := [some (.ref a0), some (.int (x1 ||| ((1 : Int32) <<< (r10 &&& 31)))), some (.int (x2 + 1)), none, some (.int r10)]) rfl ?_
            refine q_kill 4 (lo1 := [some (.ref a0), some (.int (x1 ||| ((1 : Int32) <<< (r10 &&& 31)))), some (.int (x2 + 1)), none, none]) rfl ?_
            exact hT2 _ _ _ _ _ h
          · replace h := h.2 c21
            refine q_iconst (v := 0) C dX8_readPlayer_116 (by decide) ?_
            exact q_zret C hk (Or.inl rfl) dX8_readPlayer_117 ⟨rfl, h⟩
        · replace h := h.2 c15
          refine q_iconst (v := 0) C dX8_readPlayer_88 (by decide) ?_
          exact q_zret C hk (Or.inl rfl) dX8_readPlayer_89 ⟨rfl, h⟩
    · replace h := h.2 c9
      refine q_iload_n C dX8_readPlayer_53 rfl ?_
      refine q_bipush (v := 59) C dX8_readPlayer_54 (by decide) ?_
      refine q_icmp_eq (tgt := 64) C dX8_readPlayer_56 (by decide) (fun c22 => ?_) (fun c22 => ?_)
      · replace h := h.1 c22
        refine q_iconst (v := 1) C dX8_readPlayer_64 (by decide) ?_
        exact q_zret C hk (Or.inr rfl) dX8_readPlayer_65 ⟨rfl, h⟩
      · replace h := h.2 c22
        refine q_iload_n C dX8_readPlayer_59 rfl ?_
        refine q_iconst (v := (-1)) C dX8_readPlayer_60 (by decide) ?_
        refine q_icmp_ne (tgt := 66) C dX8_readPlayer_61 (by decide) (fun c23 => ?_) (fun c23 => ?_)
        · replace h := h.1 c23
          refine q_iload_n C dX8_readPlayer_66 rfl ?_
          refine q_cSi (as := [.int r5]) (st := []) C ms_X8_whatOf ml_RX8_55 dX8_readPlayer_67 rfl rfl (Nat.le_of_ble_eq_true rfl) ⟨Nat.le_refl _, Nat.le_refl _⟩ h (fun r24 I25 L26 P27 h => ?_)
          refine q_istore (lo1 := [some (.ref a0), some (.int x1), some (.int x2), some (.int r5), some (.int r24)]) C dX8_readPlayer_70 (by decide) rfl ?_
          refine q_iload C dX8_readPlayer_72 rfl ?_
          refine q_iconst (v := (-1)) C dX8_readPlayer_74 (by decide) ?_
          refine q_icmp_eq (tgt := 88) C dX8_readPlayer_75 (by decide) (fun c28 => ?_) (fun c28 => ?_)
          · replace h := h.1 c28
            refine q_iconst (v := 0) C dX8_readPlayer_88 (by decide) ?_
            exact q_zret C hk (Or.inl rfl) dX8_readPlayer_89 ⟨rfl, h⟩
          · replace h := h.2 c28
            refine q_iload_n C dX8_readPlayer_78 rfl ?_
            refine q_iload C dX8_readPlayer_79 rfl ?_
            refine q_ishr C dX8_readPlayer_81 ?_
            refine q_iconst (v := 1) C dX8_readPlayer_82 (by decide) ?_
            refine q_iand C dX8_readPlayer_83 ?_
            refine q_iconst (v := 1) C dX8_readPlayer_84 (by decide) ?_
            refine q_icmp_ne (tgt := 90) C dX8_readPlayer_85 (by decide) (fun c29 => ?_) (fun c29 => ?_)
            · replace h := h.1 c29
              refine q_iload_n C dX8_readPlayer_90 rfl ?_
              refine q_iconst (v := 1) C dX8_readPlayer_91 (by decide) ?_
              refine q_iload C dX8_readPlayer_92 rfl ?_
              refine q_ishl C dX8_readPlayer_94 ?_
              refine q_ior C dX8_readPlayer_95 ?_
              refine q_istore_n (lo1 := [some (.ref a0), some (.int (x1 ||| ((1 : Int32) <<< (r24 &&& 31)))), some (.int x2), some (.int r5), some (.int r24)]) C dX8_readPlayer_96 (by decide) rfl ?_
              refine q_aload_n C dX8_readPlayer_97 rfl ?_
              refine q_dup C dX8_readPlayer_98 rfl ?_
              refine q_getI C fl_RX8_29 rfl s1 dX8_readPlayer_99 ?_
              refine q_iconst (v := 1) C dX8_readPlayer_102 (by decide) ?_
              refine q_iadd C dX8_readPlayer_103 ?_
              refine q_putI C fl_RX8_29 (fun T hT => by cases hT; rfl) rfl s1 dX8_readPlayer_104 (fun I30 eI30 => ?_)
              replace h := h I30 eI30
              refine q_aload_n C dX8_readPlayer_107 rfl ?_
              refine q_iload C dX8_readPlayer_108 rfl ?_
              refine q_cVi (as := [.int r24]) (st := []) (r := a0) C mv_X8_readNumber ml_RX8_58 dX8_readPlayer_110 rfl s1 rfl (Nat.le_of_ble_eq_true rfl) ⟨Nat.le_refl _, Nat.le_refl _⟩ h (fun r31 I32 L33 P34 h => ?_)
              refine q_if_ne (tgt := 118) C dX8_readPlayer_113 (by decide) (fun c35 => ?_) (fun c35 => ?_)
              · replace h := h.1 c35
                refine q_iinc (w := 1) (lo1 := [some (.ref a0), some (.int (x1 ||| ((1 : Int32) <<< (r24 &&& 31)))), some (.int (x2 + 1)), some (.int r5), some (.int r24)]) C dX8_readPlayer_118 rfl (by decide) (by decide) rfl ?_
                refine q_goto (tgt := 28) C dX8_readPlayer_121 (by decide) ?_
                refine q_kill 3 (lo1 := [some (.ref a0), some (.int (x1 ||| ((1 : Int32) <<< (r24 &&& 31)))), some (.int (x2 + 1)), none, some (.int r24)]) rfl ?_
                refine q_kill 4 (lo1 := [some (.ref a0), some (.int (x1 ||| ((1 : Int32) <<< (r24 &&& 31)))), some (.int (x2 + 1)), none, none]) rfl ?_
                exact hT2 _ _ _ _ _ h
              · replace h := h.2 c35
                refine q_iconst (v := 0) C dX8_readPlayer_116 (by decide) ?_
                exact q_zret C hk (Or.inl rfl) dX8_readPlayer_117 ⟨rfl, h⟩
            · replace h := h.2 c29
              refine q_iconst (v := 0) C dX8_readPlayer_88 (by decide) ?_
              exact q_zret C hk (Or.inl rfl) dX8_readPlayer_89 ⟨rfl, h⟩
        · replace h := h.2 c23
          refine q_iconst (v := 1) C dX8_readPlayer_64 (by decide) ?_
          exact q_zret C hk (Or.inr rfl) dX8_readPlayer_65 ⟨rfl, h⟩
theorem sp_X8_readPlayer {d : Nat} {sh : List qSh} {K : Option Value → qMI → qML → qMP → Prop} {a0 : Nat} {I : qMI} {L : qML} {P : qMP} (T1 : Int32 → Int32 → qMI → qML → qMP → Prop) (m1 : Int32 → Int32 → qMI → qML → qMP → Nat) (T2 : Int32 → Int32 → qMI → qML → qMP → Prop) (m2 : Int32 → Int32 → qMI → qML → qMP → Nat) (h0 : vc_X8_readPlayer_0 d sh K T1 T2 a0 I L P)
    (h1 : ∀ (x1 : Int32) (x2 : Int32) (I : qMI) (L : qML) (P : qMP), T1 x1 x2 I L P → vc_X8_readPlayer_1 d sh K (fun w0 w1 I' L' P' => T1 w0 w1 I' L' P' ∧ m1 w0 w1 I' L' P' < m1 x1 x2 I L P) (fun w0 w1 I' L' P' => T2 w0 w1 I' L' P' ∧ m2 w0 w1 I' L' P' < m1 x1 x2 I L P) a0 x1 x2 I L P)
    (h2 : ∀ (x1 : Int32) (x2 : Int32) (I : qMI) (L : qML) (P : qMP), T2 x1 x2 I L P → vc_X8_readPlayer_2 d sh K (fun w0 w1 I' L' P' => T1 w0 w1 I' L' P' ∧ m1 w0 w1 I' L' P' < m2 x1 x2 I L P) (fun w0 w1 I' L' P' => T2 w0 w1 I' L' P' ∧ m2 w0 w1 I' L' P' < m2 x1 x2 I L P) a0 x1 x2 I L P) : Sq (d + 1) mX8_readPlayer sh [.ref a0] I L P K := by
  refine Sq_of (by decide +kernel) (Nat.le_of_ble_eq_true rfl) (fun X C hk hn => ?_)
  have go : ∀ N : Nat, (∀ (x1 : Int32) (x2 : Int32) (I : qMI) (L : qML) (P : qMP), T1 x1 x2 I L P → m1 x1 x2 I L P < N → qG X 4 [some (.ref a0), some (.int x1), some (.int x2), none, none] [] sh I L P 0 0) ∧ (∀ (x1 : Int32) (x2 : Int32) (I : qMI) (L : qML) (P : qMP), T2 x1 x2 I L P → m2 x1 x2 I L P < N → qG X 28 [some (.ref a0), some (.int x1), some (.int x2), none, none] [] sh I L P 0 0) := by
    intro N
    induction N with
    | zero => exact ⟨fun _ _ _ _ _ _ q => absurd q (Nat.not_lt_zero _), fun _ _ _ _ _ _ q => absurd q (Nat.not_lt_zero _)⟩
    | succ N ih =>
      exact ⟨fun b0 b1 I1 L1 P1 t q => rg_X8_readPlayer_1 C hk (fun z0 z1 I2 L2 P2 z => ih.1 z0 z1 I2 L2 P2 z.1 (Nat.lt_of_lt_of_le z.2 (Nat.le_of_lt_succ q))) (fun z0 z1 I2 L2 P2 z => ih.2 z0 z1 I2 L2 P2 z.1 (Nat.lt_of_lt_of_le z.2 (Nat.le_of_lt_succ q))) (h1 b0 b1 I1 L1 P1 t), fun b0 b1 I1 L1 P1 t q => rg_X8_readPlayer_2 C hk (fun z0 z1 I2 L2 P2 z => ih.1 z0 z1 I2 L2 P2 z.1 (Nat.lt_of_lt_of_le z.2 (Nat.le_of_lt_succ q))) (fun z0 z1 I2 L2 P2 z => ih.2 z0 z1 I2 L2 P2 z.1 (Nat.lt_of_lt_of_le z.2 (Nat.le_of_lt_succ q))) (h2 b0 b1 I1 L1 P1 t)⟩
  exact rg_X8_readPlayer_0 C hk (fun b0 b1 I1 L1 P1 t => (go (m1 b0 b1 I1 L1 P1 + 1)).1 b0 b1 I1 L1 P1 t (Nat.lt_succ_self _)) (fun b0 b1 I1 L1 P1 t => (go (m2 b0 b1 I1 L1 P1 + 1)).2 b0 b1 I1 L1 P1 t (Nat.lt_succ_self _)) h0
/-! BracketDraws$Text.readNumber(I)Z -/
def vc_X8_readNumber_0 (d : Nat) (sh : List qSh) (K : Option Value → qMI → qML → qMP → Prop) (a0 : Nat) (x1 : Int32) (I : qMI) (L : qML) (P : qMP) : Prop :=
  ((shp sh a0).1 = 8) ∧ (Sq d mX8_figure sh [.ref a0] I L P (KI fun r2 I3 L4 P5 => ((r2 = ((-1))) → (K (some (.int 0)) I3 L4 P5)) ∧ ((¬ r2 = ((-1))) → (((x1 < 0) → (K (some (.int 0)) I3 L4 P5)) ∧ ((¬ x1 < 0) → (((3 < x1) → (K (some (.int 0)) I3 L4 P5)) ∧ ((¬ 3 < x1) → (((shp sh (P5 a0 0)).1 = 2) ∧ (Sq d mX2_mayTell sh [.ref (P5 a0 0), .int ((-1)), .int x1, .int r2] I3 L4 P5 (KI fun r10 I11 L12 P13 => ((¬ r10 = 0) → (((shp sh (P13 a0 1)).1 = 20) ∧ ((vp_in x1 (shp sh (P13 a0 1)).2) ∧ (∀ I17 : qMI, I17 = uI I11 (P13 a0 1) (Int32.toNatClampNeg x1) r2 → (∀ I18 : qMI, I18 = uI I17 a0 3 ((I17 a0 3) + 1) → (Sq d mX8_figure sh [.ref a0] I18 L12 P13 (KI fun r19 I20 L21 P22 => ((¬ x1 = 3) → (K (some (.int 1)) I20 L21 P22)) ∧ ((x1 = 3) → (((r19 = ((-1))) → (K (some (.int 1)) I20 L21 P22)) ∧ ((¬ r19 = ((-1))) → (((shp sh (P22 a0 1)).1 = 20) ∧ ((vp_in x1 (shp sh (P22 a0 1)).2) ∧ (∀ I27 : qMI, I27 = uI I20 (P22 a0 1) (Int32.toNatClampNeg x1) ((10 * r2) + r19) → (∀ I28 : qMI, I28 = uI I27 a0 3 ((I27 a0 3) + 1) → (K (some (.int 1)) I28 L21 P22))))))))))))))) ∧ ((r10 = 0) → (K (some (.int 0)) I11 L12 P13))))))))))))
set_option maxRecDepth 100000 in
set_option maxHeartbeats 4000000 in
theorem rg_X8_readNumber_0 {X : qCT} {d : Nat} {sh : List qSh} {K : Option Value → qMI → qML → qMP → Prop} {a0 : Nat} {x1 : Int32} {I : qMI} {L : qML} {P : qMP} (C : qCB X RX8 cX8_readNumber 4 (d + 1) 0 0) (hk : qCK X (some .boolean) 0 0 (fun v sh' I' L' P' => sh' = sh ∧ K v I' L' P')) (h : vc_X8_readNumber_0 d sh K a0 x1 I L P) : qG X 0 [some (.ref a0), some (.int x1), none, none] [] sh I L P 0 0 := by
  unfold vc_X8_readNumber_0 at h
  refine q_aload_n C dX8_readNumber_0 rfl ?_
  have s1 := h.1
  replace h := h.2
  refine q_cVi (as := []) (st := []) (r := a0) C mv_X8_figure ml_RX8_62 dX8_readNumber_1 rfl s1 rfl (Nat.le_of_ble_eq_true rfl) ⟨Nat.le_refl _, Nat.le_refl _⟩ h (fun r2 I3 L4 P5 h => ?_)
  refine q_istore_n (lo1 := [some (.ref a0), some (.int x1), some (.int r2), none]) C dX8_readNumber_4 (by decide) rfl ?_
  refine q_iload_n C dX8_readNumber_5 rfl ?_
  refine q_iconst (v := (-1)) C dX8_readNumber_6 (by decide) ?_
  refine q_icmp_eq (tgt := 32) C dX8_readNumber_7 (by decide) (fun c6 => ?_) (fun c6 => ?_)
  · replace h := h.1 c6
    refine q_iconst (v := 0) C dX8_readNumber_32 (by decide) ?_
    exact q_zret C hk (Or.inl rfl) dX8_readNumber_33 ⟨rfl, h⟩
  · replace h := h.2 c6
    refine q_iload_n C dX8_readNumber_10 rfl ?_
    refine q_if_lt (tgt := 32) C dX8_readNumber_11 (by decide) (fun c7 => ?_) (fun c7 => ?_)
    · replace h := h.1 c7
      refine q_iconst (v := 0) C dX8_readNumber_32 (by decide) ?_
      exact q_zret C hk (Or.inl rfl) dX8_readNumber_33 ⟨rfl, h⟩
    · replace h := h.2 c7
      refine q_iload_n C dX8_readNumber_14 rfl ?_
      refine q_iconst (v := 3) C dX8_readNumber_15 (by decide) ?_
      refine q_icmp_gt (tgt := 32) C dX8_readNumber_16 (by decide) (fun c8 => ?_) (fun c8 => ?_)
      · replace h := h.1 c8
        refine q_iconst (v := 0) C dX8_readNumber_32 (by decide) ?_
        exact q_zret C hk (Or.inl rfl) dX8_readNumber_33 ⟨rfl, h⟩
      · replace h := h.2 c8
        refine q_aload_n C dX8_readNumber_19 rfl ?_
        refine q_getP C fl_RX8_12 rfl s1 dX8_readNumber_20 ?_
        refine q_iconst (v := (-1)) C dX8_readNumber_23 (by decide) ?_
        refine q_iload_n C dX8_readNumber_24 rfl ?_
        refine q_iload_n C dX8_readNumber_25 rfl ?_
        have s9 := h.1
        replace h := h.2
        refine q_cVi (as := [.int ((-1)), .int x1, .int r2]) (st := []) (r := P5 a0 0) C mv_X2_mayTell ml_RX8_66 dX8_readNumber_26 rfl s9 rfl (Nat.le_of_ble_eq_true rfl) ⟨Nat.le_refl _, Nat.le_refl _⟩ h (fun r10 I11 L12 P13 h => ?_)
        refine q_if_ne (tgt := 34) C dX8_readNumber_29 (by decide) (fun c14 => ?_) (fun c14 => ?_)
        · replace h := h.1 c14
          refine q_aload_n C dX8_readNumber_34 rfl ?_
          refine q_getP C fl_RX8_18 rfl s1 dX8_readNumber_35 ?_
          refine q_iload_n C dX8_readNumber_38 rfl ?_
          refine q_iload_n C dX8_readNumber_39 rfl ?_
          have s15 := h.1
          replace h := h.2
          have s16 := h.1
          replace h := h.2
          refine q_iast C s15 s16 dX8_readNumber_40 (fun I17 eI17 => ?_)
          replace h := h I17 eI17
          refine q_aload_n C dX8_readNumber_41 rfl ?_
          refine q_dup C dX8_readNumber_42 rfl ?_
          refine q_getI C fl_RX8_29 rfl s1 dX8_readNumber_43 ?_
          refine q_iconst (v := 1) C dX8_readNumber_46 (by decide) ?_
          refine q_iadd C dX8_readNumber_47 ?_
          refine q_putI C fl_RX8_29 (fun T hT => by cases hT; rfl) rfl s1 dX8_readNumber_48 (fun I18 eI18 => ?_)
          replace h := h I18 eI18
          refine q_aload_n C dX8_readNumber_51 rfl ?_
          refine q_cVi (as := []) (st := []) (r := a0) C mv_X8_figure ml_RX8_62 dX8_readNumber_52 rfl s1 rfl (Nat.le_of_ble_eq_true rfl) ⟨Nat.le_refl _, Nat.le_refl _⟩ h (fun r19 I20 L21 P22 h => ?_)
          refine q_istore_n (lo1 := [some (.ref a0), some (.int x1), some (.int r2), some (.int r19)]) C dX8_readNumber_55 (by decide) rfl ?_
          refine q_iload_n C dX8_readNumber_56 rfl ?_
          refine q_iconst (v := 3) C dX8_readNumber_57 (by decide) ?_
          refine q_icmp_ne (tgt := 88) C dX8_readNumber_58 (by decide) (fun c23 => ?_) (fun c23 => ?_)
          · replace h := h.1 c23
            refine q_iconst (v := 1) C dX8_readNumber_88 (by decide) ?_
            exact q_zret C hk (Or.inr rfl) dX8_readNumber_89 ⟨rfl, h⟩
          · replace h := h.2 c23
            refine q_iload_n C dX8_readNumber_61 rfl ?_
            refine q_iconst (v := (-1)) C dX8_readNumber_62 (by decide) ?_
            refine q_icmp_eq (tgt := 88) C dX8_readNumber_63 (by decide) (fun c24 => ?_) (fun c24 => ?_)
            · replace h := h.1 c24
              refine q_iconst (v := 1) C dX8_readNumber_88 (by decide) ?_
              exact q_zret C hk (Or.inr rfl) dX8_readNumber_89 ⟨rfl, h⟩
            · replace h := h.2 c24
              refine q_aload_n C dX8_readNumber_66 rfl ?_
              refine q_getP C fl_RX8_18 rfl s1 dX8_readNumber_67 ?_
              refine q_iload_n C dX8_readNumber_70 rfl ?_
              refine q_bipush (v := 10) C dX8_readNumber_71 (by decide) ?_
              refine q_iload_n C dX8_readNumber_73 rfl ?_
              refine q_imul C dX8_readNumber_74 ?_
              refine q_iload_n C dX8_readNumber_75 rfl ?_
              refine q_iadd C dX8_readNumber_76 ?_
              have s25 := h.1
              replace h := h.2
              have s26 := h.1
              replace h := h.2
              refine q_iast C s25 s26 dX8_readNumber_77 (fun I27 eI27 => ?_)
              replace h := h I27 eI27
              refine q_aload_n C dX8_readNumber_78 rfl ?_
              refine q_dup C dX8_readNumber_79 rfl ?_
              refine q_getI C fl_RX8_29 rfl s1 dX8_readNumber_80 ?_
              refine q_iconst (v := 1) C dX8_readNumber_83 (by decide) ?_
              refine q_iadd C dX8_readNumber_84 ?_
              refine q_putI C fl_RX8_29 (fun T hT => by cases hT; rfl) rfl s1 dX8_readNumber_85 (fun I28 eI28 => ?_)
              replace h := h I28 eI28
              refine q_iconst (v := 1) C dX8_readNumber_88 (by decide) ?_
              exact q_zret C hk (Or.inr rfl) dX8_readNumber_89 ⟨rfl, h⟩
        · replace h := h.2 c14
          refine q_iconst (v := 0) C dX8_readNumber_32 (by decide) ?_
          exact q_zret C hk (Or.inl rfl) dX8_readNumber_33 ⟨rfl, h⟩
theorem sp_X8_readNumber {d : Nat} {sh : List qSh} {K : Option Value → qMI → qML → qMP → Prop} {a0 : Nat} {x1 : Int32} {I : qMI} {L : qML} {P : qMP} (h0 : vc_X8_readNumber_0 d sh K a0 x1 I L P) : Sq (d + 1) mX8_readNumber sh [.ref a0, .int x1] I L P K := by
  refine Sq_of (by decide +kernel) (Nat.le_of_ble_eq_true rfl) (fun X C hk hn => ?_)
  exact rg_X8_readNumber_0 C hk h0
/-! BracketDraws$Text.figure()I -/
def vc_X8_figure_0 (d : Nat) (sh : List qSh) (K : Option Value → qMI → qML → qMP → Prop) (a0 : Nat) (I : qMI) (L : qML) (P : qMP) : Prop :=
  ((shp sh a0).1 = 8) ∧ (((shp sh (P a0 2)).1 = 7) ∧ (Sq d mX7_at sh [.ref (P a0 2), .int (I a0 3)] I L P (KI fun r3 I4 L5 P6 => ((r3 < 48) → (K (some (.int ((-1)))) I4 L5 P6)) ∧ ((¬ r3 < 48) → (((57 < r3) → (K (some (.int ((-1)))) I4 L5 P6)) ∧ ((¬ 57 < r3) → (K (some (.int (r3 - 48))) I4 L5 P6)))))))
set_option maxRecDepth 100000 in
set_option maxHeartbeats 4000000 in
theorem rg_X8_figure_0 {X : qCT} {d : Nat} {sh : List qSh} {K : Option Value → qMI → qML → qMP → Prop} {a0 : Nat} {I : qMI} {L : qML} {P : qMP} (C : qCB X RX8 cX8_figure 2 (d + 1) 0 0) (hk : qCK X (some .int) 0 0 (fun v sh' I' L' P' => sh' = sh ∧ K v I' L' P')) (h : vc_X8_figure_0 d sh K a0 I L P) : qG X 0 [some (.ref a0), none] [] sh I L P 0 0 := by
  unfold vc_X8_figure_0 at h
  refine q_aload_n C dX8_figure_0 rfl ?_
  have s1 := h.1
  replace h := h.2
  refine q_getP C fl_RX8_25 rfl s1 dX8_figure_1 ?_
  refine q_aload_n C dX8_figure_4 rfl ?_
  refine q_getI C fl_RX8_29 rfl s1 dX8_figure_5 ?_
  have s2 := h.1
  replace h := h.2
  refine q_cVi (as := [.int (I a0 3)]) (st := []) (r := P a0 2) C mv_X7_at ml_RX8_51 dX8_figure_8 rfl s2 rfl (Nat.le_of_ble_eq_true rfl) ⟨Nat.le_refl _, Nat.le_refl _⟩ h (fun r3 I4 L5 P6 h => ?_)
  refine q_istore_n (lo1 := [some (.ref a0), some (.int r3)]) C dX8_figure_11 (by decide) rfl ?_
  refine q_iload_n C dX8_figure_12 rfl ?_
  refine q_bipush (v := 48) C dX8_figure_13 (by decide) ?_
  refine q_icmp_lt (tgt := 31) C dX8_figure_15 (by decide) (fun c7 => ?_) (fun c7 => ?_)
  · replace h := h.1 c7
    refine q_iconst (v := (-1)) C dX8_figure_31 (by decide) ?_
    exact q_iret C hk dX8_figure_32 ⟨rfl, h⟩
  · replace h := h.2 c7
    refine q_iload_n C dX8_figure_18 rfl ?_
    refine q_bipush (v := 57) C dX8_figure_19 (by decide) ?_
    refine q_icmp_gt (tgt := 31) C dX8_figure_21 (by decide) (fun c8 => ?_) (fun c8 => ?_)
    · replace h := h.1 c8
      refine q_iconst (v := (-1)) C dX8_figure_31 (by decide) ?_
      exact q_iret C hk dX8_figure_32 ⟨rfl, h⟩
    · replace h := h.2 c8
      refine q_iload_n C dX8_figure_24 rfl ?_
      refine q_bipush (v := 48) C dX8_figure_25 (by decide) ?_
      refine q_isub C dX8_figure_27 ?_
      refine q_goto (tgt := 32) C dX8_figure_28 (by decide) ?_
      exact q_iret C hk dX8_figure_32 ⟨rfl, h⟩
theorem sp_X8_figure {d : Nat} {sh : List qSh} {K : Option Value → qMI → qML → qMP → Prop} {a0 : Nat} {I : qMI} {L : qML} {P : qMP} (h0 : vc_X8_figure_0 d sh K a0 I L P) : Sq (d + 1) mX8_figure sh [.ref a0] I L P K := by
  refine Sq_of (by decide +kernel) (Nat.le_of_ble_eq_true rfl) (fun X C hk hn => ?_)
  exact rg_X8_figure_0 C hk h0
/-! BracketDraws$Text.whatOf(I)I -/
def vc_X8_whatOf_0 (d : Nat) (sh : List qSh) (K : Option Value → qMI → qML → qMP → Prop) (x0 : Int32) (I : qMI) (L : qML) (P : qMP) : Prop :=
  ((x0 = 99) → (K (some (.int 0)) I L P)) ∧ ((x0 = 114) → (K (some (.int 1)) I L P)) ∧ ((x0 = 115) → (K (some (.int 2)) I L P)) ∧ ((x0 = 120) → (K (some (.int 3)) I L P)) ∧ (¬ x0 = 99 → ¬ x0 = 114 → ¬ x0 = 115 → ¬ x0 = 120 → (K (some (.int ((-1)))) I L P))
set_option maxRecDepth 100000 in
set_option maxHeartbeats 4000000 in
theorem rg_X8_whatOf_0 {X : qCT} {d : Nat} {sh : List qSh} {K : Option Value → qMI → qML → qMP → Prop} {x0 : Int32} {I : qMI} {L : qML} {P : qMP} (C : qCB X RX8 cX8_whatOf 1 (d + 1) 0 0) (hk : qCK X (some .int) 0 0 (fun v sh' I' L' P' => sh' = sh ∧ K v I' L' P')) (h : vc_X8_whatOf_0 d sh K x0 I L P) : qG X 0 [some (.int x0)] [] sh I L P 0 0 := by
  unfold vc_X8_whatOf_0 at h
  refine q_iload_n C dX8_whatOf_0 rfl ?_
  by_cases c0 : x0 = 99
  · replace h := h.1 c0
    refine q_look (off := 43) (tgt := 44) C dX8_whatOf_1 (by decide) (by rw [c0]; rfl) (by decide) ?_
    refine q_iconst (v := 0) C dX8_whatOf_44 (by decide) ?_
    exact q_iret C hk dX8_whatOf_45 ⟨rfl, h⟩
  replace h := h.2
  by_cases c1 : x0 = 114
  · replace h := h.1 c1
    refine q_look (off := 45) (tgt := 46) C dX8_whatOf_1 (by decide) (by rw [c1]; rfl) (by decide) ?_
    refine q_iconst (v := 1) C dX8_whatOf_46 (by decide) ?_
    exact q_iret C hk dX8_whatOf_47 ⟨rfl, h⟩
  replace h := h.2
  by_cases c2 : x0 = 115
  · replace h := h.1 c2
    refine q_look (off := 47) (tgt := 48) C dX8_whatOf_1 (by decide) (by rw [c2]; rfl) (by decide) ?_
    refine q_iconst (v := 2) C dX8_whatOf_48 (by decide) ?_
    exact q_iret C hk dX8_whatOf_49 ⟨rfl, h⟩
  replace h := h.2
  by_cases c3 : x0 = 120
  · replace h := h.1 c3
    refine q_look (off := 49) (tgt := 50) C dX8_whatOf_1 (by decide) (by rw [c3]; rfl) (by decide) ?_
    refine q_iconst (v := 3) C dX8_whatOf_50 (by decide) ?_
    exact q_iret C hk dX8_whatOf_51 ⟨rfl, h⟩
  replace h := h.2
  replace h := h c0 c1 c2 c3
  refine q_look (off := 51) (tgt := 52) C dX8_whatOf_1 (by decide) (by
    rw [lv_osw c0 (by decide)]
    rw [lv_osw c1 (by decide)]
    rw [lv_osw c2 (by decide)]
    rw [lv_osw c3 (by decide)]
    rfl) (by decide) ?_
  refine q_iconst (v := (-1)) C dX8_whatOf_52 (by decide) ?_
  exact q_iret C hk dX8_whatOf_53 ⟨rfl, h⟩
theorem sp_X8_whatOf {d : Nat} {sh : List qSh} {K : Option Value → qMI → qML → qMP → Prop} {x0 : Int32} {I : qMI} {L : qML} {P : qMP} (h0 : vc_X8_whatOf_0 d sh K x0 I L P) : Sq (d + 1) mX8_whatOf sh [.int x0] I L P K := by
  refine Sq_of (by decide +kernel) (Nat.le_of_ble_eq_true rfl) (fun X C hk hn => ?_)
  exact rg_X8_whatOf_0 C hk h0
