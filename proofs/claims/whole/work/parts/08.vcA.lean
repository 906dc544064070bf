/-! BracketDraws$Entries.copyFrom(LBracketDraws$Entries;)V -/
def vc_X2_copyFrom_0 (d : Nat) (sh : List qSh) (K : Option Value → qMI → qML → qMP → Prop) (a0 : Nat) (a1 : Nat) (I : qMI) (L : qML) (P : qMP) : Prop :=
  ((shp sh a1).1 = 2) ∧ (((shp sh a0).1 = 2) ∧ (∀ I3 : qMI, I3 = uI I a0 0 (I a1 0) → (∀ I4 : qMI, I4 = uI I3 a0 1 (I3 a1 1) → (∀ I5 : qMI, I5 = uI I4 a0 2 (I4 a1 2) → (((shp sh (P a0 3)).1 = 20) ∧ (((shp sh (P a1 3)).1 = 20) ∧ ((¬ (nI (shp sh (P a0 3)).2) < 0) ∧ ((Int32.toNatClampNeg 0 + Int32.toNatClampNeg (nI (shp sh (P a0 3)).2) ≤ (shp sh (P a1 3)).2) ∧ ((Int32.toNatClampNeg 0 + Int32.toNatClampNeg (nI (shp sh (P a0 3)).2) ≤ (shp sh (P a0 3)).2) ∧ (∀ I11 : qMI, I11 = cI I5 (P a1 3) (P a0 3) (Int32.toNatClampNeg 0) (Int32.toNatClampNeg 0) (Int32.toNatClampNeg (nI (shp sh (P a0 3)).2)) → (K none I11 L P)))))))))))
set_option maxRecDepth 100000 in
set_option maxHeartbeats 4000000 in
theorem rg_X2_copyFrom_0 {X : qCT} {d : Nat} {sh : List qSh} {K : Option Value → qMI → qML → qMP → Prop} {a0 : Nat} {a1 : Nat} {I : qMI} {L : qML} {P : qMP} (C : qCB X RX2 cX2_copyFrom 2 (d + 1) 0 0) (hk : qCK X (none) 0 0 (fun v sh' I' L' P' => sh' = sh ∧ K v I' L' P')) (h : vc_X2_copyFrom_0 d sh K a0 a1 I L P) : qG X 0 [some (.ref a0), some (.ref a1)] [] sh I L P 0 0 := by
  unfold vc_X2_copyFrom_0 at h
  refine q_aload_n C dX2_copyFrom_0 rfl ?_
  refine q_aload_n C dX2_copyFrom_1 rfl ?_
  have s1 := h.1
  replace h := h.2
  refine q_getI C fl_RX2_19 rfl s1 dX2_copyFrom_2 ?_
  have s2 := h.1
  replace h := h.2
  refine q_putI C fl_RX2_19 (fun T hT => by cases hT; rfl) rfl s2 dX2_copyFrom_5 (fun I3 eI3 => ?_)
  replace h := h I3 eI3
  refine q_aload_n C dX2_copyFrom_8 rfl ?_
  refine q_aload_n C dX2_copyFrom_9 rfl ?_
  refine q_getI C fl_RX2_9 rfl s1 dX2_copyFrom_10 ?_
  refine q_putI C fl_RX2_9 (fun T hT => by cases hT; rfl) rfl s2 dX2_copyFrom_13 (fun I4 eI4 => ?_)
  replace h := h I4 eI4
  refine q_aload_n C dX2_copyFrom_16 rfl ?_
  refine q_aload_n C dX2_copyFrom_17 rfl ?_
  refine q_getI C fl_RX2_22 rfl s1 dX2_copyFrom_18 ?_
  refine q_putI C fl_RX2_22 (fun T hT => by cases hT; rfl) rfl s2 dX2_copyFrom_21 (fun I5 eI5 => ?_)
  replace h := h I5 eI5
  refine q_aload_n C dX2_copyFrom_24 rfl ?_
  refine q_getP C fl_RX2_15 rfl s1 dX2_copyFrom_25 ?_
  refine q_iconst (v := 0) C dX2_copyFrom_28 (by decide) ?_
  refine q_aload_n C dX2_copyFrom_29 rfl ?_
  refine q_getP C fl_RX2_15 rfl s2 dX2_copyFrom_30 ?_
  refine q_iconst (v := 0) C dX2_copyFrom_33 (by decide) ?_
  refine q_aload_n C dX2_copyFrom_34 rfl ?_
  refine q_getP C fl_RX2_15 rfl s2 dX2_copyFrom_35 ?_
  have s6 := h.1
  replace h := h.2
  refine q_alen20 C s6 dX2_copyFrom_38 ?_
  have s7 := h.1
  replace h := h.2
  have s8 := h.1
  replace h := h.2
  have s9 := h.1
  replace h := h.2
  have s10 := h.1
  replace h := h.2
  refine q_copyI C ml_RX2_25 s7 s6 (by decide) (by decide) s8 s9 s10 (Nat.le_of_ble_eq_true rfl) dX2_copyFrom_39 (fun I11 eI11 => ?_)
  replace h := h I11 eI11
  exact q_vret C hk dX2_copyFrom_42 ⟨rfl, h⟩
theorem sp_X2_copyFrom {d : Nat} {sh : List qSh} {K : Option Value → qMI → qML → qMP → Prop} {a0 : Nat} {a1 : Nat} {I : qMI} {L : qML} {P : qMP} (h0 : vc_X2_copyFrom_0 d sh K a0 a1 I L P) : Sq (d + 1) mX2_copyFrom sh [.ref a0, .ref a1] I L P K := by
  refine Sq_of (by decide +kernel) (Nat.le_of_ble_eq_true rfl) (fun X C hk hn => ?_)
  exact rg_X2_copyFrom_0 C hk h0
/-! BracketDraws$Entries.sameDraws(LBracketDraws$Entries;)Z -/
def vc_X2_sameDraws_0 (d : Nat) (sh : List qSh) (K : Option Value → qMI → qML → qMP → Prop) (T1 : Int32 → Int32 → qMI → qML → qMP → Prop) (a0 : Nat) (a1 : Nat) (I : qMI) (L : qML) (P : qMP) : Prop :=
  ((shp sh a0).1 = 2) ∧ (((shp sh a1).1 = 2) ∧ (((¬ (I a0 0) = (I a1 0)) → (T1 0 0 I L P)) ∧ (((I a0 0) = (I a1 0)) → (((¬ (I a0 1) = (I a1 1)) → (T1 0 0 I L P)) ∧ (((I a0 1) = (I a1 1)) → (((¬ (I a0 2) = (I a1 2)) → (T1 0 0 I L P)) ∧ (((I a0 2) = (I a1 2)) → (T1 1 0 I L P))))))))
set_option maxRecDepth 100000 in
set_option maxHeartbeats 4000000 in
theorem rg_X2_sameDraws_0 {X : qCT} {d : Nat} {sh : List qSh} {K : Option Value → qMI → qML → qMP → Prop} {T1 : Int32 → Int32 → qMI → qML → qMP → Prop} {a0 : Nat} {a1 : Nat} {I : qMI} {L : qML} {P : qMP} (C : qCB X RX2 cX2_sameDraws 4 (d + 1) 0 0) (hk : qCK X (some .boolean) 0 0 (fun v sh' I' L' P' => sh' = sh ∧ K v I' L' P')) (hT1 : ∀ (x2 : Int32) (x3 : Int32) (I : qMI) (L : qML) (P : qMP), T1 x2 x3 I L P → qG X 41 [some (.ref a0), some (.ref a1), some (.int x2), some (.int x3)] [] sh I L P 0 0) (h : vc_X2_sameDraws_0 d sh K T1 a0 a1 I L P) : qG X 0 [some (.ref a0), some (.ref a1), none, none] [] sh I L P 0 0 := by
  unfold vc_X2_sameDraws_0 at h
  refine q_aload_n C dX2_sameDraws_0 rfl ?_
  have s1 := h.1
  replace h := h.2
  refine q_getI C fl_RX2_19 rfl s1 dX2_sameDraws_1 ?_
  refine q_aload_n C dX2_sameDraws_4 rfl ?_
  have s2 := h.1
  replace h := h.2
  refine q_getI C fl_RX2_19 rfl s2 dX2_sameDraws_5 ?_
  refine q_icmp_ne (tgt := 37) C dX2_sameDraws_8 (by decide) (fun c3 => ?_) (fun c3 => ?_)
  · replace h := h.1 c3
    refine q_iconst (v := 0) C dX2_sameDraws_37 (by decide) ?_
    refine q_istore_n (lo1 := [some (.ref a0), some (.ref a1), some (.int 0), none]) C dX2_sameDraws_38 (by decide) rfl ?_
    refine q_iconst (v := 0) C dX2_sameDraws_39 (by decide) ?_
    refine q_istore_n (lo1 := [some (.ref a0), some (.ref a1), some (.int 0), some (.int 0)]) C dX2_sameDraws_40 (by decide) rfl ?_
    exact hT1 _ _ _ _ _ h
  · replace h := h.2 c3
    refine q_aload_n C dX2_sameDraws_11 rfl ?_
    refine q_getI C fl_RX2_9 rfl s1 dX2_sameDraws_12 ?_
    refine q_aload_n C dX2_sameDraws_15 rfl ?_
    refine q_getI C fl_RX2_9 rfl s2 dX2_sameDraws_16 ?_
    refine q_icmp_ne (tgt := 37) C dX2_sameDraws_19 (by decide) (fun c4 => ?_) (fun c4 => ?_)
    · replace h := h.1 c4
      refine q_iconst (v := 0) C dX2_sameDraws_37 (by decide) ?_
      refine q_istore_n (lo1 := [some (.ref a0), some (.ref a1), some (.int 0), none]) C dX2_sameDraws_38 (by decide) rfl ?_
      refine q_iconst (v := 0) C dX2_sameDraws_39 (by decide) ?_
      refine q_istore_n (lo1 := [some (.ref a0), some (.ref a1), some (.int 0), some (.int 0)]) C dX2_sameDraws_40 (by decide) rfl ?_
      exact hT1 _ _ _ _ _ h
    · replace h := h.2 c4
      refine q_aload_n C dX2_sameDraws_22 rfl ?_
      refine q_getI C fl_RX2_22 rfl s1 dX2_sameDraws_23 ?_
      refine q_aload_n C dX2_sameDraws_26 rfl ?_
      refine q_getI C fl_RX2_22 rfl s2 dX2_sameDraws_27 ?_
      refine q_icmp_ne (tgt := 37) C dX2_sameDraws_30 (by decide) (fun c5 => ?_) (fun c5 => ?_)
      · replace h := h.1 c5
        refine q_iconst (v := 0) C dX2_sameDraws_37 (by decide) ?_
        refine q_istore_n (lo1 := [some (.ref a0), some (.ref a1), some (.int 0), none]) C dX2_sameDraws_38 (by decide) rfl ?_
        refine q_iconst (v := 0) C dX2_sameDraws_39 (by decide) ?_
        refine q_istore_n (lo1 := [some (.ref a0), some (.ref a1), some (.int 0), some (.int 0)]) C dX2_sameDraws_40 (by decide) rfl ?_
        exact hT1 _ _ _ _ _ h
      · replace h := h.2 c5
        refine q_iconst (v := 1) C dX2_sameDraws_33 (by decide) ?_
        refine q_goto (tgt := 38) C dX2_sameDraws_34 (by decide) ?_
        refine q_istore_n (lo1 := [some (.ref a0), some (.ref a1), some (.int 1), none]) C dX2_sameDraws_38 (by decide) rfl ?_
        refine q_iconst (v := 0) C dX2_sameDraws_39 (by decide) ?_
        refine q_istore_n (lo1 := [some (.ref a0), some (.ref a1), some (.int 1), some (.int 0)]) C dX2_sameDraws_40 (by decide) rfl ?_
        exact hT1 _ _ _ _ _ h
def vc_X2_sameDraws_1 (d : Nat) (sh : List qSh) (K : Option Value → qMI → qML → qMP → Prop) (T1 : Int32 → Int32 → qMI → qML → qMP → Prop) (a0 : Nat) (a1 : Nat) (x2 : Int32) (x3 : Int32) (I : qMI) (L : qML) (P : qMP) : Prop :=
  ((x2 = 0) → ((x2 = 0 ∨ x2 = 1) ∧ (K (some (.int x2)) I L P))) ∧ ((¬ x2 = 0) → (((shp sh a0).1 = 2) ∧ ((((I a0 0) ≤ x3) → ((x2 = 0 ∨ x2 = 1) ∧ (K (some (.int x2)) I L P))) ∧ ((¬ (I a0 0) ≤ x3) → (Sq d mX2_told sh [.ref a0, .int x3, .int 0] I L P (KI fun r6 I7 L8 P9 => ((shp sh a1).1 = 2) ∧ (Sq d mX2_told sh [.ref a1, .int x3, .int 0] I7 L8 P9 (KI fun r11 I12 L13 P14 => ((¬ r6 = r11) → (T1 0 (x3 + 1) I12 L13 P14)) ∧ ((r6 = r11) → (Sq d mX2_told sh [.ref a0, .int x3, .int 1] I12 L13 P14 (KI fun r16 I17 L18 P19 => Sq d mX2_told sh [.ref a1, .int x3, .int 1] I17 L18 P19 (KI fun r20 I21 L22 P23 => ((¬ r16 = r20) → (T1 0 (x3 + 1) I21 L22 P23)) ∧ ((r16 = r20) → (Sq d mX2_told sh [.ref a0, .int x3, .int 2] I21 L22 P23 (KI fun r25 I26 L27 P28 => Sq d mX2_told sh [.ref a1, .int x3, .int 2] I26 L27 P28 (KI fun r29 I30 L31 P32 => ((¬ r25 = r29) → (T1 0 (x3 + 1) I30 L31 P32)) ∧ ((r25 = r29) → (T1 1 (x3 + 1) I30 L31 P32))))))))))))))))))
set_option maxRecDepth 100000 in
set_option maxHeartbeats 4000000 in
theorem rg_X2_sameDraws_1 {X : qCT} {d : Nat} {sh : List qSh} {K : Option Value → qMI → qML → qMP → Prop} {T1 : Int32 → Int32 → qMI → qML → qMP → Prop} {a0 : Nat} {a1 : Nat} {x2 : Int32} {x3 : Int32} {I : qMI} {L : qML} {P : qMP} (C : qCB X RX2 cX2_sameDraws 4 (d + 1) 0 0) (hk : qCK X (some .boolean) 0 0 (fun v sh' I' L' P' => sh' = sh ∧ K v I' L' P')) (hT1 : ∀ (x2 : Int32) (x3 : Int32) (I : qMI) (L : qML) (P : qMP), T1 x2 x3 I L P → qG X 41 [some (.ref a0), some (.ref a1), some (.int x2), some (.int x3)] [] sh I L P 0 0) (h : vc_X2_sameDraws_1 d sh K T1 a0 a1 x2 x3 I L P) : qG X 41 [some (.ref a0), some (.ref a1), some (.int x2), some (.int x3)] [] sh I L P 0 0 := by
  unfold vc_X2_sameDraws_1 at h
  refine q_iload_n C dX2_sameDraws_41 rfl ?_
  refine q_if_eq (tgt := 110) C dX2_sameDraws_42 (by decide) (fun c1 => ?_) (fun c1 => ?_)
  · replace h := h.1 c1
    refine q_iload_n C dX2_sameDraws_110 rfl ?_
    have s2 := h.1
    replace h := h.2
    exact q_zret C hk s2 dX2_sameDraws_111 ⟨rfl, h⟩
  · replace h := h.2 c1
    refine q_iload_n C dX2_sameDraws_45 rfl ?_
    refine q_aload_n C dX2_sameDraws_46 rfl ?_
    have s3 := h.1
    replace h := h.2
    refine q_getI C fl_RX2_19 rfl s3 dX2_sameDraws_47 ?_
    refine q_icmp_ge (tgt := 110) C dX2_sameDraws_50 (by decide) (fun c4 => ?_) (fun c4 => ?_)
    · replace h := h.1 c4
      refine q_iload_n C dX2_sameDraws_110 rfl ?_
      have s5 := h.1
      replace h := h.2
      exact q_zret C hk s5 dX2_sameDraws_111 ⟨rfl, h⟩
    · replace h := h.2 c4
      refine q_aload_n C dX2_sameDraws_53 rfl ?_
      refine q_iload_n C dX2_sameDraws_54 rfl ?_
      refine q_iconst (v := 0) C dX2_sameDraws_55 (by decide) ?_
      refine q_cVi (as := [.int x3, .int 0]) (st := []) (r := a0) C mv_X2_told ml_RX2_31 dX2_sameDraws_56 rfl s3 rfl (Nat.le_of_ble_eq_true rfl) ⟨Nat.le_refl _, Nat.le_refl _⟩ h (fun r6 I7 L8 P9 h => ?_)
      refine q_aload_n C dX2_sameDraws_59 rfl ?_
      refine q_iload_n C dX2_sameDraws_60 rfl ?_
      refine q_iconst (v := 0) C dX2_sameDraws_61 (by decide) ?_
      have s10 := h.1
      replace h := h.2
      refine q_cVi (as := [.int x3, .int 0]) (st := [.int r6]) (r := a1) C mv_X2_told ml_RX2_31 dX2_sameDraws_62 rfl s10 rfl (Nat.le_of_ble_eq_true rfl) ⟨Nat.le_refl _, Nat.le_refl _⟩ h (fun r11 I12 L13 P14 h => ?_)
      refine q_icmp_ne (tgt := 102) C dX2_sameDraws_65 (by decide) (fun c15 => ?_) (fun c15 => ?_)
      · replace h := h.1 c15
        refine q_iconst (v := 0) C dX2_sameDraws_102 (by decide) ?_
        refine q_istore_n (lo1 := [some (.ref a0), some (.ref a1), some (.int 0), some (.int x3)]) C dX2_sameDraws_103 (by decide) rfl ?_
        refine q_iinc (w := 1) (lo1 := [some (.ref a0), some (.ref a1), some (.int 0), some (.int (x3 + 1))]) C dX2_sameDraws_104 rfl (by decide) (by decide) rfl ?_
        refine q_goto (tgt := 41) C dX2_sameDraws_107 (by decide) ?_
        exact hT1 _ _ _ _ _ h
      · replace h := h.2 c15
        refine q_aload_n C dX2_sameDraws_68 rfl ?_
        refine q_iload_n C dX2_sameDraws_69 rfl ?_
        refine q_iconst (v := 1) C dX2_sameDraws_70 (by decide) ?_
        refine q_cVi (as := [.int x3, .int 1]) (st := []) (r := a0) C mv_X2_told ml_RX2_31 dX2_sameDraws_71 rfl s3 rfl (Nat.le_of_ble_eq_true rfl) ⟨Nat.le_refl _, Nat.le_refl _⟩ h (fun r16 I17 L18 P19 h => ?_)
        refine q_aload_n C dX2_sameDraws_74 rfl ?_
        refine q_iload_n C dX2_sameDraws_75 rfl ?_
        refine q_iconst (v := 1) C dX2_sameDraws_76 (by decide) ?_
        refine q_cVi (as := [.int x3, .int 1]) (st := [.int r16]) (r := a1) C mv_X2_told ml_RX2_31 dX2_sameDraws_77 rfl s10 rfl (Nat.le_of_ble_eq_true rfl) ⟨Nat.le_refl _, Nat.le_refl _⟩ h (fun r20 I21 L22 P23 h => ?_)
        refine q_icmp_ne (tgt := 102) C dX2_sameDraws_80 (by decide) (fun c24 => ?_) (fun c24 => ?_)
        · replace h := h.1 c24
          refine q_iconst (v := 0) C dX2_sameDraws_102 (by decide) ?_
          refine q_istore_n (lo1 := [some (.ref a0), some (.ref a1), some (.int 0), some (.int x3)]) C dX2_sameDraws_103 (by decide) rfl ?_
          refine q_iinc (w := 1) (lo1 := [some (.ref a0), some (.ref a1), some (.int 0), some (.int (x3 + 1))]) C dX2_sameDraws_104 rfl (by decide) (by decide) rfl ?_
          refine q_goto (tgt := 41) C dX2_sameDraws_107 (by decide) ?_
          exact hT1 _ _ _ _ _ h
        · replace h := h.2 c24
          refine q_aload_n C dX2_sameDraws_83 rfl ?_
          refine q_iload_n C dX2_sameDraws_84 rfl ?_
          refine q_iconst (v := 2) C dX2_sameDraws_85 (by decide) ?_
          refine q_cVi (as := [.int x3, .int 2]) (st := []) (r := a0) C mv_X2_told ml_RX2_31 dX2_sameDraws_86 rfl s3 rfl (Nat.le_of_ble_eq_true rfl) ⟨Nat.le_refl _, Nat.le_refl _⟩ h (fun r25 I26 L27 P28 h => ?_)
          refine q_aload_n C dX2_sameDraws_89 rfl ?_
          refine q_iload_n C dX2_sameDraws_90 rfl ?_
          refine q_iconst (v := 2) C dX2_sameDraws_91 (by decide) ?_
          refine q_cVi (as := [.int x3, .int 2]) (st := [.int r25]) (r := a1) C mv_X2_told ml_RX2_31 dX2_sameDraws_92 rfl s10 rfl (Nat.le_of_ble_eq_true rfl) ⟨Nat.le_refl _, Nat.le_refl _⟩ h (fun r29 I30 L31 P32 h => ?_)
          refine q_icmp_ne (tgt := 102) C dX2_sameDraws_95 (by decide) (fun c33 => ?_) (fun c33 => ?_)
          · replace h := h.1 c33
            refine q_iconst (v := 0) C dX2_sameDraws_102 (by decide) ?_
            refine q_istore_n (lo1 := [some (.ref a0), some (.ref a1), some (.int 0), some (.int x3)]) C dX2_sameDraws_103 (by decide) rfl ?_
            refine q_iinc (w := 1) (lo1 := [some (.ref a0), some (.ref a1), some (.int 0), some (.int (x3 + 1))]) C dX2_sameDraws_104 rfl (by decide) (by decide) rfl ?_
            refine q_goto (tgt := 41) C dX2_sameDraws_107 (by decide) ?_
            exact hT1 _ _ _ _ _ h
          · replace h := h.2 c33
            refine q_iconst (v := 1) C dX2_sameDraws_98 (by decide) ?_
            refine q_goto (tgt := 103) C dX2_sameDraws_99 (by decide) ?_
            refine q_istore_n (lo1 := [some (.ref a0), some (.ref a1), some (.int 1), some (.int x3)]) C dX2_sameDraws_103 (by decide) rfl ?_
            refine q_iinc (w := 1) (lo1 := [some (.ref a0), some (.ref a1), some (.int 1), some (.int (x3 + 1))]) C dX2_sameDraws_104 rfl (by decide) (by decide) rfl ?_
            refine q_goto (tgt := 41) C dX2_sameDraws_107 (by decide) ?_
            exact hT1 _ _ _ _ _ h
theorem sp_X2_sameDraws {d : Nat} {sh : List qSh} {K : Option Value → qMI → qML → qMP → Prop} {a0 : Nat} {a1 : Nat} {I : qMI} {L : qML} {P : qMP} (T1 : Int32 → Int32 → qMI → qML → qMP → Prop) (m1 : Int32 → Int32 → qMI → qML → qMP → Nat) (h0 : vc_X2_sameDraws_0 d sh K T1 a0 a1 I L P)
    (h1 : ∀ (x2 : Int32) (x3 : Int32) (I : qMI) (L : qML) (P : qMP), T1 x2 x3 I L P → vc_X2_sameDraws_1 d sh K (fun w0 w1 I' L' P' => T1 w0 w1 I' L' P' ∧ m1 w0 w1 I' L' P' < m1 x2 x3 I L P) a0 a1 x2 x3 I L P) : Sq (d + 1) mX2_sameDraws sh [.ref a0, .ref a1] I L P K := by
  refine Sq_of (by decide +kernel) (Nat.le_of_ble_eq_true rfl) (fun X C hk hn => ?_)
  have go : ∀ N : Nat, (∀ (x2 : Int32) (x3 : Int32) (I : qMI) (L : qML) (P : qMP), T1 x2 x3 I L P → m1 x2 x3 I L P < N → qG X 41 [some (.ref a0), some (.ref a1), some (.int x2), some (.int x3)] [] sh I L P 0 0) := by
    intro N
    induction N with
    | zero => exact fun _ _ _ _ _ _ q => absurd q (Nat.not_lt_zero _)
    | succ N ih =>
      exact fun b0 b1 I1 L1 P1 t q => rg_X2_sameDraws_1 C hk (fun z0 z1 I2 L2 P2 z => ih z0 z1 I2 L2 P2 z.1 (Nat.lt_of_lt_of_le z.2 (Nat.le_of_lt_succ q))) (h1 b0 b1 I1 L1 P1 t)
  exact rg_X2_sameDraws_0 C hk (fun b0 b1 I1 L1 P1 t => (go (m1 b0 b1 I1 L1 P1 + 1)) b0 b1 I1 L1 P1 t (Nat.lt_succ_self _)) h0
/-! BracketDraws$Entries.has(I)Z -/
def vc_X2_has_0 (d : Nat) (sh : List qSh) (K : Option Value → qMI → qML → qMP → Prop) (a0 : Nat) (x1 : Int32) (I : qMI) (L : qML) (P : qMP) : Prop :=
  ((x1 < 0) → (K (some (.int 0)) I L P)) ∧ ((¬ x1 < 0) → (((shp sh a0).1 = 2) ∧ ((((I a0 0) ≤ x1) → (K (some (.int 0)) I L P)) ∧ ((¬ (I a0 0) ≤ x1) → (K (some (.int 1)) I L P)))))
set_option maxRecDepth 100000 in
set_option maxHeartbeats 4000000 in
theorem rg_X2_has_0 {X : qCT} {d : Nat} {sh : List qSh} {K : Option Value → qMI → qML → qMP → Prop} {a0 : Nat} {x1 : Int32} {I : qMI} {L : qML} {P : qMP} (C : qCB X RX2 cX2_has 2 (d + 1) 0 0) (hk : qCK X (some .boolean) 0 0 (fun v sh' I' L' P' => sh' = sh ∧ K v I' L' P')) (h : vc_X2_has_0 d sh K a0 x1 I L P) : qG X 0 [some (.ref a0), some (.int x1)] [] sh I L P 0 0 := by
  unfold vc_X2_has_0 at h
  refine q_iload_n C dX2_has_0 rfl ?_
  refine q_if_lt (tgt := 16) C dX2_has_1 (by decide) (fun c1 => ?_) (fun c1 => ?_)
  · replace h := h.1 c1
    refine q_iconst (v := 0) C dX2_has_16 (by decide) ?_
    exact q_zret C hk (Or.inl rfl) dX2_has_17 ⟨rfl, h⟩
  · replace h := h.2 c1
    refine q_iload_n C dX2_has_4 rfl ?_
    refine q_aload_n C dX2_has_5 rfl ?_
    have s2 := h.1
    replace h := h.2
    refine q_getI C fl_RX2_19 rfl s2 dX2_has_6 ?_
    refine q_icmp_ge (tgt := 16) C dX2_has_9 (by decide) (fun c3 => ?_) (fun c3 => ?_)
    · replace h := h.1 c3
      refine q_iconst (v := 0) C dX2_has_16 (by decide) ?_
      exact q_zret C hk (Or.inl rfl) dX2_has_17 ⟨rfl, h⟩
    · replace h := h.2 c3
      refine q_iconst (v := 1) C dX2_has_12 (by decide) ?_
      refine q_goto (tgt := 17) C dX2_has_13 (by decide) ?_
      exact q_zret C hk (Or.inr rfl) dX2_has_17 ⟨rfl, h⟩
theorem sp_X2_has {d : Nat} {sh : List qSh} {K : Option Value → qMI → qML → qMP → Prop} {a0 : Nat} {x1 : Int32} {I : qMI} {L : qML} {P : qMP} (h0 : vc_X2_has_0 d sh K a0 x1 I L P) : Sq (d + 1) mX2_has sh [.ref a0, .int x1] I L P K := by
  refine Sq_of (by decide +kernel) (Nat.le_of_ble_eq_true rfl) (fun X C hk hn => ?_)
  exact rg_X2_has_0 C hk h0
/-! BracketDraws$Entries.hasBoth(II)Z -/
def vc_X2_hasBoth_0 (d : Nat) (sh : List qSh) (K : Option Value → qMI → qML → qMP → Prop) (a0 : Nat) (x1 : Int32) (x2 : Int32) (I : qMI) (L : qML) (P : qMP) : Prop :=
  ((shp sh a0).1 = 2) ∧ (Sq d mX2_has sh [.ref a0, .int x1] I L P (KI fun r2 I3 L4 P5 => ((r2 = 0) → (K (some (.int 0)) I3 L4 P5)) ∧ ((¬ r2 = 0) → (Sq d mX2_has sh [.ref a0, .int x2] I3 L4 P5 (KI fun r7 I8 L9 P10 => ((r7 = 0) → (K (some (.int 0)) I8 L9 P10)) ∧ ((¬ r7 = 0) → (((x1 = x2) → (K (some (.int 0)) I8 L9 P10)) ∧ ((¬ x1 = x2) → (K (some (.int 1)) I8 L9 P10)))))))))
set_option maxRecDepth 100000 in
set_option maxHeartbeats 4000000 in
theorem rg_X2_hasBoth_0 {X : qCT} {d : Nat} {sh : List qSh} {K : Option Value → qMI → qML → qMP → Prop} {a0 : Nat} {x1 : Int32} {x2 : Int32} {I : qMI} {L : qML} {P : qMP} (C : qCB X RX2 cX2_hasBoth 3 (d + 1) 0 0) (hk : qCK X (some .boolean) 0 0 (fun v sh' I' L' P' => sh' = sh ∧ K v I' L' P')) (h : vc_X2_hasBoth_0 d sh K a0 x1 x2 I L P) : qG X 0 [some (.ref a0), some (.int x1), some (.int x2)] [] sh I L P 0 0 := by
  unfold vc_X2_hasBoth_0 at h
  refine q_aload_n C dX2_hasBoth_0 rfl ?_
  refine q_iload_n C dX2_hasBoth_1 rfl ?_
  have s1 := h.1
  replace h := h.2
  refine q_cVi (as := [.int x1]) (st := []) (r := a0) C mv_X2_has ml_RX2_35 dX2_hasBoth_2 rfl s1 rfl (Nat.le_of_ble_eq_true rfl) ⟨Nat.le_refl _, Nat.le_refl _⟩ h (fun r2 I3 L4 P5 h => ?_)
  refine q_if_eq (tgt := 25) C dX2_hasBoth_5 (by decide) (fun c6 => ?_) (fun c6 => ?_)
  · replace h := h.1 c6
    refine q_iconst (v := 0) C dX2_hasBoth_25 (by decide) ?_
    exact q_zret C hk (Or.inl rfl) dX2_hasBoth_26 ⟨rfl, h⟩
  · replace h := h.2 c6
    refine q_aload_n C dX2_hasBoth_8 rfl ?_
    refine q_iload_n C dX2_hasBoth_9 rfl ?_
    refine q_cVi (as := [.int x2]) (st := []) (r := a0) C mv_X2_has ml_RX2_35 dX2_hasBoth_10 rfl s1 rfl (Nat.le_of_ble_eq_true rfl) ⟨Nat.le_refl _, Nat.le_refl _⟩ h (fun r7 I8 L9 P10 h => ?_)
    refine q_if_eq (tgt := 25) C dX2_hasBoth_13 (by decide) (fun c11 => ?_) (fun c11 => ?_)
    · replace h := h.1 c11
      refine q_iconst (v := 0) C dX2_hasBoth_25 (by decide) ?_
      exact q_zret C hk (Or.inl rfl) dX2_hasBoth_26 ⟨rfl, h⟩
    · replace h := h.2 c11
      refine q_iload_n C dX2_hasBoth_16 rfl ?_
      refine q_iload_n C dX2_hasBoth_17 rfl ?_
      refine q_icmp_eq (tgt := 25) C dX2_hasBoth_18 (by decide) (fun c12 => ?_) (fun c12 => ?_)
      · replace h := h.1 c12
        refine q_iconst (v := 0) C dX2_hasBoth_25 (by decide) ?_
        exact q_zret C hk (Or.inl rfl) dX2_hasBoth_26 ⟨rfl, h⟩
      · replace h := h.2 c12
        refine q_iconst (v := 1) C dX2_hasBoth_21 (by decide) ?_
        refine q_goto (tgt := 26) C dX2_hasBoth_22 (by decide) ?_
        exact q_zret C hk (Or.inr rfl) dX2_hasBoth_26 ⟨rfl, h⟩
theorem sp_X2_hasBoth {d : Nat} {sh : List qSh} {K : Option Value → qMI → qML → qMP → Prop} {a0 : Nat} {x1 : Int32} {x2 : Int32} {I : qMI} {L : qML} {P : qMP} (h0 : vc_X2_hasBoth_0 d sh K a0 x1 x2 I L P) : Sq (d + 1) mX2_hasBoth sh [.ref a0, .int x1, .int x2] I L P K := by
  refine Sq_of (by decide +kernel) (Nat.le_of_ble_eq_true rfl) (fun X C hk hn => ?_)
  exact rg_X2_hasBoth_0 C hk h0
/-! BracketDraws$Entries.bothLevels()I -/
def vc_X2_bothLevels_0 (d : Nat) (sh : List qSh) (K : Option Value → qMI → qML → qMP → Prop) (a0 : Nat) (I : qMI) (L : qML) (P : qMP) : Prop :=
  ((shp sh a0).1 = 2) ∧ (K (some (.int ((10 * (I a0 1)) + (I a0 2)))) I L P)
set_option maxRecDepth 100000 in
set_option maxHeartbeats 4000000 in
theorem rg_X2_bothLevels_0 {X : qCT} {d : Nat} {sh : List qSh} {K : Option Value → qMI → qML → qMP → Prop} {a0 : Nat} {I : qMI} {L : qML} {P : qMP} (C : qCB X RX2 cX2_bothLevels 1 (d + 1) 0 0) (hk : qCK X (some .int) 0 0 (fun v sh' I' L' P' => sh' = sh ∧ K v I' L' P')) (h : vc_X2_bothLevels_0 d sh K a0 I L P) : qG X 0 [some (.ref a0)] [] sh I L P 0 0 := by
  unfold vc_X2_bothLevels_0 at h
  refine q_bipush (v := 10) C dX2_bothLevels_0 (by decide) ?_
  refine q_aload_n C dX2_bothLevels_2 rfl ?_
  have s1 := h.1
  replace h := h.2
  refine q_getI C fl_RX2_9 rfl s1 dX2_bothLevels_3 ?_
  refine q_imul C dX2_bothLevels_6 ?_
  refine q_aload_n C dX2_bothLevels_7 rfl ?_
  refine q_getI C fl_RX2_22 rfl s1 dX2_bothLevels_8 ?_
  refine q_iadd C dX2_bothLevels_11 ?_
  exact q_iret C hk dX2_bothLevels_12 ⟨rfl, h⟩
theorem sp_X2_bothLevels {d : Nat} {sh : List qSh} {K : Option Value → qMI → qML → qMP → Prop} {a0 : Nat} {I : qMI} {L : qML} {P : qMP} (h0 : vc_X2_bothLevels_0 d sh K a0 I L P) : Sq (d + 1) mX2_bothLevels sh [.ref a0] I L P K := by
  refine Sq_of (by decide +kernel) (Nat.le_of_ble_eq_true rfl) (fun X C hk hn => ?_)
  exact rg_X2_bothLevels_0 C hk h0
/-! BracketDraws$Entries.hasSlot(I)Z -/
def vc_X2_hasSlot_0 (d : Nat) (sh : List qSh) (K : Option Value → qMI → qML → qMP → Prop) (a0 : Nat) (x1 : Int32) (I : qMI) (L : qML) (P : qMP) : Prop :=
  ((x1 < 0) → (K (some (.int 0)) I L P)) ∧ ((¬ x1 < 0) → (((shp sh a0).1 = 2) ∧ (Sq d mX2_slots sh [.ref a0] I L P (KI fun r3 I4 L5 P6 => ((r3 ≤ x1) → (K (some (.int 0)) I4 L5 P6)) ∧ ((¬ r3 ≤ x1) → (K (some (.int 1)) I4 L5 P6))))))
set_option maxRecDepth 100000 in
set_option maxHeartbeats 4000000 in
theorem rg_X2_hasSlot_0 {X : qCT} {d : Nat} {sh : List qSh} {K : Option Value → qMI → qML → qMP → Prop} {a0 : Nat} {x1 : Int32} {I : qMI} {L : qML} {P : qMP} (C : qCB X RX2 cX2_hasSlot 2 (d + 1) 0 0) (hk : qCK X (some .boolean) 0 0 (fun v sh' I' L' P' => sh' = sh ∧ K v I' L' P')) (h : vc_X2_hasSlot_0 d sh K a0 x1 I L P) : qG X 0 [some (.ref a0), some (.int x1)] [] sh I L P 0 0 := by
  unfold vc_X2_hasSlot_0 at h
  refine q_iload_n C dX2_hasSlot_0 rfl ?_
  refine q_if_lt (tgt := 16) C dX2_hasSlot_1 (by decide) (fun c1 => ?_) (fun c1 => ?_)
  · replace h := h.1 c1
    refine q_iconst (v := 0) C dX2_hasSlot_16 (by decide) ?_
    exact q_zret C hk (Or.inl rfl) dX2_hasSlot_17 ⟨rfl, h⟩
  · replace h := h.2 c1
    refine q_iload_n C dX2_hasSlot_4 rfl ?_
    refine q_aload_n C dX2_hasSlot_5 rfl ?_
    have s2 := h.1
    replace h := h.2
    refine q_cVi (as := []) (st := [.int x1]) (r := a0) C mv_X2_slots ml_RX2_39 dX2_hasSlot_6 rfl s2 rfl (Nat.le_of_ble_eq_true rfl) ⟨Nat.le_refl _, Nat.le_refl _⟩ h (fun r3 I4 L5 P6 h => ?_)
    refine q_icmp_ge (tgt := 16) C dX2_hasSlot_9 (by decide) (fun c7 => ?_) (fun c7 => ?_)
    · replace h := h.1 c7
      refine q_iconst (v := 0) C dX2_hasSlot_16 (by decide) ?_
      exact q_zret C hk (Or.inl rfl) dX2_hasSlot_17 ⟨rfl, h⟩
    · replace h := h.2 c7
      refine q_iconst (v := 1) C dX2_hasSlot_12 (by decide) ?_
      refine q_goto (tgt := 17) C dX2_hasSlot_13 (by decide) ?_
      exact q_zret C hk (Or.inr rfl) dX2_hasSlot_17 ⟨rfl, h⟩
theorem sp_X2_hasSlot {d : Nat} {sh : List qSh} {K : Option Value → qMI → qML → qMP → Prop} {a0 : Nat} {x1 : Int32} {I : qMI} {L : qML} {P : qMP} (h0 : vc_X2_hasSlot_0 d sh K a0 x1 I L P) : Sq (d + 1) mX2_hasSlot sh [.ref a0, .int x1] I L P K := by
  refine Sq_of (by decide +kernel) (Nat.le_of_ble_eq_true rfl) (fun X C hk hn => ?_)
  exact rg_X2_hasSlot_0 C hk h0
/-! BracketDraws$Entries.hasRound(I)Z -/
def vc_X2_hasRound_0 (d : Nat) (sh : List qSh) (K : Option Value → qMI → qML → qMP → Prop) (a0 : Nat) (x1 : Int32) (I : qMI) (L : qML) (P : qMP) : Prop :=
  ((x1 < 1) → (K (some (.int 0)) I L P)) ∧ ((¬ x1 < 1) → (((shp sh a0).1 = 2) ∧ (Sq d mX2_rounds sh [.ref a0] I L P (KI fun r3 I4 L5 P6 => ((r3 < x1) → (K (some (.int 0)) I4 L5 P6)) ∧ ((¬ r3 < x1) → (K (some (.int 1)) I4 L5 P6))))))
set_option maxRecDepth 100000 in
set_option maxHeartbeats 4000000 in
theorem rg_X2_hasRound_0 {X : qCT} {d : Nat} {sh : List qSh} {K : Option Value → qMI → qML → qMP → Prop} {a0 : Nat} {x1 : Int32} {I : qMI} {L : qML} {P : qMP} (C : qCB X RX2 cX2_hasRound 2 (d + 1) 0 0) (hk : qCK X (some .boolean) 0 0 (fun v sh' I' L' P' => sh' = sh ∧ K v I' L' P')) (h : vc_X2_hasRound_0 d sh K a0 x1 I L P) : qG X 0 [some (.ref a0), some (.int x1)] [] sh I L P 0 0 := by
  unfold vc_X2_hasRound_0 at h
  refine q_iload_n C dX2_hasRound_0 rfl ?_
  refine q_iconst (v := 1) C dX2_hasRound_1 (by decide) ?_
  refine q_icmp_lt (tgt := 17) C dX2_hasRound_2 (by decide) (fun c1 => ?_) (fun c1 => ?_)
  · replace h := h.1 c1
    refine q_iconst (v := 0) C dX2_hasRound_17 (by decide) ?_
    exact q_zret C hk (Or.inl rfl) dX2_hasRound_18 ⟨rfl, h⟩
  · replace h := h.2 c1
    refine q_iload_n C dX2_hasRound_5 rfl ?_
    refine q_aload_n C dX2_hasRound_6 rfl ?_
    have s2 := h.1
    replace h := h.2
    refine q_cVi (as := []) (st := [.int x1]) (r := a0) C mv_X2_rounds ml_RX2_43 dX2_hasRound_7 rfl s2 rfl (Nat.le_of_ble_eq_true rfl) ⟨Nat.le_refl _, Nat.le_refl _⟩ h (fun r3 I4 L5 P6 h => ?_)
    refine q_icmp_gt (tgt := 17) C dX2_hasRound_10 (by decide) (fun c7 => ?_) (fun c7 => ?_)
    · replace h := h.1 c7
      refine q_iconst (v := 0) C dX2_hasRound_17 (by decide) ?_
      exact q_zret C hk (Or.inl rfl) dX2_hasRound_18 ⟨rfl, h⟩
    · replace h := h.2 c7
      refine q_iconst (v := 1) C dX2_hasRound_13 (by decide) ?_
      refine q_goto (tgt := 18) C dX2_hasRound_14 (by decide) ?_
      exact q_zret C hk (Or.inr rfl) dX2_hasRound_18 ⟨rfl, h⟩
theorem sp_X2_hasRound {d : Nat} {sh : List qSh} {K : Option Value → qMI → qML → qMP → Prop} {a0 : Nat} {x1 : Int32} {I : qMI} {L : qML} {P : qMP} (h0 : vc_X2_hasRound_0 d sh K a0 x1 I L P) : Sq (d + 1) mX2_hasRound sh [.ref a0, .int x1] I L P K := by
  refine Sq_of (by decide +kernel) (Nat.le_of_ble_eq_true rfl) (fun X C hk hn => ?_)
  exact rg_X2_hasRound_0 C hk h0
/-! BracketDraws$Entries.told(II)I -/
def vc_X2_told_0 (d : Nat) (sh : List qSh) (K : Option Value → qMI → qML → qMP → Prop) (a0 : Nat) (x1 : Int32) (x2 : Int32) (I : qMI) (L : qML) (P : qMP) : Prop :=
  ((shp sh a0).1 = 2) ∧ (Sq d mX2_has sh [.ref a0, .int x1] I L P (KI fun r2 I3 L4 P5 => ((r2 = 0) → (K (some (.int 0)) I3 L4 P5)) ∧ ((¬ r2 = 0) → (((x2 < 0) → (K (some (.int 0)) I3 L4 P5)) ∧ ((¬ x2 < 0) → (((3 < x2) → (K (some (.int 0)) I3 L4 P5)) ∧ ((¬ 3 < x2) → (((shp sh (P5 a0 3)).1 = 20) ∧ ((vp_in ((x1 * 4) + x2) (shp sh (P5 a0 3)).2) ∧ (K (some (.int (I3 (P5 a0 3) (Int32.toNatClampNeg ((x1 * 4) + x2))))) I3 L4 P5))))))))))
set_option maxRecDepth 100000 in
set_option maxHeartbeats 4000000 in
theorem rg_X2_told_0 {X : qCT} {d : Nat} {sh : List qSh} {K : Option Value → qMI → qML → qMP → Prop} {a0 : Nat} {x1 : Int32} {x2 : Int32} {I : qMI} {L : qML} {P : qMP} (C : qCB X RX2 cX2_told 3 (d + 1) 0 0) (hk : qCK X (some .int) 0 0 (fun v sh' I' L' P' => sh' = sh ∧ K v I' L' P')) (h : vc_X2_told_0 d sh K a0 x1 x2 I L P) : qG X 0 [some (.ref a0), some (.int x1), some (.int x2)] [] sh I L P 0 0 := by
  unfold vc_X2_told_0 at h
  refine q_aload_n C dX2_told_0 rfl ?_
  refine q_iload_n C dX2_told_1 rfl ?_
  have s1 := h.1
  replace h := h.2
  refine q_cVi (as := [.int x1]) (st := []) (r := a0) C mv_X2_has ml_RX2_35 dX2_told_2 rfl s1 rfl (Nat.le_of_ble_eq_true rfl) ⟨Nat.le_refl _, Nat.le_refl _⟩ h (fun r2 I3 L4 P5 h => ?_)
  refine q_if_eq (tgt := 30) C dX2_told_5 (by decide) (fun c6 => ?_) (fun c6 => ?_)
  · replace h := h.1 c6
    refine q_iconst (v := 0) C dX2_told_30 (by decide) ?_
    exact q_iret C hk dX2_told_31 ⟨rfl, h⟩
  · replace h := h.2 c6
    refine q_iload_n C dX2_told_8 rfl ?_
    refine q_if_lt (tgt := 30) C dX2_told_9 (by decide) (fun c7 => ?_) (fun c7 => ?_)
    · replace h := h.1 c7
      refine q_iconst (v := 0) C dX2_told_30 (by decide) ?_
      exact q_iret C hk dX2_told_31 ⟨rfl, h⟩
    · replace h := h.2 c7
      refine q_iload_n C dX2_told_12 rfl ?_
      refine q_iconst (v := 3) C dX2_told_13 (by decide) ?_
      refine q_icmp_gt (tgt := 30) C dX2_told_14 (by decide) (fun c8 => ?_) (fun c8 => ?_)
      · replace h := h.1 c8
        refine q_iconst (v := 0) C dX2_told_30 (by decide) ?_
        exact q_iret C hk dX2_told_31 ⟨rfl, h⟩
      · replace h := h.2 c8
        refine q_aload_n C dX2_told_17 rfl ?_
        refine q_getP C fl_RX2_15 rfl s1 dX2_told_18 ?_
        refine q_iload_n C dX2_told_21 rfl ?_
        refine q_iconst (v := 4) C dX2_told_22 (by decide) ?_
        refine q_imul C dX2_told_23 ?_
        refine q_iload_n C dX2_told_24 rfl ?_
        refine q_iadd C dX2_told_25 ?_
        have s9 := h.1
        replace h := h.2
        have s10 := h.1
        replace h := h.2
        refine q_iald C s9 s10 dX2_told_26 ?_
        refine q_goto (tgt := 31) C dX2_told_27 (by decide) ?_
        exact q_iret C hk dX2_told_31 ⟨rfl, h⟩
theorem sp_X2_told {d : Nat} {sh : List qSh} {K : Option Value → qMI → qML → qMP → Prop} {a0 : Nat} {x1 : Int32} {x2 : Int32} {I : qMI} {L : qML} {P : qMP} (h0 : vc_X2_told_0 d sh K a0 x1 x2 I L P) : Sq (d + 1) mX2_told sh [.ref a0, .int x1, .int x2] I L P K := by
  refine Sq_of (by decide +kernel) (Nat.le_of_ble_eq_true rfl) (fun X C hk hn => ?_)
  exact rg_X2_told_0 C hk h0
/-! BracketDraws$Entries.put(III)V -/
def vc_X2_put_0 (d : Nat) (sh : List qSh) (K : Option Value → qMI → qML → qMP → Prop) (a0 : Nat) (x1 : Int32) (x2 : Int32) (x3 : Int32) (I : qMI) (L : qML) (P : qMP) : Prop :=
  ((shp sh a0).1 = 2) ∧ (Sq d mX2_has sh [.ref a0, .int x1] I L P (KI fun r2 I3 L4 P5 => ((r2 = 0) → (K none I3 L4 P5)) ∧ ((¬ r2 = 0) → (((x2 < 0) → (K none I3 L4 P5)) ∧ ((¬ x2 < 0) → (((3 < x2) → (K none I3 L4 P5)) ∧ ((¬ 3 < x2) → (((shp sh (P5 a0 3)).1 = 20) ∧ ((vp_in ((x1 * 4) + x2) (shp sh (P5 a0 3)).2) ∧ (∀ I11 : qMI, I11 = uI I3 (P5 a0 3) (Int32.toNatClampNeg ((x1 * 4) + x2)) x3 → (K none I11 L4 P5)))))))))))
set_option maxRecDepth 100000 in
set_option maxHeartbeats 4000000 in
theorem rg_X2_put_0 {X : qCT} {d : Nat} {sh : List qSh} {K : Option Value → qMI → qML → qMP → Prop} {a0 : Nat} {x1 : Int32} {x2 : Int32} {x3 : Int32} {I : qMI} {L : qML} {P : qMP} (C : qCB X RX2 cX2_put 4 (d + 1) 0 0) (hk : qCK X (none) 0 0 (fun v sh' I' L' P' => sh' = sh ∧ K v I' L' P')) (h : vc_X2_put_0 d sh K a0 x1 x2 x3 I L P) : qG X 0 [some (.ref a0), some (.int x1), some (.int x2), some (.int x3)] [] sh I L P 0 0 := by
  unfold vc_X2_put_0 at h
  refine q_aload_n C dX2_put_0 rfl ?_
  refine q_iload_n C dX2_put_1 rfl ?_
  have s1 := h.1
  replace h := h.2
  refine q_cVi (as := [.int x1]) (st := []) (r := a0) C mv_X2_has ml_RX2_35 dX2_put_2 rfl s1 rfl (Nat.le_of_ble_eq_true rfl) ⟨Nat.le_refl _, Nat.le_refl _⟩ h (fun r2 I3 L4 P5 h => ?_)
  refine q_if_eq (tgt := 28) C dX2_put_5 (by decide) (fun c6 => ?_) (fun c6 => ?_)
  · replace h := h.1 c6
    exact q_vret C hk dX2_put_28 ⟨rfl, h⟩
  · replace h := h.2 c6
    refine q_iload_n C dX2_put_8 rfl ?_
    refine q_if_lt (tgt := 28) C dX2_put_9 (by decide) (fun c7 => ?_) (fun c7 => ?_)
    · replace h := h.1 c7
      exact q_vret C hk dX2_put_28 ⟨rfl, h⟩
    · replace h := h.2 c7
      refine q_iload_n C dX2_put_12 rfl ?_
      refine q_iconst (v := 3) C dX2_put_13 (by decide) ?_
      refine q_icmp_gt (tgt := 28) C dX2_put_14 (by decide) (fun c8 => ?_) (fun c8 => ?_)
      · replace h := h.1 c8
        exact q_vret C hk dX2_put_28 ⟨rfl, h⟩
      · replace h := h.2 c8
        refine q_aload_n C dX2_put_17 rfl ?_
        refine q_getP C fl_RX2_15 rfl s1 dX2_put_18 ?_
        refine q_iload_n C dX2_put_21 rfl ?_
        refine q_iconst (v := 4) C dX2_put_22 (by decide) ?_
        refine q_imul C dX2_put_23 ?_
        refine q_iload_n C dX2_put_24 rfl ?_
        refine q_iadd C dX2_put_25 ?_
        refine q_iload_n C dX2_put_26 rfl ?_
        have s9 := h.1
        replace h := h.2
        have s10 := h.1
        replace h := h.2
        refine q_iast C s9 s10 dX2_put_27 (fun I11 eI11 => ?_)
        replace h := h I11 eI11
        exact q_vret C hk dX2_put_28 ⟨rfl, h⟩
theorem sp_X2_put {d : Nat} {sh : List qSh} {K : Option Value → qMI → qML → qMP → Prop} {a0 : Nat} {x1 : Int32} {x2 : Int32} {x3 : Int32} {I : qMI} {L : qML} {P : qMP} (h0 : vc_X2_put_0 d sh K a0 x1 x2 x3 I L P) : Sq (d + 1) mX2_put sh [.ref a0, .int x1, .int x2, .int x3] I L P K := by
  refine Sq_of (by decide +kernel) (Nat.le_of_ble_eq_true rfl) (fun X C hk hn => ?_)
  exact rg_X2_put_0 C hk h0
/-! BracketDraws$Entries.add(IIII)V -/
def vc_X2_add_0 (d : Nat) (sh : List qSh) (K : Option Value → qMI → qML → qMP → Prop) (a0 : Nat) (x1 : Int32) (x2 : Int32) (x3 : Int32) (x4 : Int32) (I : qMI) (L : qML) (P : qMP) : Prop :=
  ((shp sh a0).1 = 2) ∧ (((10 ≤ (I a0 0)) → (K none I L P)) ∧ ((¬ 10 ≤ (I a0 0)) → (∀ I3 : qMI, I3 = uI I a0 0 ((I a0 0) + 1) → (Sq d mX2_put sh [.ref a0, .int ((I3 a0 0) - 1), .int 0, .int x1] I3 L P (KV fun I4 L5 P6 => Sq d mX2_put sh [.ref a0, .int ((I4 a0 0) - 1), .int 1, .int x2] I4 L5 P6 (KV fun I7 L8 P9 => Sq d mX2_put sh [.ref a0, .int ((I7 a0 0) - 1), .int 2, .int x3] I7 L8 P9 (KV fun I10 L11 P12 => Sq d mX2_put sh [.ref a0, .int ((I10 a0 0) - 1), .int 3, .int x4] I10 L11 P12 (KV fun I13 L14 P15 => K none I13 L14 P15))))))))
set_option maxRecDepth 100000 in
set_option maxHeartbeats 4000000 in
theorem rg_X2_add_0 {X : qCT} {d : Nat} {sh : List qSh} {K : Option Value → qMI → qML → qMP → Prop} {a0 : Nat} {x1 : Int32} {x2 : Int32} {x3 : Int32} {x4 : Int32} {I : qMI} {L : qML} {P : qMP} (C : qCB X RX2 cX2_add 5 (d + 1) 0 0) (hk : qCK X (none) 0 0 (fun v sh' I' L' P' => sh' = sh ∧ K v I' L' P')) (h : vc_X2_add_0 d sh K a0 x1 x2 x3 x4 I L P) : qG X 0 [some (.ref a0), some (.int x1), some (.int x2), some (.int x3), some (.int x4)] [] sh I L P 0 0 := by
  unfold vc_X2_add_0 at h
  refine q_aload_n C dX2_add_0 rfl ?_
  have s1 := h.1
  replace h := h.2
  refine q_getI C fl_RX2_19 rfl s1 dX2_add_1 ?_
  refine q_bipush (v := 10) C dX2_add_4 (by decide) ?_
  refine q_icmp_ge (tgt := 68) C dX2_add_6 (by decide) (fun c2 => ?_) (fun c2 => ?_)
  · replace h := h.1 c2
    exact q_vret C hk dX2_add_68 ⟨rfl, h⟩
  · replace h := h.2 c2
    refine q_aload_n C dX2_add_9 rfl ?_
    refine q_dup C dX2_add_10 rfl ?_
    refine q_getI C fl_RX2_19 rfl s1 dX2_add_11 ?_
    refine q_iconst (v := 1) C dX2_add_14 (by decide) ?_
    refine q_iadd C dX2_add_15 ?_
    refine q_putI C fl_RX2_19 (fun T hT => by cases hT; rfl) rfl s1 dX2_add_16 (fun I3 eI3 => ?_)
    replace h := h I3 eI3
    refine q_aload_n C dX2_add_19 rfl ?_
    refine q_aload_n C dX2_add_20 rfl ?_
    refine q_getI C fl_RX2_19 rfl s1 dX2_add_21 ?_
    refine q_iconst (v := 1) C dX2_add_24 (by decide) ?_
    refine q_isub C dX2_add_25 ?_
    refine q_iconst (v := 0) C dX2_add_26 (by decide) ?_
    refine q_iload_n C dX2_add_27 rfl ?_
    refine q_cVv (as := [.int ((I3 a0 0) - 1), .int 0, .int x1]) (st := []) (r := a0) C mv_X2_put ml_RX2_46 dX2_add_28 rfl s1 rfl (Nat.le_of_ble_eq_true rfl) ⟨Nat.le_refl _, Nat.le_refl _⟩ h (fun I4 L5 P6 h => ?_)
    refine q_aload_n C dX2_add_31 rfl ?_
    refine q_aload_n C dX2_add_32 rfl ?_
    refine q_getI C fl_RX2_19 rfl s1 dX2_add_33 ?_
    refine q_iconst (v := 1) C dX2_add_36 (by decide) ?_
    refine q_isub C dX2_add_37 ?_
    refine q_iconst (v := 1) C dX2_add_38 (by decide) ?_
    refine q_iload_n C dX2_add_39 rfl ?_
    refine q_cVv (as := [.int ((I4 a0 0) - 1), .int 1, .int x2]) (st := []) (r := a0) C mv_X2_put ml_RX2_46 dX2_add_40 rfl s1 rfl (Nat.le_of_ble_eq_true rfl) ⟨Nat.le_refl _, Nat.le_refl _⟩ h (fun I7 L8 P9 h => ?_)
    refine q_aload_n C dX2_add_43 rfl ?_
    refine q_aload_n C dX2_add_44 rfl ?_
    refine q_getI C fl_RX2_19 rfl s1 dX2_add_45 ?_
    refine q_iconst (v := 1) C dX2_add_48 (by decide) ?_
    refine q_isub C dX2_add_49 ?_
    refine q_iconst (v := 2) C dX2_add_50 (by decide) ?_
    refine q_iload_n C dX2_add_51 rfl ?_
    refine q_cVv (as := [.int ((I7 a0 0) - 1), .int 2, .int x3]) (st := []) (r := a0) C mv_X2_put ml_RX2_46 dX2_add_52 rfl s1 rfl (Nat.le_of_ble_eq_true rfl) ⟨Nat.le_refl _, Nat.le_refl _⟩ h (fun I10 L11 P12 h => ?_)
    refine q_aload_n C dX2_add_55 rfl ?_
    refine q_aload_n C dX2_add_56 rfl ?_
    refine q_getI C fl_RX2_19 rfl s1 dX2_add_57 ?_
    refine q_iconst (v := 1) C dX2_add_60 (by decide) ?_
    refine q_isub C dX2_add_61 ?_
    refine q_iconst (v := 3) C dX2_add_62 (by decide) ?_
    refine q_iload C dX2_add_63 rfl ?_
    refine q_cVv (as := [.int ((I10 a0 0) - 1), .int 3, .int x4]) (st := []) (r := a0) C mv_X2_put ml_RX2_46 dX2_add_65 rfl s1 rfl (Nat.le_of_ble_eq_true rfl) ⟨Nat.le_refl _, Nat.le_refl _⟩ h (fun I13 L14 P15 h => ?_)
    exact q_vret C hk dX2_add_68 ⟨rfl, h⟩
theorem sp_X2_add {d : Nat} {sh : List qSh} {K : Option Value → qMI → qML → qMP → Prop} {a0 : Nat} {x1 : Int32} {x2 : Int32} {x3 : Int32} {x4 : Int32} {I : qMI} {L : qML} {P : qMP} (h0 : vc_X2_add_0 d sh K a0 x1 x2 x3 x4 I L P) : Sq (d + 1) mX2_add sh [.ref a0, .int x1, .int x2, .int x3, .int x4] I L P K := by
  refine Sq_of (by decide +kernel) (Nat.le_of_ble_eq_true rfl) (fun X C hk hn => ?_)
  exact rg_X2_add_0 C hk h0
/-! BracketDraws$Entries.mayTell(III)Z -/
def vc_X2_mayTell_0 (d : Nat) (sh : List qSh) (K : Option Value → qMI → qML → qMP → Prop) (T1 : Int32 → qMI → qML → qMP → Prop) (a0 : Nat) (x1 : Int32) (x2 : Int32) (x3 : Int32) (I : qMI) (L : qML) (P : qMP) : Prop :=
  ((x3 < 0) → (K (some (.int 0)) I L P)) ∧ ((¬ x3 < 0) → (Sq d mX2_largest sh [.int x2] I L P (KI fun r2 I3 L4 P5 => ((x3 ≤ r2) → (T1 0 I3 L4 P5)) ∧ ((¬ x3 ≤ r2) → (K (some (.int 0)) I3 L4 P5)))))
set_option maxRecDepth 100000 in
set_option maxHeartbeats 4000000 in
theorem rg_X2_mayTell_0 {X : qCT} {d : Nat} {sh : List qSh} {K : Option Value → qMI → qML → qMP → Prop} {T1 : Int32 → qMI → qML → qMP → Prop} {a0 : Nat} {x1 : Int32} {x2 : Int32} {x3 : Int32} {I : qMI} {L : qML} {P : qMP} (C : qCB X RX2 cX2_mayTell 5 (d + 1) 0 0) (hk : qCK X (some .boolean) 0 0 (fun v sh' I' L' P' => sh' = sh ∧ K v I' L' P')) (hT1 : ∀ (x4 : Int32) (I : qMI) (L : qML) (P : qMP), T1 x4 I L P → qG X 17 [some (.ref a0), some (.int x1), some (.int x2), some (.int x3), some (.int x4)] [] sh I L P 0 0) (h : vc_X2_mayTell_0 d sh K T1 a0 x1 x2 x3 I L P) : qG X 0 [some (.ref a0), some (.int x1), some (.int x2), some (.int x3), none] [] sh I L P 0 0 := by
  unfold vc_X2_mayTell_0 at h
  refine q_iload_n C dX2_mayTell_0 rfl ?_
  refine q_if_lt (tgt := 12) C dX2_mayTell_1 (by decide) (fun c1 => ?_) (fun c1 => ?_)
  · replace h := h.1 c1
    refine q_iconst (v := 0) C dX2_mayTell_12 (by decide) ?_
    exact q_zret C hk (Or.inl rfl) dX2_mayTell_13 ⟨rfl, h⟩
  · replace h := h.2 c1
    refine q_iload_n C dX2_mayTell_4 rfl ?_
    refine q_iload_n C dX2_mayTell_5 rfl ?_
    refine q_cSi (as := [.int x2]) (st := [.int x3]) C ms_X2_largest ml_RX2_50 dX2_mayTell_6 rfl rfl (Nat.le_of_ble_eq_true rfl) ⟨Nat.le_refl _, Nat.le_refl _⟩ h (fun r2 I3 L4 P5 h => ?_)
    refine q_icmp_le (tgt := 14) C dX2_mayTell_9 (by decide) (fun c6 => ?_) (fun c6 => ?_)
    · replace h := h.1 c6
      refine q_iconst (v := 0) C dX2_mayTell_14 (by decide) ?_
      refine q_istore (lo1 := [some (.ref a0), some (.int x1), some (.int x2), some (.int x3), some (.int 0)]) C dX2_mayTell_15 (by decide) rfl ?_
      exact hT1 _ _ _ _ h
    · replace h := h.2 c6
      refine q_iconst (v := 0) C dX2_mayTell_12 (by decide) ?_
      exact q_zret C hk (Or.inl rfl) dX2_mayTell_13 ⟨rfl, h⟩
def vc_X2_mayTell_1 (d : Nat) (sh : List qSh) (K : Option Value → qMI → qML → qMP → Prop) (T1 : Int32 → qMI → qML → qMP → Prop) (a0 : Nat) (x1 : Int32) (x2 : Int32) (x3 : Int32) (x4 : Int32) (I : qMI) (L : qML) (P : qMP) : Prop :=
  ((¬ x2 = 2) → (K (some (.int 1)) I L P)) ∧ ((x2 = 2) → (((x3 ≤ 0) → (K (some (.int 1)) I L P)) ∧ ((¬ x3 ≤ 0) → (((shp sh a0).1 = 2) ∧ ((((I a0 0) ≤ x4) → (K (some (.int 1)) I L P)) ∧ ((¬ (I a0 0) ≤ x4) → (((x4 = x1) → (T1 (x4 + 1) I L P)) ∧ ((¬ x4 = x1) → (Sq d mX2_told sh [.ref a0, .int x4, .int 2] I L P (KI fun r6 I7 L8 P9 => ((¬ r6 = x3) → (T1 (x4 + 1) I7 L8 P9)) ∧ ((r6 = x3) → (K (some (.int 0)) I7 L8 P9))))))))))))
set_option maxRecDepth 100000 in
set_option maxHeartbeats 4000000 in
theorem rg_X2_mayTell_1 {X : qCT} {d : Nat} {sh : List qSh} {K : Option Value → qMI → qML → qMP → Prop} {T1 : Int32 → qMI → qML → qMP → Prop} {a0 : Nat} {x1 : Int32} {x2 : Int32} {x3 : Int32} {x4 : Int32} {I : qMI} {L : qML} {P : qMP} (C : qCB X RX2 cX2_mayTell 5 (d + 1) 0 0) (hk : qCK X (some .boolean) 0 0 (fun v sh' I' L' P' => sh' = sh ∧ K v I' L' P')) (hT1 : ∀ (x4 : Int32) (I : qMI) (L : qML) (P : qMP), T1 x4 I L P → qG X 17 [some (.ref a0), some (.int x1), some (.int x2), some (.int x3), some (.int x4)] [] sh I L P 0 0) (h : vc_X2_mayTell_1 d sh K T1 a0 x1 x2 x3 x4 I L P) : qG X 17 [some (.ref a0), some (.int x1), some (.int x2), some (.int x3), some (.int x4)] [] sh I L P 0 0 := by
  unfold vc_X2_mayTell_1 at h
  refine q_iload_n C dX2_mayTell_17 rfl ?_
  refine q_iconst (v := 2) C dX2_mayTell_18 (by decide) ?_
  refine q_icmp_ne (tgt := 60) C dX2_mayTell_19 (by decide) (fun c1 => ?_) (fun c1 => ?_)
  · replace h := h.1 c1
    refine q_iconst (v := 1) C dX2_mayTell_60 (by decide) ?_
    exact q_zret C hk (Or.inr rfl) dX2_mayTell_61 ⟨rfl, h⟩
  · replace h := h.2 c1
    refine q_iload_n C dX2_mayTell_22 rfl ?_
    refine q_if_le (tgt := 60) C dX2_mayTell_23 (by decide) (fun c2 => ?_) (fun c2 => ?_)
    · replace h := h.1 c2
      refine q_iconst (v := 1) C dX2_mayTell_60 (by decide) ?_
      exact q_zret C hk (Or.inr rfl) dX2_mayTell_61 ⟨rfl, h⟩
    · replace h := h.2 c2
      refine q_iload C dX2_mayTell_26 rfl ?_
      refine q_aload_n C dX2_mayTell_28 rfl ?_
      have s3 := h.1
      replace h := h.2
      refine q_getI C fl_RX2_19 rfl s3 dX2_mayTell_29 ?_
      refine q_icmp_ge (tgt := 60) C dX2_mayTell_32 (by decide) (fun c4 => ?_) (fun c4 => ?_)
      · replace h := h.1 c4
        refine q_iconst (v := 1) C dX2_mayTell_60 (by decide) ?_
        exact q_zret C hk (Or.inr rfl) dX2_mayTell_61 ⟨rfl, h⟩
      · replace h := h.2 c4
        refine q_iload C dX2_mayTell_35 rfl ?_
        refine q_iload_n C dX2_mayTell_37 rfl ?_
        refine q_icmp_eq (tgt := 54) C dX2_mayTell_38 (by decide) (fun c5 => ?_) (fun c5 => ?_)
        · replace h := h.1 c5
          refine q_iinc (w := 1) (lo1 := [some (.ref a0), some (.int x1), some (.int x2), some (.int x3), some (.int (x4 + 1))]) C dX2_mayTell_54 rfl (by decide) (by decide) rfl ?_
          refine q_goto (tgt := 17) C dX2_mayTell_57 (by decide) ?_
          exact hT1 _ _ _ _ h
        · replace h := h.2 c5
          refine q_aload_n C dX2_mayTell_41 rfl ?_
          refine q_iload C dX2_mayTell_42 rfl ?_
          refine q_iconst (v := 2) C dX2_mayTell_44 (by decide) ?_
          refine q_cVi (as := [.int x4, .int 2]) (st := []) (r := a0) C mv_X2_told ml_RX2_31 dX2_mayTell_45 rfl s3 rfl (Nat.le_of_ble_eq_true rfl) ⟨Nat.le_refl _, Nat.le_refl _⟩ h (fun r6 I7 L8 P9 h => ?_)
          refine q_iload_n C dX2_mayTell_48 rfl ?_
          refine q_icmp_ne (tgt := 54) C dX2_mayTell_49 (by decide) (fun c10 => ?_) (fun c10 => ?_)
          · replace h := h.1 c10
            refine q_iinc (w := 1) (lo1 := [some (.ref a0), some (.int x1), some (.int x2), some (.int x3), some (.int (x4 + 1))]) C dX2_mayTell_54 rfl (by decide) (by decide) rfl ?_
            refine q_goto (tgt := 17) C dX2_mayTell_57 (by decide) ?_
            exact hT1 _ _ _ _ h
          · replace h := h.2 c10
            refine q_iconst (v := 0) C dX2_mayTell_52 (by decide) ?_
            exact q_zret C hk (Or.inl rfl) dX2_mayTell_53 ⟨rfl, h⟩
theorem sp_X2_mayTell {d : Nat} {sh : List qSh} {K : Option Value → qMI → qML → qMP → Prop} {a0 : Nat} {x1 : Int32} {x2 : Int32} {x3 : Int32} {I : qMI} {L : qML} {P : qMP} (T1 : Int32 → qMI → qML → qMP → Prop) (m1 : Int32 → qMI → qML → qMP → Nat) (h0 : vc_X2_mayTell_0 d sh K T1 a0 x1 x2 x3 I L P)
    (h1 : ∀ (x4 : Int32) (I : qMI) (L : qML) (P : qMP), T1 x4 I L P → vc_X2_mayTell_1 d sh K (fun w0 I' L' P' => T1 w0 I' L' P' ∧ m1 w0 I' L' P' < m1 x4 I L P) a0 x1 x2 x3 x4 I L P) : Sq (d + 1) mX2_mayTell sh [.ref a0, .int x1, .int x2, .int x3] I L P K := by
  refine Sq_of (by decide +kernel) (Nat.le_of_ble_eq_true rfl) (fun X C hk hn => ?_)
  have go : ∀ N : Nat, (∀ (x4 : Int32) (I : qMI) (L : qML) (P : qMP), T1 x4 I L P → m1 x4 I L P < N → qG X 17 [some (.ref a0), some (.int x1), some (.int x2), some (.int x3), some (.int x4)] [] sh I L P 0 0) := by
    intro N
    induction N with
    | zero => exact fun _ _ _ _ _ q => absurd q (Nat.not_lt_zero _)
    | succ N ih =>
      exact fun b0 I1 L1 P1 t q => rg_X2_mayTell_1 C hk (fun z0 I2 L2 P2 z => ih z0 I2 L2 P2 z.1 (Nat.lt_of_lt_of_le z.2 (Nat.le_of_lt_succ q))) (h1 b0 I1 L1 P1 t)
  exact rg_X2_mayTell_0 C hk (fun b0 I1 L1 P1 t => (go (m1 b0 I1 L1 P1 + 1)) b0 I1 L1 P1 t (Nat.lt_succ_self _)) h0
/-! BracketDraws$Entries.largest(I)I -/
def vc_X2_largest_0 (d : Nat) (sh : List qSh) (K : Option Value → qMI → qML → qMP → Prop) (x0 : Int32) (I : qMI) (L : qML) (P : qMP) : Prop :=
  ((x0 = 0) → (K (some (.int 5)) I L P)) ∧ ((x0 = 1) → (K (some (.int 3)) I L P)) ∧ ((x0 = 2) → (K (some (.int 8)) I L P)) ∧ ((x0 = 3) → (K (some (.int 99)) I L P)) ∧ (¬ x0 = 0 → ¬ x0 = 1 → ¬ x0 = 2 → ¬ x0 = 3 → (K (some (.int ((-1)))) I L P))
set_option maxRecDepth 100000 in
set_option maxHeartbeats 4000000 in
theorem rg_X2_largest_0 {X : qCT} {d : Nat} {sh : List qSh} {K : Option Value → qMI → qML → qMP → Prop} {x0 : Int32} {I : qMI} {L : qML} {P : qMP} (C : qCB X RX2 cX2_largest 1 (d + 1) 0 0) (hk : qCK X (some .int) 0 0 (fun v sh' I' L' P' => sh' = sh ∧ K v I' L' P')) (h : vc_X2_largest_0 d sh K x0 I L P) : qG X 0 [some (.int x0)] [] sh I L P 0 0 := by
  unfold vc_X2_largest_0 at h
  refine q_iload_n C dX2_largest_0 rfl ?_
  by_cases c0 : x0 = 0
  · replace h := h.1 c0
    refine q_tabI (off := 31) (tgt := 32) C dX2_largest_1 (by rw [c0]; decide) (by rw [c0]; decide) (by rw [c0]; rfl) (by decide) ?_
    refine q_iconst (v := 5) C dX2_largest_32 (by decide) ?_
    exact q_iret C hk dX2_largest_33 ⟨rfl, h⟩
  replace h := h.2
  by_cases c1 : x0 = 1
  · replace h := h.1 c1
    refine q_tabI (off := 33) (tgt := 34) C dX2_largest_1 (by rw [c1]; decide) (by rw [c1]; decide) (by rw [c1]; rfl) (by decide) ?_
    refine q_iconst (v := 3) C dX2_largest_34 (by decide) ?_
    exact q_iret C hk dX2_largest_35 ⟨rfl, h⟩
  replace h := h.2
  by_cases c2 : x0 = 2
  · replace h := h.1 c2
    refine q_tabI (off := 35) (tgt := 36) C dX2_largest_1 (by rw [c2]; decide) (by rw [c2]; decide) (by rw [c2]; rfl) (by decide) ?_
    refine q_bipush (v := 8) C dX2_largest_36 (by decide) ?_
    exact q_iret C hk dX2_largest_38 ⟨rfl, h⟩
  replace h := h.2
  by_cases c3 : x0 = 3
  · replace h := h.1 c3
    refine q_tabI (off := 38) (tgt := 39) C dX2_largest_1 (by rw [c3]; decide) (by rw [c3]; decide) (by rw [c3]; rfl) (by decide) ?_
    refine q_bipush (v := 99) C dX2_largest_39 (by decide) ?_
    exact q_iret C hk dX2_largest_41 ⟨rfl, h⟩
  replace h := h.2
  replace h := h c0 c1 c2 c3
  refine q_tabO (tgt := 42) C dX2_largest_1 (by
    have t0 : Int32.toInt x0 ≠ 0 := fun q => c0 (Int32.toInt_inj.mp q)
    have t1 : Int32.toInt x0 ≠ 1 := fun q => c1 (Int32.toInt_inj.mp q)
    have t2 : Int32.toInt x0 ≠ 2 := fun q => c2 (Int32.toInt_inj.mp q)
    have t3 : Int32.toInt x0 ≠ 3 := fun q => c3 (Int32.toInt_inj.mp q)
    omega) (by decide) ?_
  refine q_iconst (v := (-1)) C dX2_largest_42 (by decide) ?_
  exact q_iret C hk dX2_largest_43 ⟨rfl, h⟩
theorem sp_X2_largest {d : Nat} {sh : List qSh} {K : Option Value → qMI → qML → qMP → Prop} {x0 : Int32} {I : qMI} {L : qML} {P : qMP} (h0 : vc_X2_largest_0 d sh K x0 I L P) : Sq (d + 1) mX2_largest sh [.int x0] I L P K := by
  refine Sq_of (by decide +kernel) (Nat.le_of_ble_eq_true rfl) (fun X C hk hn => ?_)
  exact rg_X2_largest_0 C hk h0
/-! BracketDraws$Entries.all()I -/
def vc_X2_all_0 (d : Nat) (sh : List qSh) (K : Option Value → qMI → qML → qMP → Prop) (a0 : Nat) (I : qMI) (L : qML) (P : qMP) : Prop :=
  ((shp sh a0).1 = 2) ∧ (K (some (.int (((1 : Int32) <<< ((I a0 0) &&& 31)) - 1))) I L P)
set_option maxRecDepth 100000 in
set_option maxHeartbeats 4000000 in
theorem rg_X2_all_0 {X : qCT} {d : Nat} {sh : List qSh} {K : Option Value → qMI → qML → qMP → Prop} {a0 : Nat} {I : qMI} {L : qML} {P : qMP} (C : qCB X RX2 cX2_all 1 (d + 1) 0 0) (hk : qCK X (some .int) 0 0 (fun v sh' I' L' P' => sh' = sh ∧ K v I' L' P')) (h : vc_X2_all_0 d sh K a0 I L P) : qG X 0 [some (.ref a0)] [] sh I L P 0 0 := by
  unfold vc_X2_all_0 at h
  refine q_iconst (v := 1) C dX2_all_0 (by decide) ?_
  refine q_aload_n C dX2_all_1 rfl ?_
  have s1 := h.1
  replace h := h.2
  refine q_getI C fl_RX2_19 rfl s1 dX2_all_2 ?_
  refine q_ishl C dX2_all_5 ?_
  refine q_iconst (v := 1) C dX2_all_6 (by decide) ?_
  refine q_isub C dX2_all_7 ?_
  exact q_iret C hk dX2_all_8 ⟨rfl, h⟩
theorem sp_X2_all {d : Nat} {sh : List qSh} {K : Option Value → qMI → qML → qMP → Prop} {a0 : Nat} {I : qMI} {L : qML} {P : qMP} (h0 : vc_X2_all_0 d sh K a0 I L P) : Sq (d + 1) mX2_all sh [.ref a0] I L P K := by
  refine Sq_of (by decide +kernel) (Nat.le_of_ble_eq_true rfl) (fun X C hk hn => ?_)
  exact rg_X2_all_0 C hk h0
/-! BracketDraws$Entries.slots()I -/
def vc_X2_slots_0 (d : Nat) (sh : List qSh) (K : Option Value → qMI → qML → qMP → Prop) (T1 : Int32 → Int32 → qMI → qML → qMP → Prop) (a0 : Nat) (I : qMI) (L : qML) (P : qMP) : Prop :=
  T1 2 2 I L P
set_option maxRecDepth 100000 in
set_option maxHeartbeats 4000000 in
theorem rg_X2_slots_0 {X : qCT} {d : Nat} {sh : List qSh} {K : Option Value → qMI → qML → qMP → Prop} {T1 : Int32 → Int32 → qMI → qML → qMP → Prop} {a0 : Nat} {I : qMI} {L : qML} {P : qMP} (C : qCB X RX2 cX2_slots 3 (d + 1) 0 0) (hk : qCK X (some .int) 0 0 (fun v sh' I' L' P' => sh' = sh ∧ K v I' L' P')) (hT1 : ∀ (x1 : Int32) (x2 : Int32) (I : qMI) (L : qML) (P : qMP), T1 x1 x2 I L P → qG X 4 [some (.ref a0), some (.int x1), some (.int x2)] [] sh I L P 0 0) (h : vc_X2_slots_0 d sh K T1 a0 I L P) : qG X 0 [some (.ref a0), none, none] [] sh I L P 0 0 := by
  unfold vc_X2_slots_0 at h
  refine q_iconst (v := 2) C dX2_slots_0 (by decide) ?_
  refine q_istore_n (lo1 := [some (.ref a0), some (.int 2), none]) C dX2_slots_1 (by decide) rfl ?_
  refine q_iconst (v := 2) C dX2_slots_2 (by decide) ?_
  refine q_istore_n (lo1 := [some (.ref a0), some (.int 2), some (.int 2)]) C dX2_slots_3 (by decide) rfl ?_
  exact hT1 _ _ _ _ _ h
def vc_X2_slots_1 (d : Nat) (sh : List qSh) (K : Option Value → qMI → qML → qMP → Prop) (T1 : Int32 → Int32 → qMI → qML → qMP → Prop) (a0 : Nat) (x1 : Int32) (x2 : Int32) (I : qMI) (L : qML) (P : qMP) : Prop :=
  ((shp sh a0).1 = 2) ∧ ((((I a0 0) ≤ x2) → (K (some (.int x1)) I L P)) ∧ ((¬ (I a0 0) ≤ x2) → (((16 ≤ x1) → (K (some (.int x1)) I L P)) ∧ ((¬ 16 ≤ x1) → (T1 (x2 * 2) (x2 * 2) I L P)))))
set_option maxRecDepth 100000 in
set_option maxHeartbeats 4000000 in
theorem rg_X2_slots_1 {X : qCT} {d : Nat} {sh : List qSh} {K : Option Value → qMI → qML → qMP → Prop} {T1 : Int32 → Int32 → qMI → qML → qMP → Prop} {a0 : Nat} {x1 : Int32} {x2 : Int32} {I : qMI} {L : qML} {P : qMP} (C : qCB X RX2 cX2_slots 3 (d + 1) 0 0) (hk : qCK X (some .int) 0 0 (fun v sh' I' L' P' => sh' = sh ∧ K v I' L' P')) (hT1 : ∀ (x1 : Int32) (x2 : Int32) (I : qMI) (L : qML) (P : qMP), T1 x1 x2 I L P → qG X 4 [some (.ref a0), some (.int x1), some (.int x2)] [] sh I L P 0 0) (h : vc_X2_slots_1 d sh K T1 a0 x1 x2 I L P) : qG X 4 [some (.ref a0), some (.int x1), some (.int x2)] [] sh I L P 0 0 := by
  unfold vc_X2_slots_1 at h
  refine q_iload_n C dX2_slots_4 rfl ?_
  refine q_aload_n C dX2_slots_5 rfl ?_
  have s1 := h.1
  replace h := h.2
  refine q_getI C fl_RX2_19 rfl s1 dX2_slots_6 ?_
  refine q_icmp_ge (tgt := 29) C dX2_slots_9 (by decide) (fun c2 => ?_) (fun c2 => ?_)
  · replace h := h.1 c2
    refine q_iload_n C dX2_slots_29 rfl ?_
    exact q_iret C hk dX2_slots_30 ⟨rfl, h⟩
  · replace h := h.2 c2
    refine q_iload_n C dX2_slots_12 rfl ?_
    refine q_bipush (v := 16) C dX2_slots_13 (by decide) ?_
    refine q_icmp_ge (tgt := 29) C dX2_slots_15 (by decide) (fun c3 => ?_) (fun c3 => ?_)
    · replace h := h.1 c3
      refine q_iload_n C dX2_slots_29 rfl ?_
      exact q_iret C hk dX2_slots_30 ⟨rfl, h⟩
    · replace h := h.2 c3
      refine q_iload_n C dX2_slots_18 rfl ?_
      refine q_iconst (v := 2) C dX2_slots_19 (by decide) ?_
      refine q_imul C dX2_slots_20 ?_
      refine q_istore_n (lo1 := [some (.ref a0), some (.int (x2 * 2)), some (.int x2)]) C dX2_slots_21 (by decide) rfl ?_
      refine q_iload_n C dX2_slots_22 rfl ?_
      refine q_iconst (v := 2) C dX2_slots_23 (by decide) ?_
      refine q_imul C dX2_slots_24 ?_
      refine q_istore_n (lo1 := [some (.ref a0), some (.int (x2 * 2)), some (.int (x2 * 2))]) C dX2_slots_25 (by decide) rfl ?_
      refine q_goto (tgt := 4) C dX2_slots_26 (by decide) ?_
      exact hT1 _ _ _ _ _ h
theorem sp_X2_slots {d : Nat} {sh : List qSh} {K : Option Value → qMI → qML → qMP → Prop} {a0 : Nat} {I : qMI} {L : qML} {P : qMP} (T1 : Int32 → Int32 → qMI → qML → qMP → Prop) (m1 : Int32 → Int32 → qMI → qML → qMP → Nat) (h0 : vc_X2_slots_0 d sh K T1 a0 I L P)
    (h1 : ∀ (x1 : Int32) (x2 : Int32) (I : qMI) (L : qML) (P : qMP), T1 x1 x2 I L P → vc_X2_slots_1 d sh K (fun w0 w1 I' L' P' => T1 w0 w1 I' L' P' ∧ m1 w0 w1 I' L' P' < m1 x1 x2 I L P) a0 x1 x2 I L P) : Sq (d + 1) mX2_slots sh [.ref a0] I L P K := by
  refine Sq_of (by decide +kernel) (Nat.le_of_ble_eq_true rfl) (fun X C hk hn => ?_)
  have go : ∀ N : Nat, (∀ (x1 : Int32) (x2 : Int32) (I : qMI) (L : qML) (P : qMP), T1 x1 x2 I L P → m1 x1 x2 I L P < N → qG X 4 [some (.ref a0), some (.int x1), some (.int x2)] [] sh I L P 0 0) := by
    intro N
    induction N with
    | zero => exact fun _ _ _ _ _ _ q => absurd q (Nat.not_lt_zero _)
    | succ N ih =>
      exact fun b0 b1 I1 L1 P1 t q => rg_X2_slots_1 C hk (fun z0 z1 I2 L2 P2 z => ih z0 z1 I2 L2 P2 z.1 (Nat.lt_of_lt_of_le z.2 (Nat.le_of_lt_succ q))) (h1 b0 b1 I1 L1 P1 t)
  exact rg_X2_slots_0 C hk (fun b0 b1 I1 L1 P1 t => (go (m1 b0 b1 I1 L1 P1 + 1)) b0 b1 I1 L1 P1 t (Nat.lt_succ_self _)) h0
/-! BracketDraws$Entries.rounds()I -/
def vc_X2_rounds_0 (d : Nat) (sh : List qSh) (K : Option Value → qMI → qML → qMP → Prop) (T1 : Int32 → Int32 → Int32 → qMI → qML → qMP → Prop) (a0 : Nat) (I : qMI) (L : qML) (P : qMP) : Prop :=
  ((shp sh a0).1 = 2) ∧ (Sq d mX2_slots sh [.ref a0] I L P (KI fun r2 I3 L4 P5 => T1 r2 1 2 I3 L4 P5))
set_option maxRecDepth 100000 in
set_option maxHeartbeats 4000000 in
theorem rg_X2_rounds_0 {X : qCT} {d : Nat} {sh : List qSh} {K : Option Value → qMI → qML → qMP → Prop} {T1 : Int32 → Int32 → Int32 → qMI → qML → qMP → Prop} {a0 : Nat} {I : qMI} {L : qML} {P : qMP} (C : qCB X RX2 cX2_rounds 4 (d + 1) 0 0) (hk : qCK X (some .int) 0 0 (fun v sh' I' L' P' => sh' = sh ∧ K v I' L' P')) (hT1 : ∀ (x1 : Int32) (x2 : Int32) (x3 : Int32) (I : qMI) (L : qML) (P : qMP), T1 x1 x2 x3 I L P → qG X 9 [some (.ref a0), some (.int x1), some (.int x2), some (.int x3)] [] sh I L P 0 0) (h : vc_X2_rounds_0 d sh K T1 a0 I L P) : qG X 0 [some (.ref a0), none, none, none] [] sh I L P 0 0 := by
  unfold vc_X2_rounds_0 at h
  refine q_aload_n C dX2_rounds_0 rfl ?_
  have s1 := h.1
  replace h := h.2
  refine q_cVi (as := []) (st := []) (r := a0) C mv_X2_slots ml_RX2_39 dX2_rounds_1 rfl s1 rfl (Nat.le_of_ble_eq_true rfl) ⟨Nat.le_refl _, Nat.le_refl _⟩ h (fun r2 I3 L4 P5 h => ?_)
  refine q_istore_n (lo1 := [some (.ref a0), some (.int r2), none, none]) C dX2_rounds_4 (by decide) rfl ?_
  refine q_iconst (v := 1) C dX2_rounds_5 (by decide) ?_
  refine q_istore_n (lo1 := [some (.ref a0), some (.int r2), some (.int 1), none]) C dX2_rounds_6 (by decide) rfl ?_
  refine q_iconst (v := 2) C dX2_rounds_7 (by decide) ?_
  refine q_istore_n (lo1 := [some (.ref a0), some (.int r2), some (.int 1), some (.int 2)]) C dX2_rounds_8 (by decide) rfl ?_
  exact hT1 _ _ _ _ _ _ h
def vc_X2_rounds_1 (d : Nat) (sh : List qSh) (K : Option Value → qMI → qML → qMP → Prop) (T1 : Int32 → Int32 → Int32 → qMI → qML → qMP → Prop) (a0 : Nat) (x1 : Int32) (x2 : Int32) (x3 : Int32) (I : qMI) (L : qML) (P : qMP) : Prop :=
  ((x1 ≤ x3) → (K (some (.int x2)) I L P)) ∧ ((¬ x1 ≤ x3) → (T1 x1 (x2 + 1) (x3 * 2) I L P))
set_option maxRecDepth 100000 in
set_option maxHeartbeats 4000000 in
theorem rg_X2_rounds_1 {X : qCT} {d : Nat} {sh : List qSh} {K : Option Value → qMI → qML → qMP → Prop} {T1 : Int32 → Int32 → Int32 → qMI → qML → qMP → Prop} {a0 : Nat} {x1 : Int32} {x2 : Int32} {x3 : Int32} {I : qMI} {L : qML} {P : qMP} (C : qCB X RX2 cX2_rounds 4 (d + 1) 0 0) (hk : qCK X (some .int) 0 0 (fun v sh' I' L' P' => sh' = sh ∧ K v I' L' P')) (hT1 : ∀ (x1 : Int32) (x2 : Int32) (x3 : Int32) (I : qMI) (L : qML) (P : qMP), T1 x1 x2 x3 I L P → qG X 9 [some (.ref a0), some (.int x1), some (.int x2), some (.int x3)] [] sh I L P 0 0) (h : vc_X2_rounds_1 d sh K T1 a0 x1 x2 x3 I L P) : qG X 9 [some (.ref a0), some (.int x1), some (.int x2), some (.int x3)] [] sh I L P 0 0 := by
  unfold vc_X2_rounds_1 at h
  refine q_iload_n C dX2_rounds_9 rfl ?_
  refine q_iload_n C dX2_rounds_10 rfl ?_
  refine q_icmp_ge (tgt := 24) C dX2_rounds_11 (by decide) (fun c1 => ?_) (fun c1 => ?_)
  · replace h := h.1 c1
    refine q_iload_n C dX2_rounds_24 rfl ?_
    exact q_iret C hk dX2_rounds_25 ⟨rfl, h⟩
  · replace h := h.2 c1
    refine q_iinc (w := 1) (lo1 := [some (.ref a0), some (.int x1), some (.int (x2 + 1)), some (.int x3)]) C dX2_rounds_14 rfl (by decide) (by decide) rfl ?_
    refine q_iload_n C dX2_rounds_17 rfl ?_
    refine q_iconst (v := 2) C dX2_rounds_18 (by decide) ?_
    refine q_imul C dX2_rounds_19 ?_
    refine q_istore_n (lo1 := [some (.ref a0), some (.int x1), some (.int (x2 + 1)), some (.int (x3 * 2))]) C dX2_rounds_20 (by decide) rfl ?_
    refine q_goto (tgt := 9) C dX2_rounds_21 (by decide) ?_
    exact hT1 _ _ _ _ _ _ h
theorem sp_X2_rounds {d : Nat} {sh : List qSh} {K : Option Value → qMI → qML → qMP → Prop} {a0 : Nat} {I : qMI} {L : qML} {P : qMP} (T1 : Int32 → Int32 → Int32 → qMI → qML → qMP → Prop) (m1 : Int32 → Int32 → Int32 → qMI → qML → qMP → Nat) (h0 : vc_X2_rounds_0 d sh K T1 a0 I L P)
    (h1 : ∀ (x1 : Int32) (x2 : Int32) (x3 : Int32) (I : qMI) (L : qML) (P : qMP), T1 x1 x2 x3 I L P → vc_X2_rounds_1 d sh K (fun w0 w1 w2 I' L' P' => T1 w0 w1 w2 I' L' P' ∧ m1 w0 w1 w2 I' L' P' < m1 x1 x2 x3 I L P) a0 x1 x2 x3 I L P) : Sq (d + 1) mX2_rounds sh [.ref a0] I L P K := by
  refine Sq_of (by decide +kernel) (Nat.le_of_ble_eq_true rfl) (fun X C hk hn => ?_)
  have go : ∀ N : Nat, (∀ (x1 : Int32) (x2 : Int32) (x3 : Int32) (I : qMI) (L : qML) (P : qMP), T1 x1 x2 x3 I L P → m1 x1 x2 x3 I L P < N → qG X 9 [some (.ref a0), some (.int x1), some (.int x2), some (.int x3)] [] sh I L P 0 0) := by
    intro N
    induction N with
    | zero => exact fun _ _ _ _ _ _ _ q => absurd q (Nat.not_lt_zero _)
    | succ N ih =>
      exact fun b0 b1 b2 I1 L1 P1 t q => rg_X2_rounds_1 C hk (fun z0 z1 z2 I2 L2 P2 z => ih z0 z1 z2 I2 L2 P2 z.1 (Nat.lt_of_lt_of_le z.2 (Nat.le_of_lt_succ q))) (h1 b0 b1 b2 I1 L1 P1 t)
  exact rg_X2_rounds_0 C hk (fun b0 b1 b2 I1 L1 P1 t => (go (m1 b0 b1 b2 I1 L1 P1 + 1)) b0 b1 b2 I1 L1 P1 t (Nat.lt_succ_self _)) h0
/-! BracketDraws$Entries.byes()I -/
def vc_X2_byes_0 (d : Nat) (sh : List qSh) (K : Option Value → qMI → qML → qMP → Prop) (a0 : Nat) (I : qMI) (L : qML) (P : qMP) : Prop :=
  ((shp sh a0).1 = 2) ∧ (Sq d mX2_slots sh [.ref a0] I L P (KI fun r2 I3 L4 P5 => K (some (.int (r2 - (I3 a0 0)))) I3 L4 P5))
set_option maxRecDepth 100000 in
set_option maxHeartbeats 4000000 in
theorem rg_X2_byes_0 {X : qCT} {d : Nat} {sh : List qSh} {K : Option Value → qMI → qML → qMP → Prop} {a0 : Nat} {I : qMI} {L : qML} {P : qMP} (C : qCB X RX2 cX2_byes 1 (d + 1) 0 0) (hk : qCK X (some .int) 0 0 (fun v sh' I' L' P' => sh' = sh ∧ K v I' L' P')) (h : vc_X2_byes_0 d sh K a0 I L P) : qG X 0 [some (.ref a0)] [] sh I L P 0 0 := by
  unfold vc_X2_byes_0 at h
  refine q_aload_n C dX2_byes_0 rfl ?_
  have s1 := h.1
  replace h := h.2
  refine q_cVi (as := []) (st := []) (r := a0) C mv_X2_slots ml_RX2_39 dX2_byes_1 rfl s1 rfl (Nat.le_of_ble_eq_true rfl) ⟨Nat.le_refl _, Nat.le_refl _⟩ h (fun r2 I3 L4 P5 h => ?_)
  refine q_aload_n C dX2_byes_4 rfl ?_
  refine q_getI C fl_RX2_19 rfl s1 dX2_byes_5 ?_
  refine q_isub C dX2_byes_8 ?_
  exact q_iret C hk dX2_byes_9 ⟨rfl, h⟩
theorem sp_X2_byes {d : Nat} {sh : List qSh} {K : Option Value → qMI → qML → qMP → Prop} {a0 : Nat} {I : qMI} {L : qML} {P : qMP} (h0 : vc_X2_byes_0 d sh K a0 I L P) : Sq (d + 1) mX2_byes sh [.ref a0] I L P K := by
  refine Sq_of (by decide +kernel) (Nat.le_of_ble_eq_true rfl) (fun X C hk hn => ?_)
  exact rg_X2_byes_0 C hk h0
/-! BracketDraws$Entries.seedSlot(I)I -/
def vc_X2_seedSlot_0 (d : Nat) (sh : List qSh) (K : Option Value → qMI → qML → qMP → Prop) (T1 : Int32 → Int32 → Int32 → Int32 → Int32 → qMI → qML → qMP → Prop) (a0 : Nat) (x1 : Int32) (I : qMI) (L : qML) (P : qMP) : Prop :=
  ((shp sh a0).1 = 2) ∧ (Sq d mX2_told sh [.ref a0, .int x1, .int 2] I L P (KI fun r2 I3 L4 P5 => Sq d mX2_slots sh [.ref a0] I3 L4 P5 (KI fun r6 I7 L8 P9 => ((r2 < 1) → (K (some (.int ((-1)))) I7 L8 P9)) ∧ ((¬ r2 < 1) → (((r2 ≤ r6) → (T1 r2 r6 0 1 r6 I7 L8 P9)) ∧ ((¬ r2 ≤ r6) → (K (some (.int ((-1)))) I7 L8 P9)))))))
set_option maxRecDepth 100000 in
set_option maxHeartbeats 4000000 in
theorem rg_X2_seedSlot_0 {X : qCT} {d : Nat} {sh : List qSh} {K : Option Value → qMI → qML → qMP → Prop} {T1 : Int32 → Int32 → Int32 → Int32 → Int32 → qMI → qML → qMP → Prop} {a0 : Nat} {x1 : Int32} {I : qMI} {L : qML} {P : qMP} (C : qCB X RX2 cX2_seedSlot 7 (d + 1) 0 0) (hk : qCK X (some .int) 0 0 (fun v sh' I' L' P' => sh' = sh ∧ K v I' L' P')) (hT1 : ∀ (x2 : Int32) (x3 : Int32) (x4 : Int32) (x5 : Int32) (x6 : Int32) (I : qMI) (L : qML) (P : qMP), T1 x2 x3 x4 x5 x6 I L P → qG X 33 [some (.ref a0), some (.int x1), some (.int x2), some (.int x3), some (.int x4), some (.int x5), some (.int x6)] [] sh I L P 0 0) (h : vc_X2_seedSlot_0 d sh K T1 a0 x1 I L P) : qG X 0 [some (.ref a0), some (.int x1), none, none, none, none, none] [] sh I L P 0 0 := by
  unfold vc_X2_seedSlot_0 at h
  refine q_aload_n C dX2_seedSlot_0 rfl ?_
  refine q_iload_n C dX2_seedSlot_1 rfl ?_
  refine q_iconst (v := 2) C dX2_seedSlot_2 (by decide) ?_
  have s1 := h.1
  replace h := h.2
  refine q_cVi (as := [.int x1, .int 2]) (st := []) (r := a0) C mv_X2_told ml_RX2_31 dX2_seedSlot_3 rfl s1 rfl (Nat.le_of_ble_eq_true rfl) ⟨Nat.le_refl _, Nat.le_refl _⟩ h (fun r2 I3 L4 P5 h => ?_)
  refine q_istore_n (lo1 := [some (.ref a0), some (.int x1), some (.int r2), none, none, none, none]) C dX2_seedSlot_6 (by decide) rfl ?_
  refine q_aload_n C dX2_seedSlot_7 rfl ?_
  refine q_cVi (as := []) (st := []) (r := a0) C mv_X2_slots ml_RX2_39 dX2_seedSlot_8 rfl s1 rfl (Nat.le_of_ble_eq_true rfl) ⟨Nat.le_refl _, Nat.le_refl _⟩ h (fun r6 I7 L8 P9 h => ?_)
  refine q_istore_n (lo1 := [some (.ref a0), some (.int x1), some (.int r2), some (.int r6), none, none, none]) C dX2_seedSlot_11 (by decide) rfl ?_
  refine q_iload_n C dX2_seedSlot_12 rfl ?_
  refine q_iconst (v := 1) C dX2_seedSlot_13 (by decide) ?_
  refine q_icmp_lt (tgt := 22) C dX2_seedSlot_14 (by decide) (fun c10 => ?_) (fun c10 => ?_)
  · replace h := h.1 c10
    refine q_iconst (v := (-1)) C dX2_seedSlot_22 (by decide) ?_
    exact q_iret C hk dX2_seedSlot_23 ⟨rfl, h⟩
  · replace h := h.2 c10
    refine q_iload_n C dX2_seedSlot_17 rfl ?_
    refine q_iload_n C dX2_seedSlot_18 rfl ?_
    refine q_icmp_le (tgt := 24) C dX2_seedSlot_19 (by decide) (fun c11 => ?_) (fun c11 => ?_)
    · replace h := h.1 c11
      refine q_iconst (v := 0) C dX2_seedSlot_24 (by decide) ?_
      refine q_istore (lo1 := [some (.ref a0), some (.int x1), some (.int r2), some (.int r6), some (.int 0), none, none]) C dX2_seedSlot_25 (by decide) rfl ?_
      refine q_iconst (v := 1) C dX2_seedSlot_27 (by decide) ?_
      refine q_istore (lo1 := [some (.ref a0), some (.int x1), some (.int r2), some (.int r6), some (.int 0), some (.int 1), none]) C dX2_seedSlot_28 (by decide) rfl ?_
      refine q_iload_n C dX2_seedSlot_30 rfl ?_
      refine q_istore (lo1 := [some (.ref a0), some (.int x1), some (.int r2), some (.int r6), some (.int 0), some (.int 1), some (.int r6)]) C dX2_seedSlot_31 (by decide) rfl ?_
      exact hT1 _ _ _ _ _ _ _ _ h
    · replace h := h.2 c11
      refine q_iconst (v := (-1)) C dX2_seedSlot_22 (by decide) ?_
      exact q_iret C hk dX2_seedSlot_23 ⟨rfl, h⟩
def vc_X2_seedSlot_1 (d : Nat) (sh : List qSh) (K : Option Value → qMI → qML → qMP → Prop) (T1 : Int32 → Int32 → Int32 → Int32 → Int32 → qMI → qML → qMP → Prop) (a0 : Nat) (x1 : Int32) (x2 : Int32) (x3 : Int32) (x4 : Int32) (x5 : Int32) (x6 : Int32) (I : qMI) (L : qML) (P : qMP) : Prop :=
  ((x6 ≤ 1) → (K (some (.int x4)) I L P)) ∧ ((¬ x6 ≤ 1) → (((x2 ≤ (x6 / 2)) → (T1 x2 x3 x4 (x5 * 2) (x6 / 2) I L P)) ∧ ((¬ x2 ≤ (x6 / 2)) → (T1 ((x6 + 1) - x2) x3 (x4 + x5) (x5 * 2) (x6 / 2) I L P))))
set_option maxRecDepth 100000 in
set_option maxHeartbeats 4000000 in
theorem rg_X2_seedSlot_1 {X : qCT} {d : Nat} {sh : List qSh} {K : Option Value → qMI → qML → qMP → Prop} {T1 : Int32 → Int32 → Int32 → Int32 → Int32 → qMI → qML → qMP → Prop} {a0 : Nat} {x1 : Int32} {x2 : Int32} {x3 : Int32} {x4 : Int32} {x5 : Int32} {x6 : Int32} {I : qMI} {L : qML} {P : qMP} (C : qCB X RX2 cX2_seedSlot 7 (d + 1) 0 0) (hk : qCK X (some .int) 0 0 (fun v sh' I' L' P' => sh' = sh ∧ K v I' L' P')) (hT1 : ∀ (x2 : Int32) (x3 : Int32) (x4 : Int32) (x5 : Int32) (x6 : Int32) (I : qMI) (L : qML) (P : qMP), T1 x2 x3 x4 x5 x6 I L P → qG X 33 [some (.ref a0), some (.int x1), some (.int x2), some (.int x3), some (.int x4), some (.int x5), some (.int x6)] [] sh I L P 0 0) (h : vc_X2_seedSlot_1 d sh K T1 a0 x1 x2 x3 x4 x5 x6 I L P) : qG X 33 [some (.ref a0), some (.int x1), some (.int x2), some (.int x3), some (.int x4), some (.int x5), some (.int x6)] [] sh I L P 0 0 := by
  unfold vc_X2_seedSlot_1 at h
  refine q_iload C dX2_seedSlot_33 rfl ?_
  refine q_iconst (v := 1) C dX2_seedSlot_35 (by decide) ?_
  refine q_icmp_le (tgt := 76) C dX2_seedSlot_36 (by decide) (fun c1 => ?_) (fun c1 => ?_)
  · replace h := h.1 c1
    refine q_iload C dX2_seedSlot_76 rfl ?_
    exact q_iret C hk dX2_seedSlot_78 ⟨rfl, h⟩
  · replace h := h.2 c1
    refine q_iload_n C dX2_seedSlot_39 rfl ?_
    refine q_iload C dX2_seedSlot_40 rfl ?_
    refine q_iconst (v := 2) C dX2_seedSlot_42 (by decide) ?_
    refine q_idiv C dX2_seedSlot_43 (by decide) ?_
    refine q_icmp_le (tgt := 61) C dX2_seedSlot_44 (by decide) (fun c2 => ?_) (fun c2 => ?_)
    · replace h := h.1 c2
      refine q_iload C dX2_seedSlot_61 rfl ?_
      refine q_iconst (v := 2) C dX2_seedSlot_63 (by decide) ?_
      refine q_imul C dX2_seedSlot_64 ?_
      refine q_istore (lo1 := [some (.ref a0), some (.int x1), some (.int x2), some (.int x3), some (.int x4), some (.int (x5 * 2)), some (.int x6)]) C dX2_seedSlot_65 (by decide) rfl ?_
      refine q_iload C dX2_seedSlot_67 rfl ?_
      refine q_iconst (v := 2) C dX2_seedSlot_69 (by decide) ?_
      refine q_idiv C dX2_seedSlot_70 (by decide) ?_
      refine q_istore (lo1 := [some (.ref a0), some (.int x1), some (.int x2), some (.int x3), some (.int x4), some (.int (x5 * 2)), some (.int (x6 / 2))]) C dX2_seedSlot_71 (by decide) rfl ?_
      refine q_goto (tgt := 33) C dX2_seedSlot_73 (by decide) ?_
      exact hT1 _ _ _ _ _ _ _ _ h
    · replace h := h.2 c2
      refine q_iload C dX2_seedSlot_47 rfl ?_
      refine q_iconst (v := 1) C dX2_seedSlot_49 (by decide) ?_
      refine q_iadd C dX2_seedSlot_50 ?_
      refine q_iload_n C dX2_seedSlot_51 rfl ?_
      refine q_isub C dX2_seedSlot_52 ?_
      refine q_istore_n (lo1 := [some (.ref a0), some (.int x1), some (.int ((x6 + 1) - x2)), some (.int x3), some (.int x4), some (.int x5), some (.int x6)]) C dX2_seedSlot_53 (by decide) rfl ?_
      refine q_iload C dX2_seedSlot_54 rfl ?_
      refine q_iload C dX2_seedSlot_56 rfl ?_
      refine q_iadd C dX2_seedSlot_58 ?_
      refine q_istore (lo1 := [some (.ref a0), some (.int x1), some (.int ((x6 + 1) - x2)), some (.int x3), some (.int (x4 + x5)), some (.int x5), some (.int x6)]) C dX2_seedSlot_59 (by decide) rfl ?_
      refine q_iload C dX2_seedSlot_61 rfl ?_
      refine q_iconst (v := 2) C dX2_seedSlot_63 (by decide) ?_
      refine q_imul C dX2_seedSlot_64 ?_
      refine q_istore (lo1 := [some (.ref a0), some (.int x1), some (.int ((x6 + 1) - x2)), some (.int x3), some (.int (x4 + x5)), some (.int (x5 * 2)), some (.int x6)]) C dX2_seedSlot_65 (by decide) rfl ?_
      refine q_iload C dX2_seedSlot_67 rfl ?_
      refine q_iconst (v := 2) C dX2_seedSlot_69 (by decide) ?_
      refine q_idiv C dX2_seedSlot_70 (by decide) ?_
      refine q_istore (lo1 := [some (.ref a0), some (.int x1), some (.int ((x6 + 1) - x2)), some (.int x3), some (.int (x4 + x5)), some (.int (x5 * 2)), some (.int (x6 / 2))]) C dX2_seedSlot_71 (by decide) rfl ?_
      refine q_goto (tgt := 33) C dX2_seedSlot_73 (by decide) ?_
      exact hT1 _ _ _ _ _ _ _ _ h
theorem sp_X2_seedSlot {d : Nat} {sh : List qSh} {K : Option Value → qMI → qML → qMP → Prop} {a0 : Nat} {x1 : Int32} {I : qMI} {L : qML} {P : qMP} (T1 : Int32 → Int32 → Int32 → Int32 → Int32 → qMI → qML → qMP → Prop) (m1 : Int32 → Int32 → Int32 → Int32 → Int32 → qMI → qML → qMP → Nat) (h0 : vc_X2_seedSlot_0 d sh K T1 a0 x1 I L P)
    (h1 : ∀ (x2 : Int32) (x3 : Int32) (x4 : Int32) (x5 : Int32) (x6 : Int32) (I : qMI) (L : qML) (P : qMP), T1 x2 x3 x4 x5 x6 I L P → vc_X2_seedSlot_1 d sh K (fun w0 w1 w2 w3 w4 I' L' P' => T1 w0 w1 w2 w3 w4 I' L' P' ∧ m1 w0 w1 w2 w3 w4 I' L' P' < m1 x2 x3 x4 x5 x6 I L P) a0 x1 x2 x3 x4 x5 x6 I L P) : Sq (d + 1) mX2_seedSlot sh [.ref a0, .int x1] I L P K := by
  refine Sq_of (by decide +kernel) (Nat.le_of_ble_eq_true rfl) (fun X C hk hn => ?_)
  have go : ∀ N : Nat, (∀ (x2 : Int32) (x3 : Int32) (x4 : Int32) (x5 : Int32) (x6 : Int32) (I : qMI) (L : qML) (P : qMP), T1 x2 x3 x4 x5 x6 I L P → m1 x2 x3 x4 x5 x6 I L P < N → qG X 33 [some (.ref a0), some (.int x1), some (.int x2), some (.int x3), some (.int x4), some (.int x5), some (.int x6)] [] sh I L P 0 0) := by
    intro N
    induction N with
    | zero => exact fun _ _ _ _ _ _ _ _ _ q => absurd q (Nat.not_lt_zero _)
    | succ N ih =>
      exact fun b0 b1 b2 b3 b4 I1 L1 P1 t q => rg_X2_seedSlot_1 C hk (fun z0 z1 z2 z3 z4 I2 L2 P2 z => ih z0 z1 z2 z3 z4 I2 L2 P2 z.1 (Nat.lt_of_lt_of_le z.2 (Nat.le_of_lt_succ q))) (h1 b0 b1 b2 b3 b4 I1 L1 P1 t)
  exact rg_X2_seedSlot_0 C hk (fun b0 b1 b2 b3 b4 I1 L1 P1 t => (go (m1 b0 b1 b2 b3 b4 I1 L1 P1 + 1)) b0 b1 b2 b3 b4 I1 L1 P1 t (Nat.lt_succ_self _)) h0
/-! BracketDraws$Entries.beats(II)Z -/
def vc_X2_beats_0 (d : Nat) (sh : List qSh) (K : Option Value → qMI → qML → qMP → Prop) (a0 : Nat) (x1 : Int32) (x2 : Int32) (I : qMI) (L : qML) (P : qMP) : Prop :=
  ((shp sh a0).1 = 2) ∧ (Sq d mX2_told sh [.ref a0, .int x1, .int 3] I L P (KI fun r2 I3 L4 P5 => Sq d mX2_told sh [.ref a0, .int x2, .int 3] I3 L4 P5 (KI fun r6 I7 L8 P9 => ((0 < (r2 - r6)) → (K (some (.int 1)) I7 L8 P9)) ∧ ((¬ 0 < (r2 - r6)) → (((¬ (r2 - r6) = 0) → (K (some (.int 0)) I7 L8 P9)) ∧ (((r2 - r6) = 0) → (((x2 ≤ x1) → (K (some (.int 0)) I7 L8 P9)) ∧ ((¬ x2 ≤ x1) → (K (some (.int 1)) I7 L8 P9)))))))))
set_option maxRecDepth 100000 in
set_option maxHeartbeats 4000000 in
theorem rg_X2_beats_0 {X : qCT} {d : Nat} {sh : List qSh} {K : Option Value → qMI → qML → qMP → Prop} {a0 : Nat} {x1 : Int32} {x2 : Int32} {I : qMI} {L : qML} {P : qMP} (C : qCB X RX2 cX2_beats 4 (d + 1) 0 0) (hk : qCK X (some .boolean) 0 0 (fun v sh' I' L' P' => sh' = sh ∧ K v I' L' P')) (h : vc_X2_beats_0 d sh K a0 x1 x2 I L P) : qG X 0 [some (.ref a0), some (.int x1), some (.int x2), none] [] sh I L P 0 0 := by
  unfold vc_X2_beats_0 at h
  refine q_aload_n C dX2_beats_0 rfl ?_
  refine q_iload_n C dX2_beats_1 rfl ?_
  refine q_iconst (v := 3) C dX2_beats_2 (by decide) ?_
  have s1 := h.1
  replace h := h.2
  refine q_cVi (as := [.int x1, .int 3]) (st := []) (r := a0) C mv_X2_told ml_RX2_31 dX2_beats_3 rfl s1 rfl (Nat.le_of_ble_eq_true rfl) ⟨Nat.le_refl _, Nat.le_refl _⟩ h (fun r2 I3 L4 P5 h => ?_)
  refine q_aload_n C dX2_beats_6 rfl ?_
  refine q_iload_n C dX2_beats_7 rfl ?_
  refine q_iconst (v := 3) C dX2_beats_8 (by decide) ?_
  refine q_cVi (as := [.int x2, .int 3]) (st := [.int r2]) (r := a0) C mv_X2_told ml_RX2_31 dX2_beats_9 rfl s1 rfl (Nat.le_of_ble_eq_true rfl) ⟨Nat.le_refl _, Nat.le_refl _⟩ h (fun r6 I7 L8 P9 h => ?_)
  refine q_isub C dX2_beats_12 ?_
  refine q_istore_n (lo1 := [some (.ref a0), some (.int x1), some (.int x2), some (.int (r2 - r6))]) C dX2_beats_13 (by decide) rfl ?_
  refine q_iload_n C dX2_beats_14 rfl ?_
  refine q_if_gt (tgt := 27) C dX2_beats_15 (by decide) (fun c10 => ?_) (fun c10 => ?_)
  · replace h := h.1 c10
    refine q_iconst (v := 1) C dX2_beats_27 (by decide) ?_
    refine q_goto (tgt := 32) C dX2_beats_28 (by decide) ?_
    exact q_zret C hk (Or.inr rfl) dX2_beats_32 ⟨rfl, h⟩
  · replace h := h.2 c10
    refine q_iload_n C dX2_beats_18 rfl ?_
    refine q_if_ne (tgt := 31) C dX2_beats_19 (by decide) (fun c11 => ?_) (fun c11 => ?_)
    · replace h := h.1 c11
      refine q_iconst (v := 0) C dX2_beats_31 (by decide) ?_
      exact q_zret C hk (Or.inl rfl) dX2_beats_32 ⟨rfl, h⟩
    · replace h := h.2 c11
      refine q_iload_n C dX2_beats_22 rfl ?_
      refine q_iload_n C dX2_beats_23 rfl ?_
      refine q_icmp_ge (tgt := 31) C dX2_beats_24 (by decide) (fun c12 => ?_) (fun c12 => ?_)
      · replace h := h.1 c12
        refine q_iconst (v := 0) C dX2_beats_31 (by decide) ?_
        exact q_zret C hk (Or.inl rfl) dX2_beats_32 ⟨rfl, h⟩
      · replace h := h.2 c12
        refine q_iconst (v := 1) C dX2_beats_27 (by decide) ?_
        refine q_goto (tgt := 32) C dX2_beats_28 (by decide) ?_
        exact q_zret C hk (Or.inr rfl) dX2_beats_32 ⟨rfl, h⟩
theorem sp_X2_beats {d : Nat} {sh : List qSh} {K : Option Value → qMI → qML → qMP → Prop} {a0 : Nat} {x1 : Int32} {x2 : Int32} {I : qMI} {L : qML} {P : qMP} (h0 : vc_X2_beats_0 d sh K a0 x1 x2 I L P) : Sq (d + 1) mX2_beats sh [.ref a0, .int x1, .int x2] I L P K := by
  refine Sq_of (by decide +kernel) (Nat.le_of_ble_eq_true rfl) (fun X C hk hn => ?_)
  exact rg_X2_beats_0 C hk h0
/-! BracketDraws$Entries.strongest()I -/
def vc_X2_strongest_0 (d : Nat) (sh : List qSh) (K : Option Value → qMI → qML → qMP → Prop) (T1 : Int32 → Int32 → qMI → qML → qMP → Prop) (a0 : Nat) (I : qMI) (L : qML) (P : qMP) : Prop :=
  T1 0 1 I L P
set_option maxRecDepth 100000 in
set_option maxHeartbeats 4000000 in
theorem rg_X2_strongest_0 {X : qCT} {d : Nat} {sh : List qSh} {K : Option Value → qMI → qML → qMP → Prop} {T1 : Int32 → Int32 → qMI → qML → qMP → Prop} {a0 : Nat} {I : qMI} {L : qML} {P : qMP} (C : qCB X RX2 cX2_strongest 3 (d + 1) 0 0) (hk : qCK X (some .int) 0 0 (fun v sh' I' L' P' => sh' = sh ∧ K v I' L' P')) (hT1 : ∀ (x1 : Int32) (x2 : Int32) (I : qMI) (L : qML) (P : qMP), T1 x1 x2 I L P → qG X 4 [some (.ref a0), some (.int x1), some (.int x2)] [] sh I L P 0 0) (h : vc_X2_strongest_0 d sh K T1 a0 I L P) : qG X 0 [some (.ref a0), none, none] [] sh I L P 0 0 := by
  unfold vc_X2_strongest_0 at h
  refine q_iconst (v := 0) C dX2_strongest_0 (by decide) ?_
  refine q_istore_n (lo1 := [some (.ref a0), some (.int 0), none]) C dX2_strongest_1 (by decide) rfl ?_
  refine q_iconst (v := 1) C dX2_strongest_2 (by decide) ?_
  refine q_istore_n (lo1 := [some (.ref a0), some (.int 0), some (.int 1)]) C dX2_strongest_3 (by decide) rfl ?_
  exact hT1 _ _ _ _ _ h
def vc_X2_strongest_1 (d : Nat) (sh : List qSh) (K : Option Value → qMI → qML → qMP → Prop) (T1 : Int32 → Int32 → qMI → qML → qMP → Prop) (a0 : Nat) (x1 : Int32) (x2 : Int32) (I : qMI) (L : qML) (P : qMP) : Prop :=
  ((shp sh a0).1 = 2) ∧ ((((I a0 0) ≤ x2) → (K (some (.int x1)) I L P)) ∧ ((¬ (I a0 0) ≤ x2) → (Sq d mX2_beats sh [.ref a0, .int x2, .int x1] I L P (KI fun r3 I4 L5 P6 => ((r3 = 0) → (T1 x1 (x2 + 1) I4 L5 P6)) ∧ ((¬ r3 = 0) → (T1 x2 (x2 + 1) I4 L5 P6))))))
set_option maxRecDepth 100000 in
set_option maxHeartbeats 4000000 in
theorem rg_X2_strongest_1 {X : qCT} {d : Nat} {sh : List qSh} {K : Option Value → qMI → qML → qMP → Prop} {T1 : Int32 → Int32 → qMI → qML → qMP → Prop} {a0 : Nat} {x1 : Int32} {x2 : Int32} {I : qMI} {L : qML} {P : qMP} (C : qCB X RX2 cX2_strongest 3 (d + 1) 0 0) (hk : qCK X (some .int) 0 0 (fun v sh' I' L' P' => sh' = sh ∧ K v I' L' P')) (hT1 : ∀ (x1 : Int32) (x2 : Int32) (I : qMI) (L : qML) (P : qMP), T1 x1 x2 I L P → qG X 4 [some (.ref a0), some (.int x1), some (.int x2)] [] sh I L P 0 0) (h : vc_X2_strongest_1 d sh K T1 a0 x1 x2 I L P) : qG X 4 [some (.ref a0), some (.int x1), some (.int x2)] [] sh I L P 0 0 := by
  unfold vc_X2_strongest_1 at h
  refine q_iload_n C dX2_strongest_4 rfl ?_
  refine q_aload_n C dX2_strongest_5 rfl ?_
  have s1 := h.1
  replace h := h.2
  refine q_getI C fl_RX2_19 rfl s1 dX2_strongest_6 ?_
  refine q_icmp_ge (tgt := 29) C dX2_strongest_9 (by decide) (fun c2 => ?_) (fun c2 => ?_)
  · replace h := h.1 c2
    refine q_iload_n C dX2_strongest_29 rfl ?_
    exact q_iret C hk dX2_strongest_30 ⟨rfl, h⟩
  · replace h := h.2 c2
    refine q_aload_n C dX2_strongest_12 rfl ?_
    refine q_iload_n C dX2_strongest_13 rfl ?_
    refine q_iload_n C dX2_strongest_14 rfl ?_
    refine q_cVi (as := [.int x2, .int x1]) (st := []) (r := a0) C mv_X2_beats ml_RX2_54 dX2_strongest_15 rfl s1 rfl (Nat.le_of_ble_eq_true rfl) ⟨Nat.le_refl _, Nat.le_refl _⟩ h (fun r3 I4 L5 P6 h => ?_)
    refine q_if_eq (tgt := 23) C dX2_strongest_18 (by decide) (fun c7 => ?_) (fun c7 => ?_)
    · replace h := h.1 c7
      refine q_iinc (w := 1) (lo1 := [some (.ref a0), some (.int x1), some (.int (x2 + 1))]) C dX2_strongest_23 rfl (by decide) (by decide) rfl ?_
      refine q_goto (tgt := 4) C dX2_strongest_26 (by decide) ?_
      exact hT1 _ _ _ _ _ h
    · replace h := h.2 c7
      refine q_iload_n C dX2_strongest_21 rfl ?_
      refine q_istore_n (lo1 := [some (.ref a0), some (.int x2), some (.int x2)]) C dX2_strongest_22 (by decide) rfl ?_
      refine q_iinc (w := 1) (lo1 := [some (.ref a0), some (.int x2), some (.int (x2 + 1))]) C dX2_strongest_23 rfl (by decide) (by decide) rfl ?_
      refine q_goto (tgt := 4) C dX2_strongest_26 (by decide) ?_
      exact hT1 _ _ _ _ _ h
theorem sp_X2_strongest {d : Nat} {sh : List qSh} {K : Option Value → qMI → qML → qMP → Prop} {a0 : Nat} {I : qMI} {L : qML} {P : qMP} (T1 : Int32 → Int32 → qMI → qML → qMP → Prop) (m1 : Int32 → Int32 → qMI → qML → qMP → Nat) (h0 : vc_X2_strongest_0 d sh K T1 a0 I L P)
    (h1 : ∀ (x1 : Int32) (x2 : Int32) (I : qMI) (L : qML) (P : qMP), T1 x1 x2 I L P → vc_X2_strongest_1 d sh K (fun w0 w1 I' L' P' => T1 w0 w1 I' L' P' ∧ m1 w0 w1 I' L' P' < m1 x1 x2 I L P) a0 x1 x2 I L P) : Sq (d + 1) mX2_strongest sh [.ref a0] I L P K := by
  refine Sq_of (by decide +kernel) (Nat.le_of_ble_eq_true rfl) (fun X C hk hn => ?_)
  have go : ∀ N : Nat, (∀ (x1 : Int32) (x2 : Int32) (I : qMI) (L : qML) (P : qMP), T1 x1 x2 I L P → m1 x1 x2 I L P < N → qG X 4 [some (.ref a0), some (.int x1), some (.int x2)] [] sh I L P 0 0) := by
    intro N
    induction N with
    | zero => exact fun _ _ _ _ _ _ q => absurd q (Nat.not_lt_zero _)
    | succ N ih =>
      exact fun b0 b1 I1 L1 P1 t q => rg_X2_strongest_1 C hk (fun z0 z1 I2 L2 P2 z => ih z0 z1 I2 L2 P2 z.1 (Nat.lt_of_lt_of_le z.2 (Nat.le_of_lt_succ q))) (h1 b0 b1 I1 L1 P1 t)
  exact rg_X2_strongest_0 C hk (fun b0 b1 I1 L1 P1 t => (go (m1 b0 b1 I1 L1 P1 + 1)) b0 b1 I1 L1 P1 t (Nat.lt_succ_self _)) h0
/-! BracketDraws$Tape.add(I)Z -/
def vc_X7_add_0 (d : Nat) (sh : List qSh) (K : Option Value → qMI → qML → qMP → Prop) (a0 : Nat) (x1 : Int32) (I : qMI) (L : qML) (P : qMP) : Prop :=
  ((shp sh a0).1 = 7) ∧ ((((I a0 1) < 0) → (K (some (.int 0)) I L P)) ∧ ((¬ (I a0 1) < 0) → (((shp sh (P a0 0)).1 = 20) ∧ ((((I a0 1) < (nI (shp sh (P a0 0)).2)) → ((vp_in (I a0 1) (shp sh (P a0 0)).2) ∧ (∀ I6 : qMI, I6 = uI I (P a0 0) (Int32.toNatClampNeg (I a0 1)) x1 → (∀ I7 : qMI, I7 = uI I6 a0 1 ((I6 a0 1) + 1) → (K (some (.int 1)) I7 L P))))) ∧ ((¬ (I a0 1) < (nI (shp sh (P a0 0)).2)) → (K (some (.int 0)) I L P))))))
set_option maxRecDepth 100000 in
set_option maxHeartbeats 4000000 in
theorem rg_X7_add_0 {X : qCT} {d : Nat} {sh : List qSh} {K : Option Value → qMI → qML → qMP → Prop} {a0 : Nat} {x1 : Int32} {I : qMI} {L : qML} {P : qMP} (C : qCB X RX7 cX7_add 2 (d + 1) 0 0) (hk : qCK X (some .boolean) 0 0 (fun v sh' I' L' P' => sh' = sh ∧ K v I' L' P')) (h : vc_X7_add_0 d sh K a0 x1 I L P) : qG X 0 [some (.ref a0), some (.int x1)] [] sh I L P 0 0 := by
  unfold vc_X7_add_0 at h
  refine q_aload_n C dX7_add_0 rfl ?_
  have s1 := h.1
  replace h := h.2
  refine q_getI C fl_RX7_15 rfl s1 dX7_add_1 ?_
  refine q_if_lt (tgt := 19) C dX7_add_4 (by decide) (fun c2 => ?_) (fun c2 => ?_)
  · replace h := h.1 c2
    refine q_iconst (v := 0) C dX7_add_19 (by decide) ?_
    exact q_zret C hk (Or.inl rfl) dX7_add_20 ⟨rfl, h⟩
  · replace h := h.2 c2
    refine q_aload_n C dX7_add_7 rfl ?_
    refine q_getI C fl_RX7_15 rfl s1 dX7_add_8 ?_
    refine q_aload_n C dX7_add_11 rfl ?_
    refine q_getP C fl_RX7_9 rfl s1 dX7_add_12 ?_
    have s3 := h.1
    replace h := h.2
    refine q_alen20 C s3 dX7_add_15 ?_
    refine q_icmp_lt (tgt := 21) C dX7_add_16 (by decide) (fun c4 => ?_) (fun c4 => ?_)
    · replace h := h.1 c4
      refine q_aload_n C dX7_add_21 rfl ?_
      refine q_getP C fl_RX7_9 rfl s1 dX7_add_22 ?_
      refine q_aload_n C dX7_add_25 rfl ?_
      refine q_getI C fl_RX7_15 rfl s1 dX7_add_26 ?_
      refine q_iload_n C dX7_add_29 rfl ?_
      have s5 := h.1
      replace h := h.2
      refine q_iast C s3 s5 dX7_add_30 (fun I6 eI6 => ?_)
      replace h := h I6 eI6
      refine q_aload_n C dX7_add_31 rfl ?_
      refine q_dup C dX7_add_32 rfl ?_
      refine q_getI C fl_RX7_15 rfl s1 dX7_add_33 ?_
      refine q_iconst (v := 1) C dX7_add_36 (by decide) ?_
      refine q_iadd C dX7_add_37 ?_
      refine q_putI C fl_RX7_15 (fun T hT => by cases hT; rfl) rfl s1 dX7_add_38 (fun I7 eI7 => ?_)
      replace h := h I7 eI7
      refine q_iconst (v := 1) C dX7_add_41 (by decide) ?_
      exact q_zret C hk (Or.inr rfl) dX7_add_42 ⟨rfl, h⟩
    · replace h := h.2 c4
      refine q_iconst (v := 0) C dX7_add_19 (by decide) ?_
      exact q_zret C hk (Or.inl rfl) dX7_add_20 ⟨rfl, h⟩
theorem sp_X7_add {d : Nat} {sh : List qSh} {K : Option Value → qMI → qML → qMP → Prop} {a0 : Nat} {x1 : Int32} {I : qMI} {L : qML} {P : qMP} (h0 : vc_X7_add_0 d sh K a0 x1 I L P) : Sq (d + 1) mX7_add sh [.ref a0, .int x1] I L P K := by
  refine Sq_of (by decide +kernel) (Nat.le_of_ble_eq_true rfl) (fun X C hk hn => ?_)
  exact rg_X7_add_0 C hk h0
/-! BracketDraws$Tape.at(I)I -/
def vc_X7_at_0 (d : Nat) (sh : List qSh) (K : Option Value → qMI → qML → qMP → Prop) (a0 : Nat) (x1 : Int32) (I : qMI) (L : qML) (P : qMP) : Prop :=
  ((x1 < 0) → (K (some (.int ((-1)))) I L P)) ∧ ((¬ x1 < 0) → (((shp sh a0).1 = 7) ∧ ((((I a0 1) ≤ x1) → (K (some (.int ((-1)))) I L P)) ∧ ((¬ (I a0 1) ≤ x1) → (((shp sh (P a0 0)).1 = 20) ∧ ((((nI (shp sh (P a0 0)).2) ≤ x1) → (K (some (.int ((-1)))) I L P)) ∧ ((¬ (nI (shp sh (P a0 0)).2) ≤ x1) → ((vp_in x1 (shp sh (P a0 0)).2) ∧ (K (some (.int (I (P a0 0) (Int32.toNatClampNeg x1)))) I L P)))))))))
set_option maxRecDepth 100000 in
set_option maxHeartbeats 4000000 in
theorem rg_X7_at_0 {X : qCT} {d : Nat} {sh : List qSh} {K : Option Value → qMI → qML → qMP → Prop} {a0 : Nat} {x1 : Int32} {I : qMI} {L : qML} {P : qMP} (C : qCB X RX7 cX7_at 2 (d + 1) 0 0) (hk : qCK X (some .int) 0 0 (fun v sh' I' L' P' => sh' = sh ∧ K v I' L' P')) (h : vc_X7_at_0 d sh K a0 x1 I L P) : qG X 0 [some (.ref a0), some (.int x1)] [] sh I L P 0 0 := by
  unfold vc_X7_at_0 at h
  refine q_iload_n C dX7_at_0 rfl ?_
  refine q_if_lt (tgt := 30) C dX7_at_1 (by decide) (fun c1 => ?_) (fun c1 => ?_)
  · replace h := h.1 c1
    refine q_iconst (v := (-1)) C dX7_at_30 (by decide) ?_
    exact q_iret C hk dX7_at_31 ⟨rfl, h⟩
  · replace h := h.2 c1
    refine q_iload_n C dX7_at_4 rfl ?_
    refine q_aload_n C dX7_at_5 rfl ?_
    have s2 := h.1
    replace h := h.2
    refine q_getI C fl_RX7_15 rfl s2 dX7_at_6 ?_
    refine q_icmp_ge (tgt := 30) C dX7_at_9 (by decide) (fun c3 => ?_) (fun c3 => ?_)
    · replace h := h.1 c3
      refine q_iconst (v := (-1)) C dX7_at_30 (by decide) ?_
      exact q_iret C hk dX7_at_31 ⟨rfl, h⟩
    · replace h := h.2 c3
      refine q_iload_n C dX7_at_12 rfl ?_
      refine q_aload_n C dX7_at_13 rfl ?_
      refine q_getP C fl_RX7_9 rfl s2 dX7_at_14 ?_
      have s4 := h.1
      replace h := h.2
      refine q_alen20 C s4 dX7_at_17 ?_
      refine q_icmp_ge (tgt := 30) C dX7_at_18 (by decide) (fun c5 => ?_) (fun c5 => ?_)
      · replace h := h.1 c5
        refine q_iconst (v := (-1)) C dX7_at_30 (by decide) ?_
        exact q_iret C hk dX7_at_31 ⟨rfl, h⟩
      · replace h := h.2 c5
        refine q_aload_n C dX7_at_21 rfl ?_
        refine q_getP C fl_RX7_9 rfl s2 dX7_at_22 ?_
        refine q_iload_n C dX7_at_25 rfl ?_
        have s6 := h.1
        replace h := h.2
        refine q_iald C s4 s6 dX7_at_26 ?_
        refine q_goto (tgt := 31) C dX7_at_27 (by decide) ?_
        exact q_iret C hk dX7_at_31 ⟨rfl, h⟩
theorem sp_X7_at {d : Nat} {sh : List qSh} {K : Option Value → qMI → qML → qMP → Prop} {a0 : Nat} {x1 : Int32} {I : qMI} {L : qML} {P : qMP} (h0 : vc_X7_at_0 d sh K a0 x1 I L P) : Sq (d + 1) mX7_at sh [.ref a0, .int x1] I L P K := by
  refine Sq_of (by decide +kernel) (Nat.le_of_ble_eq_true rfl) (fun X C hk hn => ?_)
  exact rg_X7_at_0 C hk h0
