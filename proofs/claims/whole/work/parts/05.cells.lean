def qMn (X : qCT) : Method := match X with
  | (_, _, _, _, _, _, _, _, meth, _) => meth
section QA
variable {X : qCT} {own : String} {cc : ByteArray} {n d mc ms pc cells slots : Nat} {lo : List (Option Value)} {st : List Value} {sh : List qSh} {I : qMI} {L : qML} {P : qMP}
theorem q_iald (C : qCB X own cc n d mc ms) {r : Nat} {i : Int32} (hs : (shp sh r).1 = 20) (hi : vp_in i (shp sh r).2) (hd : decode cc pc = .ok (.iaload, 1)) (k : qG X (pc + 1) lo (.int (I r i.toNatClampNeg) :: st) sh I L P cells slots) : qG X pc lo (.int i :: .ref r :: st) sh I L P cells slots := by
  obtain ⟨p, l, e, R, s, m, args, below, meth, c, nL, D, cA, A, H0, Q, ad0⟩ := X
  obtain ⟨hx, hb, ⟨hml, hnl⟩, hown, hts, hK, hA, hlk, hE, hR⟩ := C
  intro ad H locs ls h1 h2 h3 h4 h5 h6 h7 h8
  obtain ⟨k0, a, rfl, hk0, ha, es, hw, hg⟩ := wl_get (cA := cA) I L P (show (shp sh r).1 ≠ 99 by omega) h1
  rw [cel_20 hs] at hw
  show W p l e R s m args below meth c H locs cells slots Q (F0 m pc ls (.int i :: va_rf (gr ad (k0 + 1)) :: st.map (rv ad)))
  rw [hg]
  exact va_iald hx hb hK h6 k0 0 hw rfl hi hd (k ad H locs ls h1 h2 h3 ⟨trivial, h4.2.2⟩ h5 h6 h7 h8)
theorem q_zald (C : qCB X own cc n d mc ms) {r : Nat} {i : Int32} (hs : (shp sh r).1 = 22) (hi : vp_in i (shp sh r).2) (hd : decode cc pc = .ok (.baload, 1)) (k : qG X (pc + 1) lo (.int (I r i.toNatClampNeg) :: st) sh I L P cells slots) : qG X pc lo (.int i :: .ref r :: st) sh I L P cells slots := by
  obtain ⟨p, l, e, R, s, m, args, below, meth, c, nL, D, cA, A, H0, Q, ad0⟩ := X
  obtain ⟨hx, hb, ⟨hml, hnl⟩, hown, hts, hK, hA, hlk, hE, hR⟩ := C
  intro ad H locs ls h1 h2 h3 h4 h5 h6 h7 h8
  obtain ⟨k0, a, rfl, hk0, ha, es, hw, hg⟩ := wl_get (cA := cA) I L P (show (shp sh r).1 ≠ 99 by omega) h1
  rw [cel_22 hs] at hw
  show W p l e R s m args below meth c H locs cells slots Q (F0 m pc ls (.int i :: va_rf (gr ad (k0 + 1)) :: st.map (rv ad)))
  rw [hg]
  exact va_zald hx hb hK h6 k0 2 hw rfl hi hd (k ad H locs ls h1 h2 h3 ⟨trivial, h4.2.2⟩ h5 h6 h7 h8)
theorem q_lald (C : qCB X own cc n d mc ms) {r : Nat} {i : Int32} (hs : (shp sh r).1 = 21) (hi : vp_in i (shp sh r).2) (hd : decode cc pc = .ok (.laload, 1)) (k : qG X (pc + 1) lo (.long (L r i.toNatClampNeg) :: st) sh I L P cells slots) : qG X pc lo (.int i :: .ref r :: st) sh I L P cells slots := by
  obtain ⟨p, l, e, R, s, m, args, below, meth, c, nL, D, cA, A, H0, Q, ad0⟩ := X
  obtain ⟨hx, hb, ⟨hml, hnl⟩, hown, hts, hK, hA, hlk, hE, hR⟩ := C
  intro ad H locs ls h1 h2 h3 h4 h5 h6 h7 h8
  obtain ⟨k0, a, rfl, hk0, ha, es, hw, hg⟩ := wl_get (cA := cA) I L P (show (shp sh r).1 ≠ 99 by omega) h1
  rw [cel_21 hs] at hw
  show W p l e R s m args below meth c H locs cells slots Q (F0 m pc ls (.int i :: va_rf (gr ad (k0 + 1)) :: st.map (rv ad)))
  rw [hg]
  exact va_lald hx hb hK h6 k0 1 hw rfl hi hd (k ad H locs ls h1 h2 h3 ⟨trivial, h4.2.2⟩ h5 h6 h7 h8)
theorem q_iast (C : qCB X own cc n d mc ms) {r : Nat} {i : Int32} {v : Int32} (hs : (shp sh r).1 = 20) (hi : vp_in i (shp sh r).2) (hd : decode cc pc = .ok (.iastore, 1)) (k : ∀ I1 : qMI, I1 = uI I r i.toNatClampNeg v → qG X (pc + 1) lo st sh I1 L P cells slots) : qG X pc lo (.int v :: .int i :: .ref r :: st) sh I L P cells slots := by
  obtain ⟨p, l, e, R, s, m, args, below, meth, c, nL, D, cA, A, H0, Q, ad0⟩ := X
  obtain ⟨hx, hb, ⟨hml, hnl⟩, hown, hts, hK, hA, hlk, hE, hR⟩ := C
  intro ad H locs ls h1 h2 h3 h4 h5 h6 h7 h8
  have k := k _ rfl
  obtain ⟨k0, a, rfl, hk0, ha, es, hw, hg⟩ := wl_get (cA := cA) I L P (show (shp sh r).1 ≠ 99 by omega) h1
  rw [cel_20 hs] at hw
  have hset : (wl cA ad sh I L P).set k0 (a, .inl (cA 0, (shp sh (k0 + 1)).2, .inl (upd (I (k0 + 1)) i.toNatClampNeg v))) = wl cA ad sh (uI I (k0 + 1) i.toNatClampNeg v) L P := by
    subst ha
    refine wl_set hk0 ?_ (uI_ne) (fun _ _ => rfl) (fun _ _ => rfl)
    rw [← es, cel_20 hs, uI_row]
  show W p l e R s m args below meth c H locs cells slots Q (F0 m pc ls (.int v :: .int i :: va_rf (gr ad (k0 + 1)) :: st.map (rv ad)))
  rw [hg]
  refine va_iast hx hb hK h6 h7 h8 k0 0 hw rfl hi hd (fun H1 locs1 hP hD hS => ?_)
  rw [hset] at hP hD
  exact k ad H1 locs1 ls h1 h2 (h3.uI (by omega) _ _) h4.2.2.2 h5 hP hD hS
theorem q_zast (C : qCB X own cc n d mc ms) {r : Nat} {i : Int32} {v : Int32} (hs : (shp sh r).1 = 22) (hi : vp_in i (shp sh r).2) (hd : decode cc pc = .ok (.bastore, 1)) (k : ∀ I1 : qMI, I1 = uI I r i.toNatClampNeg (vp_nar .boolean v) → qG X (pc + 1) lo st sh I1 L P cells slots) : qG X pc lo (.int v :: .int i :: .ref r :: st) sh I L P cells slots := by
  obtain ⟨p, l, e, R, s, m, args, below, meth, c, nL, D, cA, A, H0, Q, ad0⟩ := X
  obtain ⟨hx, hb, ⟨hml, hnl⟩, hown, hts, hK, hA, hlk, hE, hR⟩ := C
  intro ad H locs ls h1 h2 h3 h4 h5 h6 h7 h8
  have k := k _ rfl
  obtain ⟨k0, a, rfl, hk0, ha, es, hw, hg⟩ := wl_get (cA := cA) I L P (show (shp sh r).1 ≠ 99 by omega) h1
  rw [cel_22 hs] at hw
  have hset : (wl cA ad sh I L P).set k0 (a, .inl (cA 2, (shp sh (k0 + 1)).2, .inl (upd (I (k0 + 1)) i.toNatClampNeg (vp_nar .boolean v)))) = wl cA ad sh (uI I (k0 + 1) i.toNatClampNeg (vp_nar .boolean v)) L P := by
    subst ha
    refine wl_set hk0 ?_ (uI_ne) (fun _ _ => rfl) (fun _ _ => rfl)
    rw [← es, cel_22 hs, uI_row]
  show W p l e R s m args below meth c H locs cells slots Q (F0 m pc ls (.int v :: .int i :: va_rf (gr ad (k0 + 1)) :: st.map (rv ad)))
  rw [hg]
  refine va_zast hx hb hK h6 h7 h8 k0 2 hw rfl hi hd (fun H1 locs1 hP hD hS => ?_)
  rw [hset] at hP hD
  exact k ad H1 locs1 ls h1 h2 (h3.uI (by omega) _ _) h4.2.2.2 h5 hP hD hS
theorem q_last (C : qCB X own cc n d mc ms) {r : Nat} {i : Int32} {v : Int64} (hs : (shp sh r).1 = 21) (hi : vp_in i (shp sh r).2) (hd : decode cc pc = .ok (.lastore, 1)) (k : ∀ L1 : qML, L1 = uL L r i.toNatClampNeg v → qG X (pc + 1) lo st sh I L1 P cells slots) : qG X pc lo (.long v :: .int i :: .ref r :: st) sh I L P cells slots := by
  obtain ⟨p, l, e, R, s, m, args, below, meth, c, nL, D, cA, A, H0, Q, ad0⟩ := X
  obtain ⟨hx, hb, ⟨hml, hnl⟩, hown, hts, hK, hA, hlk, hE, hR⟩ := C
  intro ad H locs ls h1 h2 h3 h4 h5 h6 h7 h8
  have k := k _ rfl
  obtain ⟨k0, a, rfl, hk0, ha, es, hw, hg⟩ := wl_get (cA := cA) I L P (show (shp sh r).1 ≠ 99 by omega) h1
  rw [cel_21 hs] at hw
  have hset : (wl cA ad sh I L P).set k0 (a, .inl (cA 1, (shp sh (k0 + 1)).2, .inr (.inl (vp_updL (L (k0 + 1)) i.toNatClampNeg v)))) = wl cA ad sh I (uL L (k0 + 1) i.toNatClampNeg v) P := by
    subst ha
    refine wl_set hk0 ?_ (fun _ _ => rfl) (uL_ne) (fun _ _ => rfl)
    rw [← es, cel_21 hs, uL_row]
  show W p l e R s m args below meth c H locs cells slots Q (F0 m pc ls (.long v :: .int i :: va_rf (gr ad (k0 + 1)) :: st.map (rv ad)))
  rw [hg]
  refine va_last hx hb hK h6 h7 h8 k0 1 hw rfl hi hd (fun H1 locs1 hP hD hS => ?_)
  rw [hset] at hP hD
  exact k ad H1 locs1 ls h1 h2 (h3.uL (by omega) _ _) h4.2.2.2 h5 hP hD hS
theorem q_aald (C : qCB X own cc n d mc ms) {r : Nat} {i : Int32} (hs : (shp sh r).1 = 23) (hi : vp_in i (shp sh r).2) (hd : decode cc pc = .ok (.aaload, 1)) (k : qG X (pc + 1) lo (.ref (P r i.toNatClampNeg) :: st) sh I L P cells slots) : qG X pc lo (.int i :: .ref r :: st) sh I L P cells slots := by
  obtain ⟨p, l, e, R, s, m, args, below, meth, c, nL, D, cA, A, H0, Q, ad0⟩ := X
  obtain ⟨hx, hb, ⟨hml, hnl⟩, hown, hts, hK, hA, hlk, hE, hR⟩ := C
  intro ad H locs ls h1 h2 h3 h4 h5 h6 h7 h8
  obtain ⟨k0, a, rfl, hk0, ha, es, hw, hg⟩ := wl_get (cA := cA) I L P (show (shp sh r).1 ≠ 99 by omega) h1
  rw [cel_23 hs] at hw
  show W p l e R s m args below meth c H locs cells slots Q (F0 m pc ls (.int i :: va_rf (gr ad (k0 + 1)) :: st.map (rv ad)))
  rw [hg]
  exact va_aldq hx hb hK h6 k0 3 hw rfl hi hd (k ad H locs ls h1 h2 h3 ⟨h3.1 _ _, h4.2.2⟩ h5 h6 h7 h8)
theorem q_aaldJ (C : qCB X own cc n d mc ms) {r : Nat} {i : Int32} (hs : (shp sh r).1 = 24) (hi : vp_in i (shp sh r).2) (hd : decode cc pc = .ok (.aaload, 1)) (k : qG X (pc + 1) lo (.ref (P r i.toNatClampNeg) :: st) sh I L P cells slots) : qG X pc lo (.int i :: .ref r :: st) sh I L P cells slots := by
  obtain ⟨p, l, e, R, s, m, args, below, meth, c, nL, D, cA, A, H0, Q, ad0⟩ := X
  obtain ⟨hx, hb, ⟨hml, hnl⟩, hown, hts, hK, hA, hlk, hE, hR⟩ := C
  intro ad H locs ls h1 h2 h3 h4 h5 h6 h7 h8
  obtain ⟨k0, a, rfl, hk0, ha, es, hw, hg⟩ := wl_get (cA := cA) I L P (show (shp sh r).1 ≠ 99 by omega) h1
  rw [cel_24 hs] at hw
  show W p l e R s m args below meth c H locs cells slots Q (F0 m pc ls (.int i :: va_rf (gr ad (k0 + 1)) :: st.map (rv ad)))
  rw [hg]
  have hlt : i.toNatClampNeg < (shp sh (k0 + 1)).2 := Nat.not_le.mp fun q => hi (Or.inr q)
  exact W.aald (v := va_rf (gr ad (P (k0 + 1) i.toNatClampNeg))) (ty := .array .long) hx hb (h6 k0 _ hw) ((hK.2 4 _ rfl).1 (shp sh (k0 + 1)).2 (fun j => va_rf (gr ad (P (k0 + 1) j)))) rfl (fun q => by cases q) (by show ¬ (i < 0 ∨ (arrV _ _ _).slots.size ≤ _); rw [arrV_size]; exact hi) (by show (arrV _ _ _).slots[_]? = _; rw [arrV_read _ _ hlt]) rfl rfl hd (k ad H locs ls h1 h2 h3 ⟨h3.1 _ _, h4.2.2⟩ h5 h6 h7 h8)
theorem q_aast (C : qCB X own cc n d mc ms) {r v : Nat} {i : Int32} (hs : (shp sh r).1 = 23) (hi : vp_in i (shp sh r).2) (hv : (shp sh v).1 = 6) (hd : decode cc pc = .ok (.aastore, 1)) (k : ∀ P1 : qMP, P1 = uP P r i.toNatClampNeg v → qG X (pc + 1) lo st sh I L P1 cells slots) : qG X pc lo (.ref v :: .int i :: .ref r :: st) sh I L P cells slots := by
  obtain ⟨p, l, e, R, s, m, args, below, meth, c, nL, D, cA, A, H0, Q, ad0⟩ := X
  obtain ⟨hx, hb, ⟨hml, hnl⟩, hown, hts, hK, hA, hlk, hE, hR⟩ := C
  intro ad H locs ls h1 h2 h3 h4 h5 h6 h7 h8
  have k := k _ rfl
  obtain ⟨k0, a, rfl, hk0, ha, es, hw, hg⟩ := wl_get (cA := cA) I L P (show (shp sh r).1 ≠ 99 by omega) h1
  rw [cel_23 hs] at hw
  obtain ⟨kv, av, rfl, hkv, hav, esv, hwv, hgv⟩ := wl_get (cA := cA) I L P (show (shp sh v).1 ≠ 99 by omega) h1
  rw [cel_obj (show (shp sh (kv + 1)).1 < 20 by omega), hv] at hwv
  have hset : (wl cA ad sh I L P).set k0 (a, .inl (cA 3, (shp sh (k0 + 1)).2, .inr (.inr (.inr (.inr (va_up (fun j => gr ad (P (k0 + 1) j)) i.toNatClampNeg (some av))))))) = wl cA ad sh I L (uP P (k0 + 1) i.toNatClampNeg (kv + 1)) := by
    subst ha
    refine wl_set hk0 ?_ (fun _ _ => rfl) (fun _ _ => rfl) uP_ne
    rw [← es, cel_23 hs]
    have e : va_up (fun j => gr ad (P (k0 + 1) j)) i.toNatClampNeg (some av) = fun j => gr ad (uP P (k0 + 1) i.toNatClampNeg (kv + 1) (k0 + 1) j) := by
      funext j
      by_cases hj : j = i.toNatClampNeg
      · simp [va_up, uP, hj, hgv]
      · simp [va_up, uP, hj]
    rw [e]
  show W p l e R s m args below meth c H locs cells slots Q (F0 m pc ls (va_rf (gr ad (kv + 1)) :: .int i :: va_rf (gr ad (k0 + 1)) :: st.map (rv ad)))
  rw [hg, hgv]
  refine va_astq hx hb hK h6 h7 h8 k0 3 kv 6 hw rfl hwv rfl hi hd (fun H1 locs1 hP hD hS => ?_)
  rw [hset] at hP hD
  exact k ad H1 locs1 ls h1 h2 (h3.uP (by omega) _ h4.1) h4.2.2.2 h5 hP hD hS
theorem q_alen20 (C : qCB X own cc n d mc ms) {r : Nat} (hs : (shp sh r).1 = 20) (hd : decode cc pc = .ok (.arraylength, 1)) (k : qG X (pc + 1) lo (.int (nI (shp sh r).2) :: st) sh I L P cells slots) : qG X pc lo (.ref r :: st) sh I L P cells slots := by
  obtain ⟨p, l, e, R, s, m, args, below, meth, c, nL, D, cA, A, H0, Q, ad0⟩ := X
  obtain ⟨hx, hb, ⟨hml, hnl⟩, hown, hts, hK, hA, hlk, hE, hR⟩ := C
  intro ad H locs ls h1 h2 h3 h4 h5 h6 h7 h8
  obtain ⟨k0, a, rfl, hk0, ha, es, hw, hg⟩ := wl_get (cA := cA) I L P (show (shp sh r).1 ≠ 99 by omega) h1
  rw [cel_20 hs] at hw
  show W p l e R s m args below meth c H locs cells slots Q (F0 m pc ls (va_rf (gr ad (k0 + 1)) :: st.map (rv ad)))
  rw [hg]
  exact va_alen hx hb hK h6 k0 0 hw rfl rfl hd (k ad H locs ls h1 h2 h3 ⟨trivial, h4.2⟩ h5 h6 h7 h8)
theorem q_alen21 (C : qCB X own cc n d mc ms) {r : Nat} (hs : (shp sh r).1 = 21) (hd : decode cc pc = .ok (.arraylength, 1)) (k : qG X (pc + 1) lo (.int (nI (shp sh r).2) :: st) sh I L P cells slots) : qG X pc lo (.ref r :: st) sh I L P cells slots := by
  obtain ⟨p, l, e, R, s, m, args, below, meth, c, nL, D, cA, A, H0, Q, ad0⟩ := X
  obtain ⟨hx, hb, ⟨hml, hnl⟩, hown, hts, hK, hA, hlk, hE, hR⟩ := C
  intro ad H locs ls h1 h2 h3 h4 h5 h6 h7 h8
  obtain ⟨k0, a, rfl, hk0, ha, es, hw, hg⟩ := wl_get (cA := cA) I L P (show (shp sh r).1 ≠ 99 by omega) h1
  rw [cel_21 hs] at hw
  show W p l e R s m args below meth c H locs cells slots Q (F0 m pc ls (va_rf (gr ad (k0 + 1)) :: st.map (rv ad)))
  rw [hg]
  exact va_alen hx hb hK h6 k0 1 hw rfl rfl hd (k ad H locs ls h1 h2 h3 ⟨trivial, h4.2⟩ h5 h6 h7 h8)
theorem q_alen23 (C : qCB X own cc n d mc ms) {r : Nat} (hs : (shp sh r).1 = 23) (hd : decode cc pc = .ok (.arraylength, 1)) (k : qG X (pc + 1) lo (.int (nI (shp sh r).2) :: st) sh I L P cells slots) : qG X pc lo (.ref r :: st) sh I L P cells slots := by
  obtain ⟨p, l, e, R, s, m, args, below, meth, c, nL, D, cA, A, H0, Q, ad0⟩ := X
  obtain ⟨hx, hb, ⟨hml, hnl⟩, hown, hts, hK, hA, hlk, hE, hR⟩ := C
  intro ad H locs ls h1 h2 h3 h4 h5 h6 h7 h8
  obtain ⟨k0, a, rfl, hk0, ha, es, hw, hg⟩ := wl_get (cA := cA) I L P (show (shp sh r).1 ≠ 99 by omega) h1
  rw [cel_23 hs] at hw
  show W p l e R s m args below meth c H locs cells slots Q (F0 m pc ls (va_rf (gr ad (k0 + 1)) :: st.map (rv ad)))
  rw [hg]
  exact va_alen hx hb hK h6 k0 3 hw rfl rfl hd (k ad H locs ls h1 h2 h3 ⟨trivial, h4.2⟩ h5 h6 h7 h8)
theorem q_alen24 (C : qCB X own cc n d mc ms) {r : Nat} (hs : (shp sh r).1 = 24) (hd : decode cc pc = .ok (.arraylength, 1)) (k : qG X (pc + 1) lo (.int (nI (shp sh r).2) :: st) sh I L P cells slots) : qG X pc lo (.ref r :: st) sh I L P cells slots := by
  obtain ⟨p, l, e, R, s, m, args, below, meth, c, nL, D, cA, A, H0, Q, ad0⟩ := X
  obtain ⟨hx, hb, ⟨hml, hnl⟩, hown, hts, hK, hA, hlk, hE, hR⟩ := C
  intro ad H locs ls h1 h2 h3 h4 h5 h6 h7 h8
  obtain ⟨k0, a, rfl, hk0, ha, es, hw, hg⟩ := wl_get (cA := cA) I L P (show (shp sh r).1 ≠ 99 by omega) h1
  rw [cel_24 hs] at hw
  show W p l e R s m args below meth c H locs cells slots Q (F0 m pc ls (va_rf (gr ad (k0 + 1)) :: st.map (rv ad)))
  rw [hg]
  exact va_alen hx hb hK h6 k0 4 hw rfl rfl hd (k ad H locs ls h1 h2 h3 ⟨trivial, h4.2⟩ h5 h6 h7 h8)
theorem q_putPF (C : qCB X own cc n d mc ms) {idx ci kk r v : Nat} (hf : FLg own idx ci kk true) (hin0 : (qMn X).name = "<init>") (ho : ∀ q, vwCl[ci]? = some q → q.1 = own) (hq : ∀ T, vwCl[ci]?.map (fun q => q.2.1) = some T → ∃ ty, parseFieldDescriptor (T kk).2.2.1 = some ty ∧ ty.isReference = true) (ht : (FT ci)[kk]? = some 2) (hs : (shp sh r).1 = ci) (hvz : v ≠ 0) (hd : decode cc pc = .ok (.putfield idx, 3)) (k : ∀ P1 : qMP, P1 = uP P r kk v → qG X (pc + 3) lo st sh I L P1 cells slots) : qG X pc lo (.ref v :: .ref r :: st) sh I L P cells slots := by
  obtain ⟨p, l, e, R, s, m, args, below, meth, c, nL, D, cA, A, H0, Q, ad0⟩ := X
  obtain ⟨hx, hb, ⟨hml, hnl⟩, hown, hts, hK, hA, hlk, hE, hR⟩ := C
  intro ad H locs ls h1 h2 h3 h4 h5 h6 h7 h8
  have k := k _ rfl
  have hin2 : meth.name = "<init>" := hin0
  obtain ⟨C', T, N, ty, ⟨hc, hin, hty, hnm, hlen, h20, hdf⟩, hk, hC, hfin, hl⟩ := hf
  have hCo : C' = own := ho _ hc
  obtain ⟨k0, a, rfl, hk0, ha, es, hw, hg⟩ := wl_get (cA := cA) I L P (show (shp sh r).1 ≠ 99 by omega) h1
  rw [cel_obj (show (shp sh (k0 + 1)).1 < 20 by omega), hs] at hw
  have he : vwCl[ci]?.map (fun q => q.2.1) = some T := by rw [hc]; rfl
  obtain ⟨ty0, hd0, hrt⟩ := hq T he
  have hvl : v ≤ sh.length := h4.1
  obtain ⟨av, hgv⟩ : ∃ av, gr ad v = some av := by
    match v, hvz, hvl with
    | w + 1, _, hw => exact ⟨ad[w]'(by omega), by show ad[w]? = _; exact List.getElem?_eq_getElem (by omega)⟩
  have hnar : narrow ty0 (.ref av) = .ref av ∧ fits ty0 (.ref av) = true := by
    cases ty0 <;> first | (cases hrt; done) | exact ⟨rfl, rfl⟩
  show W p l e R s m args below meth c H locs cells slots Q (F0 m pc ls (va_rf (gr ad v) :: va_rf (gr ad (k0 + 1)) :: st.map (rv ad)))
  rw [hg, hgv]
  have hset : (wl cA ad sh I L P).set k0 (a, .inr (ci, (flds ad I L P (k0 + 1) (FT ci)).set kk (va_rf (some av)))) = wl cA ad sh I L (uP P (k0 + 1) kk v) := by
    subst ha
    refine wl_set hk0 ?_ (fun _ _ => rfl) (fun _ _ => rfl) uP_ne
    rw [← es, cel_obj (show (shp sh (k0 + 1)).1 < 20 by omega), hs]
    exact congrArg (fun z => (.inr (ci, z) : va_E)) (flds_set ht (by simp [fv, uP, hgv, va_rf]) (fun j hj => by simp [uP, hj]))
  refine va_putF hx hb hts hin ty hty hnm hown hK h6 h7 h8 k0 hw hc kk hk (hts _ hl) (fun x hx => by rw [hC] at hx; exact hx) hfin hin2 (hC.trans hCo) hd0 hnar.1 hnar.2 (by rw [flds_len]; omega) hd (fun H1 locs1 hP hD hS => ?_)
  rw [hset] at hP hD
  exact k ad H1 locs1 ls h1 h2 (h3.uP (by omega) _ hvl) h4.2.2 h5 hP hD hS
theorem q_copyI (C : qCB X own cc n (d + 1) mc ms) {idx x y : Nat} {sp dp z : Int32} (hl : Cond.methodLink own idx arraycopyName ∈ TT) (hx0 : (shp sh x).1 = 20) (hy0 : (shp sh y).1 = 20) (hz1 : ¬ sp < 0) (hz2 : ¬ dp < 0) (hz3 : ¬ z < 0) (hz4 : sp.toNatClampNeg + z.toNatClampNeg ≤ (shp sh x).2) (hz5 : dp.toNatClampNeg + z.toNatClampNeg ≤ (shp sh y).2) (hst : (st.map fun v => v.category).sum ≤ 8) (hd : decode cc pc = .ok (.invokestatic idx, 3)) (k : ∀ I1 : qMI, I1 = cI I x y sp.toNatClampNeg dp.toNatClampNeg z.toNatClampNeg → qG X (pc + 3) lo st sh I1 L P cells slots) : qG X pc lo (.int z :: .int dp :: .ref y :: .int sp :: .ref x :: st) sh I L P cells slots := by
  obtain ⟨p, l, e, R, s, m, args, below, meth, c, nL, D, cA, A, H0, Q, ad0⟩ := X
  obtain ⟨hx, hb, ⟨hml, hnl⟩, hown, hts, hK, hA, hlk, hE, hR⟩ := C
  intro ad H locs ls h1 h2 h3 h4 h5 h6 h7 h8
  have k := k _ rfl
  have hnat : nativeFrameWords "java/lang/System" "arraycopy" 5 + 11 ≤ 32 := by decide +kernel
  obtain ⟨k0, a, rfl, hk0, ha, es, hw, hg⟩ := wl_get (cA := cA) I L P (show (shp sh x).1 ≠ 99 by omega) h1
  obtain ⟨k1, a1, rfl, hk1, ha1, es1, hw1, hg1⟩ := wl_get (cA := cA) I L P (show (shp sh y).1 ≠ 99 by omega) h1
  rw [cel_20 hx0] at hw
  rw [cel_20 hy0] at hw1
  have hset : (wl cA ad sh I L P).set k1 (a1, .inl (cA 0, (shp sh (k1 + 1)).2, .inl (va_cpy (I (k0 + 1)) (I (k1 + 1)) sp.toNatClampNeg dp.toNatClampNeg z.toNatClampNeg))) = wl cA ad sh (cI I (k0 + 1) (k1 + 1) sp.toNatClampNeg dp.toNatClampNeg z.toNatClampNeg) L P := by
    subst ha1
    refine wl_set hk1 ?_ (cI_ne) (fun _ _ => rfl) (fun _ _ => rfl)
    rw [← es1, cel_20 hy0]
    refine congrArg (fun z9 => (.inl z9 : va_E)) (congrArg (Prod.mk _) (congrArg (Prod.mk _) ?_))
    exact congrArg (fun z9 => (.inl z9 : (Nat → Int32) ⊕ (Nat → Int64) ⊕ (Nat → UInt32) ⊕ (Nat → UInt64) ⊕ (Nat → Option Nat))) (funext fun b => (if_pos rfl).symm : _ = cI I (k0 + 1) (k1 + 1) sp.toNatClampNeg dp.toNatClampNeg z.toNatClampNeg (k1 + 1))
  show W p l e R s m args below meth c H locs cells slots Q (F0 m pc ls (.int z :: .int dp :: va_rf (gr ad (k1 + 1)) :: .int sp :: va_rf (gr ad (k0 + 1)) :: st.map (rv ad)))
  rw [hg, hg1]
  refine va_copyi (ty := .int) hx hb (by rw [hml]; exact h5.1.symm) hown (hts _ hl) (hts _ nat_arraycopyName) (hts _ sm_arraycopyName) (hts _ ini_RJ10) hK h6 h7 h8 k0 k1 0 0 hw hw1 rfl rfl rfl hz1 hz2 hz3 hz4 hz5 (fun _ _ => rfl) (by omega) (by rw [rv_cats]; omega) hd (fun H1 locs1 hP hD hS => ?_)
  rw [hset] at hP hD
  exact k ad H1 locs1 ls h1 h2 (h3.cI (by omega) _ _ _ _) h4.2.2.2.2.2 h5 hP hD hS
theorem q_copyL (C : qCB X own cc n (d + 1) mc ms) {idx x y : Nat} {sp dp z : Int32} (hl : Cond.methodLink own idx arraycopyName ∈ TT) (hx0 : (shp sh x).1 = 21) (hy0 : (shp sh y).1 = 21) (hz1 : ¬ sp < 0) (hz2 : ¬ dp < 0) (hz3 : ¬ z < 0) (hz4 : sp.toNatClampNeg + z.toNatClampNeg ≤ (shp sh x).2) (hz5 : dp.toNatClampNeg + z.toNatClampNeg ≤ (shp sh y).2) (hst : (st.map fun v => v.category).sum ≤ 8) (hd : decode cc pc = .ok (.invokestatic idx, 3)) (k : ∀ L1 : qML, L1 = cLo L x y sp.toNatClampNeg dp.toNatClampNeg z.toNatClampNeg → qG X (pc + 3) lo st sh I L1 P cells slots) : qG X pc lo (.int z :: .int dp :: .ref y :: .int sp :: .ref x :: st) sh I L P cells slots := by
  obtain ⟨p, l, e, R, s, m, args, below, meth, c, nL, D, cA, A, H0, Q, ad0⟩ := X
  obtain ⟨hx, hb, ⟨hml, hnl⟩, hown, hts, hK, hA, hlk, hE, hR⟩ := C
  intro ad H locs ls h1 h2 h3 h4 h5 h6 h7 h8
  have k := k _ rfl
  have hnat : nativeFrameWords "java/lang/System" "arraycopy" 5 + 11 ≤ 32 := by decide +kernel
  obtain ⟨k0, a, rfl, hk0, ha, es, hw, hg⟩ := wl_get (cA := cA) I L P (show (shp sh x).1 ≠ 99 by omega) h1
  obtain ⟨k1, a1, rfl, hk1, ha1, es1, hw1, hg1⟩ := wl_get (cA := cA) I L P (show (shp sh y).1 ≠ 99 by omega) h1
  rw [cel_21 hx0] at hw
  rw [cel_21 hy0] at hw1
  have hset : (wl cA ad sh I L P).set k1 (a1, .inl (cA 1, (shp sh (k1 + 1)).2, .inr (.inl (va_cpy (L (k0 + 1)) (L (k1 + 1)) sp.toNatClampNeg dp.toNatClampNeg z.toNatClampNeg)))) = wl cA ad sh I (cLo L (k0 + 1) (k1 + 1) sp.toNatClampNeg dp.toNatClampNeg z.toNatClampNeg) P := by
    subst ha1
    refine wl_set hk1 ?_ (fun _ _ => rfl) (cLo_ne) (fun _ _ => rfl)
    rw [← es1, cel_21 hy0]
    refine congrArg (fun z9 => (.inl z9 : va_E)) (congrArg (Prod.mk _) (congrArg (Prod.mk _) ?_))
    exact congrArg (fun z9 => (.inr (.inl z9) : (Nat → Int32) ⊕ (Nat → Int64) ⊕ (Nat → UInt32) ⊕ (Nat → UInt64) ⊕ (Nat → Option Nat))) (funext fun b => (if_pos rfl).symm : _ = cLo L (k0 + 1) (k1 + 1) sp.toNatClampNeg dp.toNatClampNeg z.toNatClampNeg (k1 + 1))
  show W p l e R s m args below meth c H locs cells slots Q (F0 m pc ls (.int z :: .int dp :: va_rf (gr ad (k1 + 1)) :: .int sp :: va_rf (gr ad (k0 + 1)) :: st.map (rv ad)))
  rw [hg, hg1]
  refine va_copyl (ty := .long) hx hb (by rw [hml]; exact h5.1.symm) hown (hts _ hl) (hts _ nat_arraycopyName) (hts _ sm_arraycopyName) (hts _ ini_RJ10) hK h6 h7 h8 k0 k1 1 1 hw hw1 rfl rfl rfl hz1 hz2 hz3 hz4 hz5 (fun _ _ => rfl) (by omega) (by rw [rv_cats]; omega) hd (fun H1 locs1 hP hD hS => ?_)
  rw [hset] at hP hD
  exact k ad H1 locs1 ls h1 h2 (h3.cLo (by omega) _ _ _ _) h4.2.2.2.2.2 h5 hP hD hS
theorem q_mmax (C : qCB X own cc n (d + 1) mc ms) (hcs : cells ≤ mc ∧ slots ≤ ms) {idx : Nat} {x y : Int32} (hl : Cond.methodLink own idx yJ9_max_7cf53 ∈ TT) (hst : (st.map fun v => v.category).sum ≤ 8) (hd : decode cc pc = .ok (.invokestatic idx, 3)) (k : qG X (pc + 3) lo (.int (if x < y then y else x) :: st) sh I L P cells slots) : qG X pc lo (.int y :: .int x :: st) sh I L P cells slots := by
  obtain ⟨p, l, e, R, s, m, args, below, meth, c, nL, D, cA, A, H0, Q, ad0⟩ := X
  obtain ⟨hx, hb, ⟨hml, hnl⟩, hown, hts, hK, hA, hlk, hE, hR⟩ := C
  intro ad H locs ls h1 h2 h3 h4 h5 h6 h7 h8
  show W p l e R s m args below meth c H locs cells slots Q (F0 m pc ls (.int y :: .int x :: st.map (rv ad)))
  exact va_mmax hx hb (by rw [hml]; exact h5.1.symm) hown (hts _ hl) (hts _ sm_yJ9_max_7cf53) (hts _ ini_RJ9) (hts _ code_yJ9_max_7cf53) (by omega) (by rw [rv_cats]; omega) (by omega) (by omega) hd (k ad H locs ls h1 h2 h3 ⟨trivial, h4.2.2⟩ h5 h6 h7 h8)
theorem q_mmin (C : qCB X own cc n (d + 1) mc ms) (hcs : cells ≤ mc ∧ slots ≤ ms) {idx : Nat} {x y : Int32} (hl : Cond.methodLink own idx yJ9_min_7cf53 ∈ TT) (hst : (st.map fun v => v.category).sum ≤ 8) (hd : decode cc pc = .ok (.invokestatic idx, 3)) (k : qG X (pc + 3) lo (.int (if y < x then y else x) :: st) sh I L P cells slots) : qG X pc lo (.int y :: .int x :: st) sh I L P cells slots := by
  obtain ⟨p, l, e, R, s, m, args, below, meth, c, nL, D, cA, A, H0, Q, ad0⟩ := X
  obtain ⟨hx, hb, ⟨hml, hnl⟩, hown, hts, hK, hA, hlk, hE, hR⟩ := C
  intro ad H locs ls h1 h2 h3 h4 h5 h6 h7 h8
  show W p l e R s m args below meth c H locs cells slots Q (F0 m pc ls (.int y :: .int x :: st.map (rv ad)))
  exact va_mmin hx hb (by rw [hml]; exact h5.1.symm) hown (hts _ hl) (hts _ sm_yJ9_min_7cf53) (hts _ ini_RJ9) (hts _ code_yJ9_min_7cf53) (by omega) (by rw [rv_cats]; omega) (by omega) (by omega) hd (k ad H locs ls h1 h2 h3 ⟨trivial, h4.2.2⟩ h5 h6 h7 h8)
theorem q_iret (C : qCB X own cc n d mc ms) {K : Option Value → List qSh → qMI → qML → qMP → Prop} (hk : qCK X (some .int) cells slots K) {x : Int32} (hd : decode cc pc = .ok (.ireturn, 1)) (k : K (some (.int x)) sh I L P) : qG X pc lo [.int x] sh I L P cells slots := by
  obtain ⟨p, l, e, R, s, m, args, below, meth, c, nL, D, cA, A, H0, Q, ad0⟩ := X
  obtain ⟨hx, hb, ⟨hml, hnl⟩, hown, hts, hK, hA, hlk, hE, hR⟩ := C
  obtain ⟨hr, rfl, rfl⟩ := hk
  intro ad H locs ls h1 h2 h3 h4 h5 h6 h7 h8
  exact W.iret hx hb hr (fun t ht hW => ⟨⟨_, ad, sh, I, L, P, rfl, k, h1, h2, h3, Or.inr (Or.inl ⟨_, rfl⟩), by rw [ht]; exact h6, h7⟩, h8.F ht⟩) h8.2.2 hd hlk
theorem q_lret (C : qCB X own cc n d mc ms) {K : Option Value → List qSh → qMI → qML → qMP → Prop} (hk : qCK X (some .long) cells slots K) {x : Int64} (hd : decode cc pc = .ok (.lreturn, 1)) (k : K (some (.long x)) sh I L P) : qG X pc lo [.long x] sh I L P cells slots := by
  obtain ⟨p, l, e, R, s, m, args, below, meth, c, nL, D, cA, A, H0, Q, ad0⟩ := X
  obtain ⟨hx, hb, ⟨hml, hnl⟩, hown, hts, hK, hA, hlk, hE, hR⟩ := C
  obtain ⟨hr, rfl, rfl⟩ := hk
  intro ad H locs ls h1 h2 h3 h4 h5 h6 h7 h8
  exact W.lret hx hb hr (fun t ht hW => ⟨⟨_, ad, sh, I, L, P, rfl, k, h1, h2, h3, Or.inr (Or.inr ⟨_, rfl⟩), by rw [ht]; exact h6, h7⟩, h8.F ht⟩) h8.2.2 hd hlk
theorem q_zret (C : qCB X own cc n d mc ms) {K : Option Value → List qSh → qMI → qML → qMP → Prop} (hk : qCK X (some .boolean) cells slots K) {x : Int32} (hx01 : x = 0 ∨ x = 1) (hd : decode cc pc = .ok (.ireturn, 1)) (k : K (some (.int x)) sh I L P) : qG X pc lo [.int x] sh I L P cells slots := by
  obtain ⟨p, l, e, R, s, m, args, below, meth, c, nL, D, cA, A, H0, Q, ad0⟩ := X
  obtain ⟨hx, hb, ⟨hml, hnl⟩, hown, hts, hK, hA, hlk, hE, hR⟩ := C
  obtain ⟨hr, rfl, rfl⟩ := hk
  intro ad H locs ls h1 h2 h3 h4 h5 h6 h7 h8
  exact W.zret hx hb hr (by rcases hx01 with rfl | rfl <;> rfl) (fun t ht hW => ⟨⟨_, ad, sh, I, L, P, rfl, k, h1, h2, h3, Or.inr (Or.inl ⟨_, rfl⟩), by rw [ht]; exact h6, h7⟩, h8.F ht⟩) h8.2.2 hd hlk
theorem q_vret (C : qCB X own cc n d mc ms) {K : Option Value → List qSh → qMI → qML → qMP → Prop} (hk : qCK X none cells slots K) (hd : decode cc pc = .ok (.return_, 1)) (k : K none sh I L P) : qG X pc lo [] sh I L P cells slots := by
  obtain ⟨p, l, e, R, s, m, args, below, meth, c, nL, D, cA, A, H0, Q, ad0⟩ := X
  obtain ⟨hx, hb, ⟨hml, hnl⟩, hown, hts, hK, hA, hlk, hE, hR⟩ := C
  obtain ⟨hr, rfl, rfl⟩ := hk
  intro ad H locs ls h1 h2 h3 h4 h5 h6 h7 h8
  exact W.vret hx hb hr (fun t ht hW => ⟨⟨_, ad, sh, I, L, P, rfl, k, h1, h2, h3, Or.inl rfl, by rw [ht]; exact h6, h7⟩, h8.F ht⟩) h8.2.2 hd hlk
end QA
