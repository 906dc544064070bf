/-! ===== the context of a walk, and what a state is worth ===== -/
abbrev qMR : Type := MethodName × ByteArray × Nat × Option FieldType
def qNW : List (String × Nat × MethodName × String) := [(RX9, 9, yX6_init, "BracketDraws"), (RX6, 9, yX2_init, "BracketDraws"), (RX6, 18, yX1_init, "BracketDraws"), (RX3, 15, yX6_init, "BracketDraws"), (RX9, 28, yX8_init, "BracketDraws"), (RX8, 11, yX2_init, "BracketDraws"), (RX8, 24, yX7_init, "BracketDraws"), (RX9, 35, yX0_init, "BracketDraws"), (RX0, 11, yX5_init, "BracketDraws"), (RX0, 20, yX2_init, "BracketDraws"), (RX9, 45, yX4_init, "BracketDraws"), (RX9, 52, yX2_init, "BracketDraws"), (RX9, 59, yX1_init, "BracketDraws")]
theorem nw_RX9_9 : (RX9, 9, yX6_init, "BracketDraws") ∈ qNW := List.mem_of_getElem? (i := 0) rfl
theorem nw_RX6_9 : (RX6, 9, yX2_init, "BracketDraws") ∈ qNW := List.mem_of_getElem? (i := 1) rfl
theorem nw_RX6_18 : (RX6, 18, yX1_init, "BracketDraws") ∈ qNW := List.mem_of_getElem? (i := 2) rfl
theorem nw_RX3_15 : (RX3, 15, yX6_init, "BracketDraws") ∈ qNW := List.mem_of_getElem? (i := 3) rfl
theorem nw_RX9_28 : (RX9, 28, yX8_init, "BracketDraws") ∈ qNW := List.mem_of_getElem? (i := 4) rfl
theorem nw_RX8_11 : (RX8, 11, yX2_init, "BracketDraws") ∈ qNW := List.mem_of_getElem? (i := 5) rfl
theorem nw_RX8_24 : (RX8, 24, yX7_init, "BracketDraws") ∈ qNW := List.mem_of_getElem? (i := 6) rfl
theorem nw_RX9_35 : (RX9, 35, yX0_init, "BracketDraws") ∈ qNW := List.mem_of_getElem? (i := 7) rfl
theorem nw_RX0_11 : (RX0, 11, yX5_init, "BracketDraws") ∈ qNW := List.mem_of_getElem? (i := 8) rfl
theorem nw_RX0_20 : (RX0, 20, yX2_init, "BracketDraws") ∈ qNW := List.mem_of_getElem? (i := 9) rfl
theorem nw_RX9_45 : (RX9, 45, yX4_init, "BracketDraws") ∈ qNW := List.mem_of_getElem? (i := 10) rfl
theorem nw_RX9_52 : (RX9, 52, yX2_init, "BracketDraws") ∈ qNW := List.mem_of_getElem? (i := 11) rfl
theorem nw_RX9_59 : (RX9, 59, yX1_init, "BracketDraws") ∈ qNW := List.mem_of_getElem? (i := 12) rfl
theorem qNW_tbl : ∀ q ∈ qNW, Cond.methodLinkNest q.1 q.2.1 q.2.2.1 q.2.2.2 ∈ lw_tbl := by
  intro q hq
  simp only [qNW, List.mem_cons, List.not_mem_nil, or_false] at hq
  rcases hq with rfl | rfl | rfl | rfl | rfl | rfl | rfl | rfl | rfl | rfl | rfl | rfl | rfl
  · exact mln_RX9_9
  · exact mln_RX6_9
  · exact mln_RX6_18
  · exact mln_RX3_15
  · exact mln_RX9_28
  · exact mln_RX8_11
  · exact mln_RX8_24
  · exact mln_RX9_35
  · exact mln_RX0_11
  · exact mln_RX0_20
  · exact mln_RX9_45
  · exact mln_RX9_52
  · exact mln_RX9_59
def qE (U : State) : Prop := va_AO RX6 U ∧ (Cond.arrayOver (.array .long)).before #[] U = true ∧ ∀ q ∈ qNW, va_Nw (.methodLinkNest q.1 q.2.1 q.2.2.1 q.2.2.2) U
theorem qE.warm {s U : State} (hW : s.WarmedH U.vm) (h : qE s) : qE U := ⟨h.1.moved hW.alike, over_moved hW.alike h.2.1, fun q hq => va_Nw.warmM hW (h.2.2 q hq)⟩
theorem qE.vm {s U : State} (hv : s.vm = U.vm) (h : qE s) : qE U :=
  have ha : s.vm.Alike U.vm := by rw [hv]; exact Vm.Alike.refl _
  ⟨h.1.moved ha, over_moved ha h.2.1, fun q hq => va_tabs rfl hv (h.2.2 q hq)⟩
abbrev qCT : Type := Program × Launch × Env × Room × State × MethodId × Array Value × List Frame × Method × Code × Nat × va_G × (Nat → ClassId) × (Nat → Prop) × Heap × (State → Prop) × List Nat
def qG (X : qCT) (pc : Nat) (lo : List (Option Value)) (st : List Value) (sh : List qSh) (I : qMI) (L : qML) (P : qMP) (cells slots : Nat) : Prop := match X with
  | (p, l, e, R, s, m, args, below, meth, c, nL, D, cA, A, H0, Q, ad0) => ∀ (ad : List Nat) (H : Heap) (locs : List Loc) (ls : Array Slot), ad.length = sh.length → ad0 <+: ad → INV sh I L P → okl sh.length st → LO ls nL ad sh.length lo → va_P D vwCl (wl cA ad sh I L P) H → va_D A (wl cA ad sh I L P) → va_S A H0 H locs → W p l e R s m args below meth c H locs cells slots Q (F0 m pc ls (st.map (rv ad)))
/-- what stays the same in a method's body: own: its class; cc: its code; n: its locals; d: how many calls may still stand open, mc, ms: its cells and slots -/
def qCB (X : qCT) (own : String) (cc : ByteArray) (n d mc ms : Nat) : Prop := match X with
  | (p, _, _, R, s, m, args, _, meth, c, nL, D, cA, A, H0, _, _) => p.tables.exec = Jvm.exec ∧ c.code = cc ∧ (c.maxLocals = nL ∧ nL = n) ∧ s.vm.findClass own = some m.cls ∧ (∀ w ∈ TT, w.before args s = true) ∧ va_K D vwCl (TY cA) s ∧ (∀ q, H0.size ≤ q → A q) ∧ meth.locks = false ∧ qE s ∧ (d ≤ R.frames ∧ 40 * d ≤ R.locals ∧ mc ≤ R.cells ∧ ms ≤ R.slots)
def qRm (d mc ms : Nat) : Room := { frames := d, cells := mc, slots := ms, locals := 40 * d }
def qAa (cA : Nat → ClassId) (ad : List Nat) (sh : List qSh) (I : qMI) (L : qML) (P : qMP) (sz : Nat) : Nat → Prop := va_A (wl cA ad sh I L P) sz
def qPc (D : va_G) (cA : Nat → ClassId) (ad : List Nat) (sh : List qSh) (I : qMI) (L : qML) (P : qMP) (sz : Nat) (as : List Value) : Array Value → State → Prop :=
  va_Pc (as.map (rv ad)) (fun U => U.heap.size = sz ∧ ad.length = sh.length ∧ INV sh I L P ∧ okl sh.length as ∧ va_P D vwCl (wl cA ad sh I L P) U.heap ∧ va_K D vwCl (TY cA) U ∧ va_D (fun _ => True) (wl cA ad sh I L P) ∧ qE U)
def qQc (D : va_G) (cA : Nat → ClassId) (A : Nat → Prop) (ad0 : List Nat) (K : Option Value → List qSh → qMI → qML → qMP → Prop) : Array Value → State → Outcome → State → Prop := fun _ st oc t =>
  (∃ (v : Option Value) (ad : List Nat) (sh : List qSh) (I : qMI) (L : qML) (P : qMP), oc = .returned v ∧ K v sh I L P ∧ ad.length = sh.length ∧ ad0 <+: ad ∧ INV sh I L P ∧ (v = none ∨ (∃ x, v = some (.int x)) ∨ ∃ x, v = some (.long x)) ∧ va_P D vwCl (wl cA ad sh I L P) t.heap ∧ va_D A (wl cA ad sh I L P)) ∧ va_F A st t
/-- a method's contract over the flat store -/
def SqN (d mc ms : Nat) (M : qMR) (sh : List qSh) (as : List Value) (I : qMI) (L : qML) (P : qMP) (K : Option Value → List qSh → qMI → qML → qMP → Prop) : Prop :=
  ∀ (l : Launch) (D : va_G) (cA : Nat → ClassId) (ad : List Nat) (sz : Nat), Met l M.1 (.code M.1 M.2.1 M.2.2.1 M.2.2.2 :: TT) (qRm d mc ms) (qPc D cA ad sh I L P sz as) (qQc D cA (qAa cA ad sh I L P sz) ad K) mc ms (qAa cA ad sh I L P sz)
def Sq (d : Nat) (M : qMR) (sh : List qSh) (as : List Value) (I : qMI) (L : qML) (P : qMP) (K : Option Value → qMI → qML → qMP → Prop) : Prop := SqN d 0 0 M sh as I L P (fun v sh' I' L' P' => sh' = sh ∧ K v I' L' P')
def KI (f : Int32 → qMI → qML → qMP → Prop) : Option Value → qMI → qML → qMP → Prop := fun v I L P => match v with
  | some (.int x) => f x I L P
  | _ => False
def KL (f : Int64 → qMI → qML → qMP → Prop) : Option Value → qMI → qML → qMP → Prop := fun v I L P => match v with
  | some (.long x) => f x I L P
  | _ => False
def KV (f : qMI → qML → qMP → Prop) : Option Value → qMI → qML → qMP → Prop := fun v I L P => match v with
  | none => f I L P
  | _ => False
def qCK (X : qCT) (rt : Option FieldType) (mc ms : Nat) (K : Option Value → List qSh → qMI → qML → qMP → Prop) : Prop := match X with
  | (_, _, _, _, s, _, args, below, meth, _, _, D, cA, A, H0, Q, ad0) => meth.sig.returnType = rt ∧ Q = MQ below (qQc D cA A ad0 K) args s mc ms A ∧ H0 = s.heap
theorem cel_obj {cA : Nat → ClassId} {ad : List Nat} {I : qMI} {L : qML} {P : qMP} {r : Nat} {s : qSh} (h : s.1 < 20) : cel cA ad I L P r s = .inr (s.1, flds ad I L P r (FT s.1)) := by
  unfold cel
  rw [if_neg (by omega), if_neg (by omega), if_neg (by omega), if_neg (by omega), if_neg (by omega)]
theorem cel_20 {cA : Nat → ClassId} {ad : List Nat} {I : qMI} {L : qML} {P : qMP} {r : Nat} {s : qSh} (h : s.1 = 20) : cel cA ad I L P r s = .inl (cA 0, s.2, .inl (I r)) := by simp [cel, h]
theorem cel_21 {cA : Nat → ClassId} {ad : List Nat} {I : qMI} {L : qML} {P : qMP} {r : Nat} {s : qSh} (h : s.1 = 21) : cel cA ad I L P r s = .inl (cA 1, s.2, .inr (.inl (L r))) := by simp [cel, h]
theorem cel_22 {cA : Nat → ClassId} {ad : List Nat} {I : qMI} {L : qML} {P : qMP} {r : Nat} {s : qSh} (h : s.1 = 22) : cel cA ad I L P r s = .inl (cA 2, s.2, .inl (I r)) := by simp [cel, h]
theorem cel_23 {cA : Nat → ClassId} {ad : List Nat} {I : qMI} {L : qML} {P : qMP} {r : Nat} {s : qSh} (h : s.1 = 23) : cel cA ad I L P r s = .inl (cA 3, s.2, .inr (.inr (.inr (.inr (fun k => gr ad (P r k)))))) := by simp [cel, h]
theorem cel_24 {cA : Nat → ClassId} {ad : List Nat} {I : qMI} {L : qML} {P : qMP} {r : Nat} {s : qSh} (h : s.1 = 24) : cel cA ad I L P r s = .inl (cA 4, s.2, .inr (.inr (.inr (.inr (fun k => gr ad (P r k)))))) := by simp [cel, h]
theorem flds_get {ad : List Nat} {I : qMI} {L : qML} {P : qMP} {r kk t : Nat} {ts : List Nat} (h : ts[kk]? = some t) : (flds ad I L P r ts)[kk]? = some (fv ad I L P r kk t) := by
  have hl := (List.getElem?_eq_some_iff.mp h).1
  have e : ts[kk] = t := by
    have := List.getElem?_eq_getElem hl
    rw [h] at this
    exact (Option.some.inj this).symm
  simp [flds, hl, List.getD, e]
theorem flds_len {ad : List Nat} {I : qMI} {L : qML} {P : qMP} {r : Nat} {ts : List Nat} : (flds ad I L P r ts).length = ts.length := by simp [flds]
theorem flds_set {ad : List Nat} {I I' : qMI} {L L' : qML} {P P' : qMP} {r kk t : Nat} {ts : List Nat} (h : ts[kk]? = some t) {v : Value} (hv : v = fv ad I' L' P' r kk t) (ho : ∀ j, j ≠ kk → I' r j = I r j ∧ L' r j = L r j ∧ P' r j = P r j) : (flds ad I L P r ts).set kk v = flds ad I' L' P' r ts := by
  have hl := (List.getElem?_eq_some_iff.mp h).1
  apply List.ext_getElem?
  intro j
  by_cases hj : j = kk
  · subst hj
    rw [List.getElem?_set_self (by rw [flds_len]; exact hl), flds_get h, hv]
  · rw [List.getElem?_set_ne (Ne.symm hj)]
    by_cases hjl : j < ts.length
    · have e : ts[j]? = some ts[j] := List.getElem?_eq_getElem hjl
      rw [flds_get e, flds_get e, fv_congr (ho j hj).1 (ho j hj).2.1 (ho j hj).2.2]
    · rw [List.getElem?_eq_none (by rw [flds_len]; omega), List.getElem?_eq_none (by rw [flds_len]; omega)]
section QS
variable {X : qCT} {own : String} {cc : ByteArray} {n d mc ms pc cells slots : Nat} {lo : List (Option Value)} {st : List Value} {sh : List qSh} {I : qMI} {L : qML} {P : qMP}
theorem q_iconst (C : qCB X own cc n d mc ms) {z : Int} {v : Int32} (hd : decode cc pc = .ok (.iconst z, 1)) (hv : Int32.ofInt z = v) (k : qG X (pc + 1) lo (.int v :: st) sh I L P cells slots) : qG X pc lo (st) sh I L P cells slots := by
  obtain ⟨p, l, e, R, s, m, args, below, meth, c, nL, D, cA, A, H0, Q, ad0⟩ := X
  obtain ⟨hx, hb, ⟨hml, hnl⟩, hown, hts, hK, hA, hlk, hE, hR⟩ := C
  intro ad H locs ls h1 h2 h3 h4 h5 h6 h7 h8
  show W p l e R s m args below meth c H locs cells slots Q (F0 m pc ls (st.map (rv ad)))
  exact lv_iconst hx hb hd hv (k ad H locs ls h1 h2 h3 ⟨trivial, h4⟩ h5 h6 h7 h8)
theorem q_bipush (C : qCB X own cc n d mc ms) {z : Int} {v : Int32} (hd : decode cc pc = .ok (.bipush z, 2)) (hv : (Int8.ofInt z).toInt32 = v) (k : qG X (pc + 2) lo (.int v :: st) sh I L P cells slots) : qG X pc lo (st) sh I L P cells slots := by
  obtain ⟨p, l, e, R, s, m, args, below, meth, c, nL, D, cA, A, H0, Q, ad0⟩ := X
  obtain ⟨hx, hb, ⟨hml, hnl⟩, hown, hts, hK, hA, hlk, hE, hR⟩ := C
  intro ad H locs ls h1 h2 h3 h4 h5 h6 h7 h8
  show W p l e R s m args below meth c H locs cells slots Q (F0 m pc ls (st.map (rv ad)))
  exact lv_bipush hx hb hd hv (k ad H locs ls h1 h2 h3 ⟨trivial, h4⟩ h5 h6 h7 h8)
theorem q_sipush (C : qCB X own cc n d mc ms) {z : Int} {v : Int32} (hd : decode cc pc = .ok (.sipush z, 3)) (hv : (Int16.ofInt z).toInt32 = v) (k : qG X (pc + 3) lo (.int v :: st) sh I L P cells slots) : qG X pc lo (st) sh I L P cells slots := by
  obtain ⟨p, l, e, R, s, m, args, below, meth, c, nL, D, cA, A, H0, Q, ad0⟩ := X
  obtain ⟨hx, hb, ⟨hml, hnl⟩, hown, hts, hK, hA, hlk, hE, hR⟩ := C
  intro ad H locs ls h1 h2 h3 h4 h5 h6 h7 h8
  show W p l e R s m args below meth c H locs cells slots Q (F0 m pc ls (st.map (rv ad)))
  exact lv_sipush hx hb hd hv (k ad H locs ls h1 h2 h3 ⟨trivial, h4⟩ h5 h6 h7 h8)
theorem q_lconst (C : qCB X own cc n d mc ms) {z : Fin 2} {v : Int64} (hd : decode cc pc = .ok (.lconst z, 1)) (hv : Int64.ofNat (z : Nat) = v) (k : qG X (pc + 1) lo (.long v :: st) sh I L P cells slots) : qG X pc lo (st) sh I L P cells slots := by
  obtain ⟨p, l, e, R, s, m, args, below, meth, c, nL, D, cA, A, H0, Q, ad0⟩ := X
  obtain ⟨hx, hb, ⟨hml, hnl⟩, hown, hts, hK, hA, hlk, hE, hR⟩ := C
  intro ad H locs ls h1 h2 h3 h4 h5 h6 h7 h8
  show W p l e R s m args below meth c H locs cells slots Q (F0 m pc ls (st.map (rv ad)))
  exact lv_lconst hx hb hd hv (k ad H locs ls h1 h2 h3 ⟨trivial, h4⟩ h5 h6 h7 h8)
theorem q_iadd (C : qCB X own cc n d mc ms) {x y : Int32} (hd : decode cc pc = .ok (.iadd, 1)) (k : qG X (pc + 1) lo (.int (x + y) :: st) sh I L P cells slots) : qG X pc lo (.int y :: .int x :: st) sh I L P cells slots := by
  obtain ⟨p, l, e, R, s, m, args, below, meth, c, nL, D, cA, A, H0, Q, ad0⟩ := X
  obtain ⟨hx, hb, ⟨hml, hnl⟩, hown, hts, hK, hA, hlk, hE, hR⟩ := C
  intro ad H locs ls h1 h2 h3 h4 h5 h6 h7 h8
  show W p l e R s m args below meth c H locs cells slots Q (F0 m pc ls (.int y :: .int x :: st.map (rv ad)))
  exact lv_iadd hx hb hd (k ad H locs ls h1 h2 h3 ⟨trivial, h4.2.2⟩ h5 h6 h7 h8)
theorem q_isub (C : qCB X own cc n d mc ms) {x y : Int32} (hd : decode cc pc = .ok (.isub, 1)) (k : qG X (pc + 1) lo (.int (x - y) :: st) sh I L P cells slots) : qG X pc lo (.int y :: .int x :: st) sh I L P cells slots := by
  obtain ⟨p, l, e, R, s, m, args, below, meth, c, nL, D, cA, A, H0, Q, ad0⟩ := X
  obtain ⟨hx, hb, ⟨hml, hnl⟩, hown, hts, hK, hA, hlk, hE, hR⟩ := C
  intro ad H locs ls h1 h2 h3 h4 h5 h6 h7 h8
  show W p l e R s m args below meth c H locs cells slots Q (F0 m pc ls (.int y :: .int x :: st.map (rv ad)))
  exact lv_isub hx hb hd (k ad H locs ls h1 h2 h3 ⟨trivial, h4.2.2⟩ h5 h6 h7 h8)
theorem q_imul (C : qCB X own cc n d mc ms) {x y : Int32} (hd : decode cc pc = .ok (.imul, 1)) (k : qG X (pc + 1) lo (.int (x * y) :: st) sh I L P cells slots) : qG X pc lo (.int y :: .int x :: st) sh I L P cells slots := by
  obtain ⟨p, l, e, R, s, m, args, below, meth, c, nL, D, cA, A, H0, Q, ad0⟩ := X
  obtain ⟨hx, hb, ⟨hml, hnl⟩, hown, hts, hK, hA, hlk, hE, hR⟩ := C
  intro ad H locs ls h1 h2 h3 h4 h5 h6 h7 h8
  show W p l e R s m args below meth c H locs cells slots Q (F0 m pc ls (.int y :: .int x :: st.map (rv ad)))
  exact lv_imul hx hb hd (k ad H locs ls h1 h2 h3 ⟨trivial, h4.2.2⟩ h5 h6 h7 h8)
theorem q_iand (C : qCB X own cc n d mc ms) {x y : Int32} (hd : decode cc pc = .ok (.iand, 1)) (k : qG X (pc + 1) lo (.int (x &&& y) :: st) sh I L P cells slots) : qG X pc lo (.int y :: .int x :: st) sh I L P cells slots := by
  obtain ⟨p, l, e, R, s, m, args, below, meth, c, nL, D, cA, A, H0, Q, ad0⟩ := X
  obtain ⟨hx, hb, ⟨hml, hnl⟩, hown, hts, hK, hA, hlk, hE, hR⟩ := C
  intro ad H locs ls h1 h2 h3 h4 h5 h6 h7 h8
  show W p l e R s m args below meth c H locs cells slots Q (F0 m pc ls (.int y :: .int x :: st.map (rv ad)))
  exact lv_iand hx hb hd (k ad H locs ls h1 h2 h3 ⟨trivial, h4.2.2⟩ h5 h6 h7 h8)
theorem q_ior (C : qCB X own cc n d mc ms) {x y : Int32} (hd : decode cc pc = .ok (.ior, 1)) (k : qG X (pc + 1) lo (.int (x ||| y) :: st) sh I L P cells slots) : qG X pc lo (.int y :: .int x :: st) sh I L P cells slots := by
  obtain ⟨p, l, e, R, s, m, args, below, meth, c, nL, D, cA, A, H0, Q, ad0⟩ := X
  obtain ⟨hx, hb, ⟨hml, hnl⟩, hown, hts, hK, hA, hlk, hE, hR⟩ := C
  intro ad H locs ls h1 h2 h3 h4 h5 h6 h7 h8
  show W p l e R s m args below meth c H locs cells slots Q (F0 m pc ls (.int y :: .int x :: st.map (rv ad)))
  exact lv_ior hx hb hd (k ad H locs ls h1 h2 h3 ⟨trivial, h4.2.2⟩ h5 h6 h7 h8)
theorem q_ixor (C : qCB X own cc n d mc ms) {x y : Int32} (hd : decode cc pc = .ok (.ixor, 1)) (k : qG X (pc + 1) lo (.int (x ^^^ y) :: st) sh I L P cells slots) : qG X pc lo (.int y :: .int x :: st) sh I L P cells slots := by
  obtain ⟨p, l, e, R, s, m, args, below, meth, c, nL, D, cA, A, H0, Q, ad0⟩ := X
  obtain ⟨hx, hb, ⟨hml, hnl⟩, hown, hts, hK, hA, hlk, hE, hR⟩ := C
  intro ad H locs ls h1 h2 h3 h4 h5 h6 h7 h8
  show W p l e R s m args below meth c H locs cells slots Q (F0 m pc ls (.int y :: .int x :: st.map (rv ad)))
  exact lv_ixor hx hb hd (k ad H locs ls h1 h2 h3 ⟨trivial, h4.2.2⟩ h5 h6 h7 h8)
theorem q_idiv (C : qCB X own cc n d mc ms) {x y : Int32} (hd : decode cc pc = .ok (.idiv, 1)) (hne : ¬ y = 0) (k : qG X (pc + 1) lo (.int (x / y) :: st) sh I L P cells slots) : qG X pc lo (.int y :: .int x :: st) sh I L P cells slots := by
  obtain ⟨p, l, e, R, s, m, args, below, meth, c, nL, D, cA, A, H0, Q, ad0⟩ := X
  obtain ⟨hx, hb, ⟨hml, hnl⟩, hown, hts, hK, hA, hlk, hE, hR⟩ := C
  intro ad H locs ls h1 h2 h3 h4 h5 h6 h7 h8
  show W p l e R s m args below meth c H locs cells slots Q (F0 m pc ls (.int y :: .int x :: st.map (rv ad)))
  exact lv_idiv hx hb hd hne (k ad H locs ls h1 h2 h3 ⟨trivial, h4.2.2⟩ h5 h6 h7 h8)
theorem q_irem (C : qCB X own cc n d mc ms) {x y : Int32} (hd : decode cc pc = .ok (.irem, 1)) (hne : ¬ y = 0) (k : qG X (pc + 1) lo (.int (x - x / y * y) :: st) sh I L P cells slots) : qG X pc lo (.int y :: .int x :: st) sh I L P cells slots := by
  obtain ⟨p, l, e, R, s, m, args, below, meth, c, nL, D, cA, A, H0, Q, ad0⟩ := X
  obtain ⟨hx, hb, ⟨hml, hnl⟩, hown, hts, hK, hA, hlk, hE, hR⟩ := C
  intro ad H locs ls h1 h2 h3 h4 h5 h6 h7 h8
  show W p l e R s m args below meth c H locs cells slots Q (F0 m pc ls (.int y :: .int x :: st.map (rv ad)))
  exact lv_irem hx hb hd hne (k ad H locs ls h1 h2 h3 ⟨trivial, h4.2.2⟩ h5 h6 h7 h8)
theorem q_ishl (C : qCB X own cc n d mc ms) {x y : Int32} (hd : decode cc pc = .ok (.ishl, 1)) (k : qG X (pc + 1) lo (.int (x <<< (y &&& 31)) :: st) sh I L P cells slots) : qG X pc lo (.int y :: .int x :: st) sh I L P cells slots := by
  obtain ⟨p, l, e, R, s, m, args, below, meth, c, nL, D, cA, A, H0, Q, ad0⟩ := X
  obtain ⟨hx, hb, ⟨hml, hnl⟩, hown, hts, hK, hA, hlk, hE, hR⟩ := C
  intro ad H locs ls h1 h2 h3 h4 h5 h6 h7 h8
  show W p l e R s m args below meth c H locs cells slots Q (F0 m pc ls (.int y :: .int x :: st.map (rv ad)))
  exact lv_ishl hx hb hd (k ad H locs ls h1 h2 h3 ⟨trivial, h4.2.2⟩ h5 h6 h7 h8)
theorem q_ishr (C : qCB X own cc n d mc ms) {x y : Int32} (hd : decode cc pc = .ok (.ishr, 1)) (k : qG X (pc + 1) lo (.int (x >>> (y &&& 31)) :: st) sh I L P cells slots) : qG X pc lo (.int y :: .int x :: st) sh I L P cells slots := by
  obtain ⟨p, l, e, R, s, m, args, below, meth, c, nL, D, cA, A, H0, Q, ad0⟩ := X
  obtain ⟨hx, hb, ⟨hml, hnl⟩, hown, hts, hK, hA, hlk, hE, hR⟩ := C
  intro ad H locs ls h1 h2 h3 h4 h5 h6 h7 h8
  show W p l e R s m args below meth c H locs cells slots Q (F0 m pc ls (.int y :: .int x :: st.map (rv ad)))
  exact lv_ishr hx hb hd (k ad H locs ls h1 h2 h3 ⟨trivial, h4.2.2⟩ h5 h6 h7 h8)
theorem q_iushr (C : qCB X own cc n d mc ms) {x y : Int32} (hd : decode cc pc = .ok (.iushr, 1)) (k : qG X (pc + 1) lo (.int (x.toUInt32 >>> (y.toUInt32 &&& Int32.toUInt32 31)).toInt32 :: st) sh I L P cells slots) : qG X pc lo (.int y :: .int x :: st) sh I L P cells slots := by
  obtain ⟨p, l, e, R, s, m, args, below, meth, c, nL, D, cA, A, H0, Q, ad0⟩ := X
  obtain ⟨hx, hb, ⟨hml, hnl⟩, hown, hts, hK, hA, hlk, hE, hR⟩ := C
  intro ad H locs ls h1 h2 h3 h4 h5 h6 h7 h8
  show W p l e R s m args below meth c H locs cells slots Q (F0 m pc ls (.int y :: .int x :: st.map (rv ad)))
  exact lv_iushr hx hb hd rfl (k ad H locs ls h1 h2 h3 ⟨trivial, h4.2.2⟩ h5 h6 h7 h8)
theorem q_ladd (C : qCB X own cc n d mc ms) {x y : Int64} (hd : decode cc pc = .ok (.ladd, 1)) (k : qG X (pc + 1) lo (.long (x + y) :: st) sh I L P cells slots) : qG X pc lo (.long y :: .long x :: st) sh I L P cells slots := by
  obtain ⟨p, l, e, R, s, m, args, below, meth, c, nL, D, cA, A, H0, Q, ad0⟩ := X
  obtain ⟨hx, hb, ⟨hml, hnl⟩, hown, hts, hK, hA, hlk, hE, hR⟩ := C
  intro ad H locs ls h1 h2 h3 h4 h5 h6 h7 h8
  show W p l e R s m args below meth c H locs cells slots Q (F0 m pc ls (.long y :: .long x :: st.map (rv ad)))
  exact lv_ladd hx hb hd (k ad H locs ls h1 h2 h3 ⟨trivial, h4.2.2⟩ h5 h6 h7 h8)
theorem q_lsub (C : qCB X own cc n d mc ms) {x y : Int64} (hd : decode cc pc = .ok (.lsub, 1)) (k : qG X (pc + 1) lo (.long (x - y) :: st) sh I L P cells slots) : qG X pc lo (.long y :: .long x :: st) sh I L P cells slots := by
  obtain ⟨p, l, e, R, s, m, args, below, meth, c, nL, D, cA, A, H0, Q, ad0⟩ := X
  obtain ⟨hx, hb, ⟨hml, hnl⟩, hown, hts, hK, hA, hlk, hE, hR⟩ := C
  intro ad H locs ls h1 h2 h3 h4 h5 h6 h7 h8
  show W p l e R s m args below meth c H locs cells slots Q (F0 m pc ls (.long y :: .long x :: st.map (rv ad)))
  exact lv_lsub hx hb hd (k ad H locs ls h1 h2 h3 ⟨trivial, h4.2.2⟩ h5 h6 h7 h8)
theorem q_lmul (C : qCB X own cc n d mc ms) {x y : Int64} (hd : decode cc pc = .ok (.lmul, 1)) (k : qG X (pc + 1) lo (.long (x * y) :: st) sh I L P cells slots) : qG X pc lo (.long y :: .long x :: st) sh I L P cells slots := by
  obtain ⟨p, l, e, R, s, m, args, below, meth, c, nL, D, cA, A, H0, Q, ad0⟩ := X
  obtain ⟨hx, hb, ⟨hml, hnl⟩, hown, hts, hK, hA, hlk, hE, hR⟩ := C
  intro ad H locs ls h1 h2 h3 h4 h5 h6 h7 h8
  show W p l e R s m args below meth c H locs cells slots Q (F0 m pc ls (.long y :: .long x :: st.map (rv ad)))
  exact lv_lmul hx hb hd (k ad H locs ls h1 h2 h3 ⟨trivial, h4.2.2⟩ h5 h6 h7 h8)
theorem q_land (C : qCB X own cc n d mc ms) {x y : Int64} (hd : decode cc pc = .ok (.land, 1)) (k : qG X (pc + 1) lo (.long (x &&& y) :: st) sh I L P cells slots) : qG X pc lo (.long y :: .long x :: st) sh I L P cells slots := by
  obtain ⟨p, l, e, R, s, m, args, below, meth, c, nL, D, cA, A, H0, Q, ad0⟩ := X
  obtain ⟨hx, hb, ⟨hml, hnl⟩, hown, hts, hK, hA, hlk, hE, hR⟩ := C
  intro ad H locs ls h1 h2 h3 h4 h5 h6 h7 h8
  show W p l e R s m args below meth c H locs cells slots Q (F0 m pc ls (.long y :: .long x :: st.map (rv ad)))
  exact lv_land hx hb hd (k ad H locs ls h1 h2 h3 ⟨trivial, h4.2.2⟩ h5 h6 h7 h8)
theorem q_lor (C : qCB X own cc n d mc ms) {x y : Int64} (hd : decode cc pc = .ok (.lor, 1)) (k : qG X (pc + 1) lo (.long (x ||| y) :: st) sh I L P cells slots) : qG X pc lo (.long y :: .long x :: st) sh I L P cells slots := by
  obtain ⟨p, l, e, R, s, m, args, below, meth, c, nL, D, cA, A, H0, Q, ad0⟩ := X
  obtain ⟨hx, hb, ⟨hml, hnl⟩, hown, hts, hK, hA, hlk, hE, hR⟩ := C
  intro ad H locs ls h1 h2 h3 h4 h5 h6 h7 h8
  show W p l e R s m args below meth c H locs cells slots Q (F0 m pc ls (.long y :: .long x :: st.map (rv ad)))
  exact lv_lor hx hb hd (k ad H locs ls h1 h2 h3 ⟨trivial, h4.2.2⟩ h5 h6 h7 h8)
theorem q_ldiv (C : qCB X own cc n d mc ms) {x y : Int64} (hd : decode cc pc = .ok (.ldiv, 1)) (hne : ¬ y = 0) (k : qG X (pc + 1) lo (.long (x / y) :: st) sh I L P cells slots) : qG X pc lo (.long y :: .long x :: st) sh I L P cells slots := by
  obtain ⟨p, l, e, R, s, m, args, below, meth, c, nL, D, cA, A, H0, Q, ad0⟩ := X
  obtain ⟨hx, hb, ⟨hml, hnl⟩, hown, hts, hK, hA, hlk, hE, hR⟩ := C
  intro ad H locs ls h1 h2 h3 h4 h5 h6 h7 h8
  show W p l e R s m args below meth c H locs cells slots Q (F0 m pc ls (.long y :: .long x :: st.map (rv ad)))
  exact lv_ldiv hx hb hd hne (k ad H locs ls h1 h2 h3 ⟨trivial, h4.2.2⟩ h5 h6 h7 h8)
theorem q_lrem (C : qCB X own cc n d mc ms) {x y : Int64} (hd : decode cc pc = .ok (.lrem, 1)) (hne : ¬ y = 0) (k : qG X (pc + 1) lo (.long (x - x / y * y) :: st) sh I L P cells slots) : qG X pc lo (.long y :: .long x :: st) sh I L P cells slots := by
  obtain ⟨p, l, e, R, s, m, args, below, meth, c, nL, D, cA, A, H0, Q, ad0⟩ := X
  obtain ⟨hx, hb, ⟨hml, hnl⟩, hown, hts, hK, hA, hlk, hE, hR⟩ := C
  intro ad H locs ls h1 h2 h3 h4 h5 h6 h7 h8
  show W p l e R s m args below meth c H locs cells slots Q (F0 m pc ls (.long y :: .long x :: st.map (rv ad)))
  exact lv_lrem hx hb hd hne (k ad H locs ls h1 h2 h3 ⟨trivial, h4.2.2⟩ h5 h6 h7 h8)
theorem q_lshl (C : qCB X own cc n d mc ms) {x : Int64} {y : Int32} (hd : decode cc pc = .ok (.lshl, 1)) (k : qG X (pc + 1) lo (.long (x <<< (y.toInt64 &&& 63)) :: st) sh I L P cells slots) : qG X pc lo (.int y :: .long x :: st) sh I L P cells slots := by
  obtain ⟨p, l, e, R, s, m, args, below, meth, c, nL, D, cA, A, H0, Q, ad0⟩ := X
  obtain ⟨hx, hb, ⟨hml, hnl⟩, hown, hts, hK, hA, hlk, hE, hR⟩ := C
  intro ad H locs ls h1 h2 h3 h4 h5 h6 h7 h8
  show W p l e R s m args below meth c H locs cells slots Q (F0 m pc ls (.int y :: .long x :: st.map (rv ad)))
  exact lv_lshl hx hb hd rfl (k ad H locs ls h1 h2 h3 ⟨trivial, h4.2.2⟩ h5 h6 h7 h8)
theorem q_i2l (C : qCB X own cc n d mc ms) {x : Int32} (hd : decode cc pc = .ok (.i2l, 1)) (k : qG X (pc + 1) lo (.long x.toInt64 :: st) sh I L P cells slots) : qG X pc lo (.int x :: st) sh I L P cells slots := by
  obtain ⟨p, l, e, R, s, m, args, below, meth, c, nL, D, cA, A, H0, Q, ad0⟩ := X
  obtain ⟨hx, hb, ⟨hml, hnl⟩, hown, hts, hK, hA, hlk, hE, hR⟩ := C
  intro ad H locs ls h1 h2 h3 h4 h5 h6 h7 h8
  show W p l e R s m args below meth c H locs cells slots Q (F0 m pc ls (.int x :: st.map (rv ad)))
  exact lv_i2l hx hb hd rfl (k ad H locs ls h1 h2 h3 ⟨trivial, h4.2⟩ h5 h6 h7 h8)
theorem q_iload_n (C : qCB X own cc n d mc ms) {k : Fin 4} {x : Int32} (hd : decode cc pc = .ok (.iload_n k, 1)) (hl : lo[(k : Nat)]? = some (some (.int x))) (k : qG X (pc + 1) lo (.int x :: st) sh I L P cells slots) : qG X pc lo st sh I L P cells slots := by
  obtain ⟨p, l, e, R, s, m, args, below, meth, c, nL, D, cA, A, H0, Q, ad0⟩ := X
  obtain ⟨hx, hb, ⟨hml, hnl⟩, hown, hts, hK, hA, hlk, hE, hR⟩ := C
  intro ad H locs ls h1 h2 h3 h4 h5 h6 h7 h8
  exact lv_iload_n hx hb hd rfl (h5.2.2 _ _ hl).2 (k ad H locs ls h1 h2 h3 ⟨trivial, h4⟩ h5 h6 h7 h8)
theorem q_iload (C : qCB X own cc n d mc ms) {i : Nat} {x : Int32} (hd : decode cc pc = .ok (.iload i, 2)) (hl : lo[i]? = some (some (.int x))) (k : qG X (pc + 2) lo (.int x :: st) sh I L P cells slots) : qG X pc lo st sh I L P cells slots := by
  obtain ⟨p, l, e, R, s, m, args, below, meth, c, nL, D, cA, A, H0, Q, ad0⟩ := X
  obtain ⟨hx, hb, ⟨hml, hnl⟩, hown, hts, hK, hA, hlk, hE, hR⟩ := C
  intro ad H locs ls h1 h2 h3 h4 h5 h6 h7 h8
  exact lv_iload hx hb hd (h5.2.2 _ _ hl).2 (k ad H locs ls h1 h2 h3 ⟨trivial, h4⟩ h5 h6 h7 h8)
theorem q_lload_n (C : qCB X own cc n d mc ms) {k : Fin 4} {x : Int64} (hd : decode cc pc = .ok (.lload_n k, 1)) (hl : lo[(k : Nat)]? = some (some (.long x))) (k : qG X (pc + 1) lo (.long x :: st) sh I L P cells slots) : qG X pc lo st sh I L P cells slots := by
  obtain ⟨p, l, e, R, s, m, args, below, meth, c, nL, D, cA, A, H0, Q, ad0⟩ := X
  obtain ⟨hx, hb, ⟨hml, hnl⟩, hown, hts, hK, hA, hlk, hE, hR⟩ := C
  intro ad H locs ls h1 h2 h3 h4 h5 h6 h7 h8
  exact lv_lload_n hx hb hd rfl (h5.2.2 _ _ hl).2 (k ad H locs ls h1 h2 h3 ⟨trivial, h4⟩ h5 h6 h7 h8)
theorem q_lload (C : qCB X own cc n d mc ms) {i : Nat} {x : Int64} (hd : decode cc pc = .ok (.lload i, 2)) (hl : lo[i]? = some (some (.long x))) (k : qG X (pc + 2) lo (.long x :: st) sh I L P cells slots) : qG X pc lo st sh I L P cells slots := by
  obtain ⟨p, l, e, R, s, m, args, below, meth, c, nL, D, cA, A, H0, Q, ad0⟩ := X
  obtain ⟨hx, hb, ⟨hml, hnl⟩, hown, hts, hK, hA, hlk, hE, hR⟩ := C
  intro ad H locs ls h1 h2 h3 h4 h5 h6 h7 h8
  exact lv_lload hx hb hd (h5.2.2 _ _ hl).2 (k ad H locs ls h1 h2 h3 ⟨trivial, h4⟩ h5 h6 h7 h8)
theorem q_aload_n (C : qCB X own cc n d mc ms) {k : Fin 4} {x : Nat} (hd : decode cc pc = .ok (.aload_n k, 1)) (hl : lo[(k : Nat)]? = some (some (.ref x))) (kk : qG X (pc + 1) lo (.ref x :: st) sh I L P cells slots) : qG X pc lo st sh I L P cells slots := by
  obtain ⟨p, l, e, R, s, m, args, below, meth, c, nL, D, cA, A, H0, Q, ad0⟩ := X
  obtain ⟨hx, hb, ⟨hml, hnl⟩, hown, hts, hK, hA, hlk, hE, hR⟩ := C
  intro ad H locs ls h1 h2 h3 h4 h5 h6 h7 h8
  obtain ⟨g1, g2⟩ := h5.2.2 _ _ hl
  have kk := kk ad H locs ls h1 h2 h3 ⟨g1, h4⟩ h5 h6 h7 h8
  change W p l e R s m args below meth c H locs cells slots Q (F0 m _ ls (va_rf (gr ad x) :: st.map (rv ad))) at kk
  have g2 : ls[(k : Nat)]? = some (.val (va_rf (gr ad x))) := g2
  cases hg : gr ad x with
  | none =>
    rw [hg] at kk g2
    exact lv_aload_nN hx hb hd rfl g2 kk
  | some a =>
    rw [hg] at kk g2
    exact lv_aload_n hx hb hd rfl g2 kk
theorem q_aload (C : qCB X own cc n d mc ms) {i : Nat} {x : Nat} (hd : decode cc pc = .ok (.aload i, 2)) (hl : lo[i]? = some (some (.ref x))) (kk : qG X (pc + 2) lo (.ref x :: st) sh I L P cells slots) : qG X pc lo st sh I L P cells slots := by
  obtain ⟨p, l, e, R, s, m, args, below, meth, c, nL, D, cA, A, H0, Q, ad0⟩ := X
  obtain ⟨hx, hb, ⟨hml, hnl⟩, hown, hts, hK, hA, hlk, hE, hR⟩ := C
  intro ad H locs ls h1 h2 h3 h4 h5 h6 h7 h8
  obtain ⟨g1, g2⟩ := h5.2.2 _ _ hl
  have kk := kk ad H locs ls h1 h2 h3 ⟨g1, h4⟩ h5 h6 h7 h8
  change W p l e R s m args below meth c H locs cells slots Q (F0 m _ ls (va_rf (gr ad x) :: st.map (rv ad))) at kk
  have g2 : ls[i]? = some (.val (va_rf (gr ad x))) := g2
  cases hg : gr ad x with
  | none =>
    rw [hg] at kk g2
    exact lv_aloadN hx hb hd g2 kk
  | some a =>
    rw [hg] at kk g2
    exact lv_aload hx hb hd g2 kk
theorem q_istore_n (C : qCB X own cc n d mc ms) {k : Fin 4} {x : Int32} {lo1 : List (Option Value)} (hd : decode cc pc = .ok (.istore_n k, 1)) (hi : (k : Nat) < n) (hlo : st1 lo (k : Nat) (.int x) = lo1) (kk : qG X (pc + 1) lo1 st sh I L P cells slots) : qG X pc lo (.int x :: st) sh I L P cells slots := by
  obtain ⟨p, l, e, R, s, m, args, below, meth, c, nL, D, cA, A, H0, Q, ad0⟩ := X
  obtain ⟨hx, hb, ⟨hml, hnl⟩, hown, hts, hK, hA, hlk, hE, hR⟩ := C
  intro ad H locs ls h1 h2 h3 h4 h5 h6 h7 h8
  show W p l e R s m args below meth c H locs cells slots Q (F0 m pc ls (.int x :: st.map (rv ad)))
  subst hlo
  exact lv_istore_n hx hb hd rfl h5.has (by omega) rfl (fun ls1 hls => kk ad H locs ls1 h1 h2 h3 h4.2 (h5.store1 trivial hls) h6 h7 h8)
theorem q_istore (C : qCB X own cc n d mc ms) {i : Nat} {x : Int32} {lo1 : List (Option Value)} (hd : decode cc pc = .ok (.istore i, 2)) (hi : i < n) (hlo : st1 lo i (.int x) = lo1) (kk : qG X (pc + 2) lo1 st sh I L P cells slots) : qG X pc lo (.int x :: st) sh I L P cells slots := by
  obtain ⟨p, l, e, R, s, m, args, below, meth, c, nL, D, cA, A, H0, Q, ad0⟩ := X
  obtain ⟨hx, hb, ⟨hml, hnl⟩, hown, hts, hK, hA, hlk, hE, hR⟩ := C
  intro ad H locs ls h1 h2 h3 h4 h5 h6 h7 h8
  show W p l e R s m args below meth c H locs cells slots Q (F0 m pc ls (.int x :: st.map (rv ad)))
  subst hlo
  exact lv_istore hx hb hd h5.has (by omega) rfl (fun ls1 hls => kk ad H locs ls1 h1 h2 h3 h4.2 (h5.store1 trivial hls) h6 h7 h8)
theorem q_lstore_n (C : qCB X own cc n d mc ms) {k : Fin 4} {x : Int64} {lo1 : List (Option Value)} (hd : decode cc pc = .ok (.lstore_n k, 1)) (hi : (k : Nat) + 1 < n) (hlo : st2 lo (k : Nat) (.long x) = lo1) (kk : qG X (pc + 1) lo1 st sh I L P cells slots) : qG X pc lo (.long x :: st) sh I L P cells slots := by
  obtain ⟨p, l, e, R, s, m, args, below, meth, c, nL, D, cA, A, H0, Q, ad0⟩ := X
  obtain ⟨hx, hb, ⟨hml, hnl⟩, hown, hts, hK, hA, hlk, hE, hR⟩ := C
  intro ad H locs ls h1 h2 h3 h4 h5 h6 h7 h8
  show W p l e R s m args below meth c H locs cells slots Q (F0 m pc ls (.long x :: st.map (rv ad)))
  subst hlo
  exact lv_lstore_n hx hb hd rfl h5.has (by omega) rfl (fun ls1 hls => kk ad H locs ls1 h1 h2 h3 h4.2 (h5.store2 trivial hls) h6 h7 h8)
theorem q_lstore (C : qCB X own cc n d mc ms) {i : Nat} {x : Int64} {lo1 : List (Option Value)} (hd : decode cc pc = .ok (.lstore i, 2)) (hi : i + 1 < n) (hlo : st2 lo i (.long x) = lo1) (kk : qG X (pc + 2) lo1 st sh I L P cells slots) : qG X pc lo (.long x :: st) sh I L P cells slots := by
  obtain ⟨p, l, e, R, s, m, args, below, meth, c, nL, D, cA, A, H0, Q, ad0⟩ := X
  obtain ⟨hx, hb, ⟨hml, hnl⟩, hown, hts, hK, hA, hlk, hE, hR⟩ := C
  intro ad H locs ls h1 h2 h3 h4 h5 h6 h7 h8
  show W p l e R s m args below meth c H locs cells slots Q (F0 m pc ls (.long x :: st.map (rv ad)))
  subst hlo
  exact lv_lstore hx hb hd h5.has (by omega) rfl (fun ls1 hls => kk ad H locs ls1 h1 h2 h3 h4.2 (h5.store2 trivial hls) h6 h7 h8)
theorem q_astore_n (C : qCB X own cc n d mc ms) {k : Fin 4} {x : Nat} {lo1 : List (Option Value)} (hd : decode cc pc = .ok (.astore_n k, 1)) (hi : (k : Nat) < n) (hlo : st1 lo (k : Nat) (.ref x) = lo1) (kk : qG X (pc + 1) lo1 st sh I L P cells slots) : qG X pc lo (.ref x :: st) sh I L P cells slots := by
  obtain ⟨p, l, e, R, s, m, args, below, meth, c, nL, D, cA, A, H0, Q, ad0⟩ := X
  obtain ⟨hx, hb, ⟨hml, hnl⟩, hown, hts, hK, hA, hlk, hE, hR⟩ := C
  intro ad H locs ls h1 h2 h3 h4 h5 h6 h7 h8
  subst hlo
  have kk : ∀ ls1, LO ls1 nL ad sh.length (st1 lo (k : Nat) (.ref x)) → _ := fun ls1 hls => kk ad H locs ls1 h1 h2 h3 h4.2 hls h6 h7 h8
  have go : ∀ ls1, lv_has ls1 nL (((k : Nat), va_rf (gr ad x)) :: (lol ad lo).filter (fun q => !(q.1 == (k : Nat)) && !(q.1 + 1 == (k : Nat) && q.2.category == 2))) → W p l e R s m args below meth c H locs cells slots Q (F0 m (pc + 1) ls1 (st.map (rv ad))) := fun ls1 hls => kk ls1 (h5.store1 (v := .ref x) h4.1 hls)
  show W p l e R s m args below meth c H locs cells slots Q (F0 m pc ls (va_rf (gr ad x) :: st.map (rv ad)))
  cases hg : gr ad x with
  | none =>
    rw [hg] at go
    exact lv_astore_nN hx hb hd rfl h5.has (by omega) rfl go
  | some a =>
    rw [hg] at go
    exact lv_astore_n hx hb hd rfl h5.has (by omega) rfl go
theorem q_astore (C : qCB X own cc n d mc ms) {i : Nat} {x : Nat} {lo1 : List (Option Value)} (hd : decode cc pc = .ok (.astore i, 2)) (hi : i < n) (hlo : st1 lo i (.ref x) = lo1) (kk : qG X (pc + 2) lo1 st sh I L P cells slots) : qG X pc lo (.ref x :: st) sh I L P cells slots := by
  obtain ⟨p, l, e, R, s, m, args, below, meth, c, nL, D, cA, A, H0, Q, ad0⟩ := X
  obtain ⟨hx, hb, ⟨hml, hnl⟩, hown, hts, hK, hA, hlk, hE, hR⟩ := C
  intro ad H locs ls h1 h2 h3 h4 h5 h6 h7 h8
  subst hlo
  have kk : ∀ ls1, LO ls1 nL ad sh.length (st1 lo i (.ref x)) → _ := fun ls1 hls => kk ad H locs ls1 h1 h2 h3 h4.2 hls h6 h7 h8
  have go : ∀ ls1, lv_has ls1 nL ((i, va_rf (gr ad x)) :: (lol ad lo).filter (fun q => !(q.1 == i) && !(q.1 + 1 == i && q.2.category == 2))) → W p l e R s m args below meth c H locs cells slots Q (F0 m (pc + 2) ls1 (st.map (rv ad))) := fun ls1 hls => kk ls1 (h5.store1 (v := .ref x) h4.1 hls)
  show W p l e R s m args below meth c H locs cells slots Q (F0 m pc ls (va_rf (gr ad x) :: st.map (rv ad)))
  cases hg : gr ad x with
  | none =>
    rw [hg] at go
    exact lv_astoreN hx hb hd h5.has (by omega) rfl go
  | some a =>
    rw [hg] at go
    exact lv_astore hx hb hd h5.has (by omega) rfl go
theorem q_iinc (C : qCB X own cc n d mc ms) {i : Nat} {z : Int} {x w : Int32} {lo1 : List (Option Value)} (hd : decode cc pc = .ok (.iinc i z, 3)) (hl : lo[i]? = some (some (.int x))) (hw : Int32.ofInt z = w) (hi : i < n) (hlo : st1 lo i (.int (x + w)) = lo1) (kk : qG X (pc + 3) lo1 st sh I L P cells slots) : qG X pc lo st sh I L P cells slots := by
  obtain ⟨p, l, e, R, s, m, args, below, meth, c, nL, D, cA, A, H0, Q, ad0⟩ := X
  obtain ⟨hx, hb, ⟨hml, hnl⟩, hown, hts, hK, hA, hlk, hE, hR⟩ := C
  intro ad H locs ls h1 h2 h3 h4 h5 h6 h7 h8
  subst hlo
  obtain ⟨q, hq⟩ := List.getElem?_of_mem (lol_mem (ad := ad) (q := (i, .int x)) |>.mpr ⟨_, hl, rfl⟩)
  exact lv_iinc hx hb hd h5.has hq (by rw [hw]) (by omega) rfl (fun ls1 hls => kk ad H locs ls1 h1 h2 h3 h4 (h5.store1 (v := .int (x + w)) trivial hls) h6 h7 h8)
theorem q_if_eq (C : qCB X own cc n d mc ms) {x : Int32} {off : Int} {tgt : Nat} (hd : decode cc pc = .ok (.ifCond .eq off, 3)) (ht : (pc : Int) + off = (tgt : Int)) (kt : x = 0 → qG X tgt lo st sh I L P cells slots) (kf : ¬ x = 0 → qG X (pc + 3) lo st sh I L P cells slots) : qG X pc lo (.int x :: st) sh I L P cells slots := by
  obtain ⟨p, l, e, R, s, m, args, below, meth, c, nL, D, cA, A, H0, Q, ad0⟩ := X
  obtain ⟨hx, hb, ⟨hml, hnl⟩, hown, hts, hK, hA, hlk, hE, hR⟩ := C
  intro ad H locs ls h1 h2 h3 h4 h5 h6 h7 h8
  show W p l e R s m args below meth c H locs cells slots Q (F0 m pc ls (.int x :: st.map (rv ad)))
  exact lv_if_eq hx hb hd ht (fun q => kt q ad H locs ls h1 h2 h3 h4.2 h5 h6 h7 h8) (fun q => kf q ad H locs ls h1 h2 h3 h4.2 h5 h6 h7 h8)
theorem q_if_ne (C : qCB X own cc n d mc ms) {x : Int32} {off : Int} {tgt : Nat} (hd : decode cc pc = .ok (.ifCond .ne off, 3)) (ht : (pc : Int) + off = (tgt : Int)) (kt : ¬ x = 0 → qG X tgt lo st sh I L P cells slots) (kf : x = 0 → qG X (pc + 3) lo st sh I L P cells slots) : qG X pc lo (.int x :: st) sh I L P cells slots := by
  obtain ⟨p, l, e, R, s, m, args, below, meth, c, nL, D, cA, A, H0, Q, ad0⟩ := X
  obtain ⟨hx, hb, ⟨hml, hnl⟩, hown, hts, hK, hA, hlk, hE, hR⟩ := C
  intro ad H locs ls h1 h2 h3 h4 h5 h6 h7 h8
  show W p l e R s m args below meth c H locs cells slots Q (F0 m pc ls (.int x :: st.map (rv ad)))
  exact lv_if_ne hx hb hd ht (fun q => kt q ad H locs ls h1 h2 h3 h4.2 h5 h6 h7 h8) (fun q => kf q ad H locs ls h1 h2 h3 h4.2 h5 h6 h7 h8)
theorem q_if_lt (C : qCB X own cc n d mc ms) {x : Int32} {off : Int} {tgt : Nat} (hd : decode cc pc = .ok (.ifCond .lt off, 3)) (ht : (pc : Int) + off = (tgt : Int)) (kt : x < 0 → qG X tgt lo st sh I L P cells slots) (kf : ¬ x < 0 → qG X (pc + 3) lo st sh I L P cells slots) : qG X pc lo (.int x :: st) sh I L P cells slots := by
  obtain ⟨p, l, e, R, s, m, args, below, meth, c, nL, D, cA, A, H0, Q, ad0⟩ := X
  obtain ⟨hx, hb, ⟨hml, hnl⟩, hown, hts, hK, hA, hlk, hE, hR⟩ := C
  intro ad H locs ls h1 h2 h3 h4 h5 h6 h7 h8
  show W p l e R s m args below meth c H locs cells slots Q (F0 m pc ls (.int x :: st.map (rv ad)))
  exact lv_if_lt hx hb hd ht (fun q => kt q ad H locs ls h1 h2 h3 h4.2 h5 h6 h7 h8) (fun q => kf q ad H locs ls h1 h2 h3 h4.2 h5 h6 h7 h8)
theorem q_if_ge (C : qCB X own cc n d mc ms) {x : Int32} {off : Int} {tgt : Nat} (hd : decode cc pc = .ok (.ifCond .ge off, 3)) (ht : (pc : Int) + off = (tgt : Int)) (kt : 0 ≤ x → qG X tgt lo st sh I L P cells slots) (kf : ¬ 0 ≤ x → qG X (pc + 3) lo st sh I L P cells slots) : qG X pc lo (.int x :: st) sh I L P cells slots := by
  obtain ⟨p, l, e, R, s, m, args, below, meth, c, nL, D, cA, A, H0, Q, ad0⟩ := X
  obtain ⟨hx, hb, ⟨hml, hnl⟩, hown, hts, hK, hA, hlk, hE, hR⟩ := C
  intro ad H locs ls h1 h2 h3 h4 h5 h6 h7 h8
  show W p l e R s m args below meth c H locs cells slots Q (F0 m pc ls (.int x :: st.map (rv ad)))
  exact lv_if_ge hx hb hd ht (fun q => kt q ad H locs ls h1 h2 h3 h4.2 h5 h6 h7 h8) (fun q => kf q ad H locs ls h1 h2 h3 h4.2 h5 h6 h7 h8)
theorem q_if_gt (C : qCB X own cc n d mc ms) {x : Int32} {off : Int} {tgt : Nat} (hd : decode cc pc = .ok (.ifCond .gt off, 3)) (ht : (pc : Int) + off = (tgt : Int)) (kt : 0 < x → qG X tgt lo st sh I L P cells slots) (kf : ¬ 0 < x → qG X (pc + 3) lo st sh I L P cells slots) : qG X pc lo (.int x :: st) sh I L P cells slots := by
  obtain ⟨p, l, e, R, s, m, args, below, meth, c, nL, D, cA, A, H0, Q, ad0⟩ := X
  obtain ⟨hx, hb, ⟨hml, hnl⟩, hown, hts, hK, hA, hlk, hE, hR⟩ := C
  intro ad H locs ls h1 h2 h3 h4 h5 h6 h7 h8
  show W p l e R s m args below meth c H locs cells slots Q (F0 m pc ls (.int x :: st.map (rv ad)))
  exact lv_if_gt hx hb hd ht (fun q => kt q ad H locs ls h1 h2 h3 h4.2 h5 h6 h7 h8) (fun q => kf q ad H locs ls h1 h2 h3 h4.2 h5 h6 h7 h8)
theorem q_if_le (C : qCB X own cc n d mc ms) {x : Int32} {off : Int} {tgt : Nat} (hd : decode cc pc = .ok (.ifCond .le off, 3)) (ht : (pc : Int) + off = (tgt : Int)) (kt : x ≤ 0 → qG X tgt lo st sh I L P cells slots) (kf : ¬ x ≤ 0 → qG X (pc + 3) lo st sh I L P cells slots) : qG X pc lo (.int x :: st) sh I L P cells slots := by
  obtain ⟨p, l, e, R, s, m, args, below, meth, c, nL, D, cA, A, H0, Q, ad0⟩ := X
  obtain ⟨hx, hb, ⟨hml, hnl⟩, hown, hts, hK, hA, hlk, hE, hR⟩ := C
  intro ad H locs ls h1 h2 h3 h4 h5 h6 h7 h8
  show W p l e R s m args below meth c H locs cells slots Q (F0 m pc ls (.int x :: st.map (rv ad)))
  exact lv_if_le hx hb hd ht (fun q => kt q ad H locs ls h1 h2 h3 h4.2 h5 h6 h7 h8) (fun q => kf q ad H locs ls h1 h2 h3 h4.2 h5 h6 h7 h8)
theorem q_icmp_eq (C : qCB X own cc n d mc ms) {x y : Int32} {off : Int} {tgt : Nat} (hd : decode cc pc = .ok (.if_icmp .eq off, 3)) (ht : (pc : Int) + off = (tgt : Int)) (kt : x = y → qG X tgt lo st sh I L P cells slots) (kf : ¬ x = y → qG X (pc + 3) lo st sh I L P cells slots) : qG X pc lo (.int y :: .int x :: st) sh I L P cells slots := by
  obtain ⟨p, l, e, R, s, m, args, below, meth, c, nL, D, cA, A, H0, Q, ad0⟩ := X
  obtain ⟨hx, hb, ⟨hml, hnl⟩, hown, hts, hK, hA, hlk, hE, hR⟩ := C
  intro ad H locs ls h1 h2 h3 h4 h5 h6 h7 h8
  show W p l e R s m args below meth c H locs cells slots Q (F0 m pc ls (.int y :: .int x :: st.map (rv ad)))
  exact lv_icmp_eq hx hb hd ht (fun q => kt q ad H locs ls h1 h2 h3 h4.2.2 h5 h6 h7 h8) (fun q => kf q ad H locs ls h1 h2 h3 h4.2.2 h5 h6 h7 h8)
theorem q_icmp_ne (C : qCB X own cc n d mc ms) {x y : Int32} {off : Int} {tgt : Nat} (hd : decode cc pc = .ok (.if_icmp .ne off, 3)) (ht : (pc : Int) + off = (tgt : Int)) (kt : ¬ x = y → qG X tgt lo st sh I L P cells slots) (kf : x = y → qG X (pc + 3) lo st sh I L P cells slots) : qG X pc lo (.int y :: .int x :: st) sh I L P cells slots := by
  obtain ⟨p, l, e, R, s, m, args, below, meth, c, nL, D, cA, A, H0, Q, ad0⟩ := X
  obtain ⟨hx, hb, ⟨hml, hnl⟩, hown, hts, hK, hA, hlk, hE, hR⟩ := C
  intro ad H locs ls h1 h2 h3 h4 h5 h6 h7 h8
  show W p l e R s m args below meth c H locs cells slots Q (F0 m pc ls (.int y :: .int x :: st.map (rv ad)))
  exact lv_icmp_ne hx hb hd ht (fun q => kt q ad H locs ls h1 h2 h3 h4.2.2 h5 h6 h7 h8) (fun q => kf q ad H locs ls h1 h2 h3 h4.2.2 h5 h6 h7 h8)
theorem q_icmp_lt (C : qCB X own cc n d mc ms) {x y : Int32} {off : Int} {tgt : Nat} (hd : decode cc pc = .ok (.if_icmp .lt off, 3)) (ht : (pc : Int) + off = (tgt : Int)) (kt : x < y → qG X tgt lo st sh I L P cells slots) (kf : ¬ x < y → qG X (pc + 3) lo st sh I L P cells slots) : qG X pc lo (.int y :: .int x :: st) sh I L P cells slots := by
  obtain ⟨p, l, e, R, s, m, args, below, meth, c, nL, D, cA, A, H0, Q, ad0⟩ := X
  obtain ⟨hx, hb, ⟨hml, hnl⟩, hown, hts, hK, hA, hlk, hE, hR⟩ := C
  intro ad H locs ls h1 h2 h3 h4 h5 h6 h7 h8
  show W p l e R s m args below meth c H locs cells slots Q (F0 m pc ls (.int y :: .int x :: st.map (rv ad)))
  exact lv_icmp_lt hx hb hd ht (fun q => kt q ad H locs ls h1 h2 h3 h4.2.2 h5 h6 h7 h8) (fun q => kf q ad H locs ls h1 h2 h3 h4.2.2 h5 h6 h7 h8)
theorem q_icmp_ge (C : qCB X own cc n d mc ms) {x y : Int32} {off : Int} {tgt : Nat} (hd : decode cc pc = .ok (.if_icmp .ge off, 3)) (ht : (pc : Int) + off = (tgt : Int)) (kt : y ≤ x → qG X tgt lo st sh I L P cells slots) (kf : ¬ y ≤ x → qG X (pc + 3) lo st sh I L P cells slots) : qG X pc lo (.int y :: .int x :: st) sh I L P cells slots := by
  obtain ⟨p, l, e, R, s, m, args, below, meth, c, nL, D, cA, A, H0, Q, ad0⟩ := X
  obtain ⟨hx, hb, ⟨hml, hnl⟩, hown, hts, hK, hA, hlk, hE, hR⟩ := C
  intro ad H locs ls h1 h2 h3 h4 h5 h6 h7 h8
  show W p l e R s m args below meth c H locs cells slots Q (F0 m pc ls (.int y :: .int x :: st.map (rv ad)))
  exact lv_icmp_ge hx hb hd ht (fun q => kt q ad H locs ls h1 h2 h3 h4.2.2 h5 h6 h7 h8) (fun q => kf q ad H locs ls h1 h2 h3 h4.2.2 h5 h6 h7 h8)
theorem q_icmp_gt (C : qCB X own cc n d mc ms) {x y : Int32} {off : Int} {tgt : Nat} (hd : decode cc pc = .ok (.if_icmp .gt off, 3)) (ht : (pc : Int) + off = (tgt : Int)) (kt : y < x → qG X tgt lo st sh I L P cells slots) (kf : ¬ y < x → qG X (pc + 3) lo st sh I L P cells slots) : qG X pc lo (.int y :: .int x :: st) sh I L P cells slots := by
  obtain ⟨p, l, e, R, s, m, args, below, meth, c, nL, D, cA, A, H0, Q, ad0⟩ := X
  obtain ⟨hx, hb, ⟨hml, hnl⟩, hown, hts, hK, hA, hlk, hE, hR⟩ := C
  intro ad H locs ls h1 h2 h3 h4 h5 h6 h7 h8
  show W p l e R s m args below meth c H locs cells slots Q (F0 m pc ls (.int y :: .int x :: st.map (rv ad)))
  exact lv_icmp_gt hx hb hd ht (fun q => kt q ad H locs ls h1 h2 h3 h4.2.2 h5 h6 h7 h8) (fun q => kf q ad H locs ls h1 h2 h3 h4.2.2 h5 h6 h7 h8)
theorem q_icmp_le (C : qCB X own cc n d mc ms) {x y : Int32} {off : Int} {tgt : Nat} (hd : decode cc pc = .ok (.if_icmp .le off, 3)) (ht : (pc : Int) + off = (tgt : Int)) (kt : x ≤ y → qG X tgt lo st sh I L P cells slots) (kf : ¬ x ≤ y → qG X (pc + 3) lo st sh I L P cells slots) : qG X pc lo (.int y :: .int x :: st) sh I L P cells slots := by
  obtain ⟨p, l, e, R, s, m, args, below, meth, c, nL, D, cA, A, H0, Q, ad0⟩ := X
  obtain ⟨hx, hb, ⟨hml, hnl⟩, hown, hts, hK, hA, hlk, hE, hR⟩ := C
  intro ad H locs ls h1 h2 h3 h4 h5 h6 h7 h8
  show W p l e R s m args below meth c H locs cells slots Q (F0 m pc ls (.int y :: .int x :: st.map (rv ad)))
  exact lv_icmp_le hx hb hd ht (fun q => kt q ad H locs ls h1 h2 h3 h4.2.2 h5 h6 h7 h8) (fun q => kf q ad H locs ls h1 h2 h3 h4.2.2 h5 h6 h7 h8)
theorem q_lcmp_eq (C : qCB X own cc n d mc ms) {x y : Int64} {off : Int} {tgt : Nat} (hd0 : decode cc pc = .ok (.lcmp, 1)) (hd : decode cc (pc + 1) = .ok (.ifCond .eq off, 3)) (ht : ((pc + 1 : Nat) : Int) + off = (tgt : Int)) (kt : x = y → qG X tgt lo st sh I L P cells slots) (kf : ¬ x = y → qG X (pc + 4) lo st sh I L P cells slots) : qG X pc lo (.long y :: .long x :: st) sh I L P cells slots := by
  obtain ⟨p, l, e, R, s, m, args, below, meth, c, nL, D, cA, A, H0, Q, ad0⟩ := X
  obtain ⟨hx, hb, ⟨hml, hnl⟩, hown, hts, hK, hA, hlk, hE, hR⟩ := C
  intro ad H locs ls h1 h2 h3 h4 h5 h6 h7 h8
  show W p l e R s m args below meth c H locs cells slots Q (F0 m pc ls (.long y :: .long x :: st.map (rv ad)))
  refine W.lcmp hx hb hd0 ?_
  exact lv_if_eq hx hb hd ht (fun q => kt ((lg_cmp_eq x y).mp q) ad H locs ls h1 h2 h3 h4.2.2 h5 h6 h7 h8) (fun q => kf (fun z => q ((lg_cmp_eq x y).mpr z)) ad H locs ls h1 h2 h3 h4.2.2 h5 h6 h7 h8)
theorem q_lcmp_ne (C : qCB X own cc n d mc ms) {x y : Int64} {off : Int} {tgt : Nat} (hd0 : decode cc pc = .ok (.lcmp, 1)) (hd : decode cc (pc + 1) = .ok (.ifCond .ne off, 3)) (ht : ((pc + 1 : Nat) : Int) + off = (tgt : Int)) (kt : ¬ x = y → qG X tgt lo st sh I L P cells slots) (kf : x = y → qG X (pc + 4) lo st sh I L P cells slots) : qG X pc lo (.long y :: .long x :: st) sh I L P cells slots := by
  obtain ⟨p, l, e, R, s, m, args, below, meth, c, nL, D, cA, A, H0, Q, ad0⟩ := X
  obtain ⟨hx, hb, ⟨hml, hnl⟩, hown, hts, hK, hA, hlk, hE, hR⟩ := C
  intro ad H locs ls h1 h2 h3 h4 h5 h6 h7 h8
  show W p l e R s m args below meth c H locs cells slots Q (F0 m pc ls (.long y :: .long x :: st.map (rv ad)))
  refine W.lcmp hx hb hd0 ?_
  exact lv_if_ne hx hb hd ht (fun q => kt (fun z => q ((lg_cmp_eq x y).mpr z)) ad H locs ls h1 h2 h3 h4.2.2 h5 h6 h7 h8) (fun q => kf ((lg_cmp_eq x y).mp q) ad H locs ls h1 h2 h3 h4.2.2 h5 h6 h7 h8)
theorem q_lcmp_lt (C : qCB X own cc n d mc ms) {x y : Int64} {off : Int} {tgt : Nat} (hd0 : decode cc pc = .ok (.lcmp, 1)) (hd : decode cc (pc + 1) = .ok (.ifCond .lt off, 3)) (ht : ((pc + 1 : Nat) : Int) + off = (tgt : Int)) (kt : x < y → qG X tgt lo st sh I L P cells slots) (kf : ¬ x < y → qG X (pc + 4) lo st sh I L P cells slots) : qG X pc lo (.long y :: .long x :: st) sh I L P cells slots := by
  obtain ⟨p, l, e, R, s, m, args, below, meth, c, nL, D, cA, A, H0, Q, ad0⟩ := X
  obtain ⟨hx, hb, ⟨hml, hnl⟩, hown, hts, hK, hA, hlk, hE, hR⟩ := C
  intro ad H locs ls h1 h2 h3 h4 h5 h6 h7 h8
  show W p l e R s m args below meth c H locs cells slots Q (F0 m pc ls (.long y :: .long x :: st.map (rv ad)))
  refine W.lcmp hx hb hd0 ?_
  exact lv_if_lt hx hb hd ht (fun q => kt ((lg_cmp_lt x y).mp q) ad H locs ls h1 h2 h3 h4.2.2 h5 h6 h7 h8) (fun q => kf (fun z => q ((lg_cmp_lt x y).mpr z)) ad H locs ls h1 h2 h3 h4.2.2 h5 h6 h7 h8)
theorem q_lcmp_ge (C : qCB X own cc n d mc ms) {x y : Int64} {off : Int} {tgt : Nat} (hd0 : decode cc pc = .ok (.lcmp, 1)) (hd : decode cc (pc + 1) = .ok (.ifCond .ge off, 3)) (ht : ((pc + 1 : Nat) : Int) + off = (tgt : Int)) (kt : y ≤ x → qG X tgt lo st sh I L P cells slots) (kf : ¬ y ≤ x → qG X (pc + 4) lo st sh I L P cells slots) : qG X pc lo (.long y :: .long x :: st) sh I L P cells slots := by
  obtain ⟨p, l, e, R, s, m, args, below, meth, c, nL, D, cA, A, H0, Q, ad0⟩ := X
  obtain ⟨hx, hb, ⟨hml, hnl⟩, hown, hts, hK, hA, hlk, hE, hR⟩ := C
  intro ad H locs ls h1 h2 h3 h4 h5 h6 h7 h8
  show W p l e R s m args below meth c H locs cells slots Q (F0 m pc ls (.long y :: .long x :: st.map (rv ad)))
  refine W.lcmp hx hb hd0 ?_
  exact lv_if_ge hx hb hd ht (fun q => kt ((lg_cmp_ge x y).mp q) ad H locs ls h1 h2 h3 h4.2.2 h5 h6 h7 h8) (fun q => kf (fun z => q ((lg_cmp_ge x y).mpr z)) ad H locs ls h1 h2 h3 h4.2.2 h5 h6 h7 h8)
theorem q_lcmp_gt (C : qCB X own cc n d mc ms) {x y : Int64} {off : Int} {tgt : Nat} (hd0 : decode cc pc = .ok (.lcmp, 1)) (hd : decode cc (pc + 1) = .ok (.ifCond .gt off, 3)) (ht : ((pc + 1 : Nat) : Int) + off = (tgt : Int)) (kt : y < x → qG X tgt lo st sh I L P cells slots) (kf : ¬ y < x → qG X (pc + 4) lo st sh I L P cells slots) : qG X pc lo (.long y :: .long x :: st) sh I L P cells slots := by
  obtain ⟨p, l, e, R, s, m, args, below, meth, c, nL, D, cA, A, H0, Q, ad0⟩ := X
  obtain ⟨hx, hb, ⟨hml, hnl⟩, hown, hts, hK, hA, hlk, hE, hR⟩ := C
  intro ad H locs ls h1 h2 h3 h4 h5 h6 h7 h8
  show W p l e R s m args below meth c H locs cells slots Q (F0 m pc ls (.long y :: .long x :: st.map (rv ad)))
  refine W.lcmp hx hb hd0 ?_
  exact lv_if_gt hx hb hd ht (fun q => kt ((lg_cmp_gt x y).mp q) ad H locs ls h1 h2 h3 h4.2.2 h5 h6 h7 h8) (fun q => kf (fun z => q ((lg_cmp_gt x y).mpr z)) ad H locs ls h1 h2 h3 h4.2.2 h5 h6 h7 h8)
theorem q_lcmp_le (C : qCB X own cc n d mc ms) {x y : Int64} {off : Int} {tgt : Nat} (hd0 : decode cc pc = .ok (.lcmp, 1)) (hd : decode cc (pc + 1) = .ok (.ifCond .le off, 3)) (ht : ((pc + 1 : Nat) : Int) + off = (tgt : Int)) (kt : x ≤ y → qG X tgt lo st sh I L P cells slots) (kf : ¬ x ≤ y → qG X (pc + 4) lo st sh I L P cells slots) : qG X pc lo (.long y :: .long x :: st) sh I L P cells slots := by
  obtain ⟨p, l, e, R, s, m, args, below, meth, c, nL, D, cA, A, H0, Q, ad0⟩ := X
  obtain ⟨hx, hb, ⟨hml, hnl⟩, hown, hts, hK, hA, hlk, hE, hR⟩ := C
  intro ad H locs ls h1 h2 h3 h4 h5 h6 h7 h8
  show W p l e R s m args below meth c H locs cells slots Q (F0 m pc ls (.long y :: .long x :: st.map (rv ad)))
  refine W.lcmp hx hb hd0 ?_
  exact lv_if_le hx hb hd ht (fun q => kt ((lg_cmp_le x y).mp q) ad H locs ls h1 h2 h3 h4.2.2 h5 h6 h7 h8) (fun q => kf (fun z => q ((lg_cmp_le x y).mpr z)) ad H locs ls h1 h2 h3 h4.2.2 h5 h6 h7 h8)
theorem q_goto (C : qCB X own cc n d mc ms) {off : Int} {tgt : Nat} (hd : decode cc pc = .ok (.goto off, 3)) (ht : (pc : Int) + off = (tgt : Int)) (k : qG X tgt lo st sh I L P cells slots) : qG X pc lo st sh I L P cells slots := by
  obtain ⟨p, l, e, R, s, m, args, below, meth, c, nL, D, cA, A, H0, Q, ad0⟩ := X
  obtain ⟨hx, hb, ⟨hml, hnl⟩, hown, hts, hK, hA, hlk, hE, hR⟩ := C
  intro ad H locs ls h1 h2 h3 h4 h5 h6 h7 h8
  exact lv_goto hx hb hd ht (k ad H locs ls h1 h2 h3 h4 h5 h6 h7 h8)
theorem q_dup (C : qCB X own cc n d mc ms) {v : Value} (hd : decode cc pc = .ok (.dup, 1)) (hv : v.category = 1) (k : qG X (pc + 1) lo (v :: v :: st) sh I L P cells slots) : qG X pc lo (v :: st) sh I L P cells slots := by
  obtain ⟨p, l, e, R, s, m, args, below, meth, c, nL, D, cA, A, H0, Q, ad0⟩ := X
  obtain ⟨hx, hb, ⟨hml, hnl⟩, hown, hts, hK, hA, hlk, hE, hR⟩ := C
  intro ad H locs ls h1 h2 h3 h4 h5 h6 h7 h8
  exact lv_dup hx hb hd (by rw [rv_cat]; exact hv) (k ad H locs ls h1 h2 h3 ⟨h4.1, h4⟩ h5 h6 h7 h8)
theorem q_pop (C : qCB X own cc n d mc ms) {v : Value} (hd : decode cc pc = .ok (.pop, 1)) (hv : v.category = 1) (k : qG X (pc + 1) lo st sh I L P cells slots) : qG X pc lo (v :: st) sh I L P cells slots := by
  obtain ⟨p, l, e, R, s, m, args, below, meth, c, nL, D, cA, A, H0, Q, ad0⟩ := X
  obtain ⟨hx, hb, ⟨hml, hnl⟩, hown, hts, hK, hA, hlk, hE, hR⟩ := C
  intro ad H locs ls h1 h2 h3 h4 h5 h6 h7 h8
  exact lv_pop hx hb hd (by rw [rv_cat]; exact hv) (k ad H locs ls h1 h2 h3 h4.2 h5 h6 h7 h8)
theorem q_dup2 (C : qCB X own cc n d mc ms) {v w : Value} (hd : decode cc pc = .ok (.dup2, 1)) (hv : v.category = 1) (hw : w.category = 1) (k : qG X (pc + 1) lo (v :: w :: v :: w :: st) sh I L P cells slots) : qG X pc lo (v :: w :: st) sh I L P cells slots := by
  obtain ⟨p, l, e, R, s, m, args, below, meth, c, nL, D, cA, A, H0, Q, ad0⟩ := X
  obtain ⟨hx, hb, ⟨hml, hnl⟩, hown, hts, hK, hA, hlk, hE, hR⟩ := C
  intro ad H locs ls h1 h2 h3 h4 h5 h6 h7 h8
  exact lv_dup2_11 hx hb hd (by rw [rv_cat]; exact hv) (by rw [rv_cat]; exact hw) (k ad H locs ls h1 h2 h3 ⟨h4.1, h4.2.1, h4⟩ h5 h6 h7 h8)
theorem q_pop2 (C : qCB X own cc n d mc ms) {x : Int64} (hd : decode cc pc = .ok (.pop2, 1)) (k : qG X (pc + 1) lo st sh I L P cells slots) : qG X pc lo (.long x :: st) sh I L P cells slots := by
  obtain ⟨p, l, e, R, s, m, args, below, meth, c, nL, D, cA, A, H0, Q, ad0⟩ := X
  obtain ⟨hx, hb, ⟨hml, hnl⟩, hown, hts, hK, hA, hlk, hE, hR⟩ := C
  intro ad H locs ls h1 h2 h3 h4 h5 h6 h7 h8
  exact lv_pop2_2 (va := .long x) hx hb hd rfl (k ad H locs ls h1 h2 h3 h4.2 h5 h6 h7 h8)
theorem q_ldc (C : qCB X own cc n d mc ms) {idx : Nat} {v : Int32} (hc : Cond.constant own idx v ∈ TT) (hd : decode cc pc = .ok (.ldc idx, 2)) (k : qG X (pc + 2) lo (.int v :: st) sh I L P cells slots) : qG X pc lo st sh I L P cells slots := by
  obtain ⟨p, l, e, R, s, m, args, below, meth, c, nL, D, cA, A, H0, Q, ad0⟩ := X
  obtain ⟨hx, hb, ⟨hml, hnl⟩, hown, hts, hK, hA, hlk, hE, hR⟩ := C
  intro ad H locs ls h1 h2 h3 h4 h5 h6 h7 h8
  exact lv_ldc hx hb hown (hts _ hc) hd (k ad H locs ls h1 h2 h3 ⟨trivial, h4⟩ h5 h6 h7 h8)
theorem q_ldcw (C : qCB X own cc n d mc ms) {idx : Nat} {v : Int32} (hc : Cond.constant own idx v ∈ TT) (hd : decode cc pc = .ok (.ldc_w idx, 3)) (k : qG X (pc + 3) lo (.int v :: st) sh I L P cells slots) : qG X pc lo st sh I L P cells slots := by
  obtain ⟨p, l, e, R, s, m, args, below, meth, c, nL, D, cA, A, H0, Q, ad0⟩ := X
  obtain ⟨hx, hb, ⟨hml, hnl⟩, hown, hts, hK, hA, hlk, hE, hR⟩ := C
  intro ad H locs ls h1 h2 h3 h4 h5 h6 h7 h8
  exact lv_ldcw hx hb hown (hts _ hc) hd (k ad H locs ls h1 h2 h3 ⟨trivial, h4⟩ h5 h6 h7 h8)
theorem q_ldc2 (C : qCB X own cc n d mc ms) {idx : Nat} {v : Int64} (hc : Cond.constantLong own idx v ∈ TT) (hd : decode cc pc = .ok (.ldc2_w idx, 3)) (k : qG X (pc + 3) lo (.long v :: st) sh I L P cells slots) : qG X pc lo st sh I L P cells slots := by
  obtain ⟨p, l, e, R, s, m, args, below, meth, c, nL, D, cA, A, H0, Q, ad0⟩ := X
  obtain ⟨hx, hb, ⟨hml, hnl⟩, hown, hts, hK, hA, hlk, hE, hR⟩ := C
  intro ad H locs ls h1 h2 h3 h4 h5 h6 h7 h8
  exact lv_ldc2 hx hb hown (hts _ hc) hd (k ad H locs ls h1 h2 h3 ⟨trivial, h4⟩ h5 h6 h7 h8)
theorem q_getI (C : qCB X own cc n d mc ms) {idx ci kk r : Nat} {fin : Bool} (hf : FLg own idx ci kk fin) (ht : (FT ci)[kk]? = some 0) (hs : (shp sh r).1 = ci) (hd : decode cc pc = .ok (.getfield idx, 3)) (k : qG X (pc + 3) lo (.int (I r kk) :: st) sh I L P cells slots) : qG X pc lo (.ref r :: st) sh I L P cells slots := by
  obtain ⟨p, l, e, R, s, m, args, below, meth, c, nL, D, cA, A, H0, Q, ad0⟩ := X
  obtain ⟨hx, hb, ⟨hml, hnl⟩, hown, hts, hK, hA, hlk, hE, hR⟩ := C
  intro ad H locs ls h1 h2 h3 h4 h5 h6 h7 h8
  obtain ⟨C', T, N, ty, ⟨hc, hin, hty, hnm, hlen, h20, hdf⟩, hk, hC, hfin, hl⟩ := hf
  obtain ⟨k0, a, rfl, hk0, ha, es, hw, hg⟩ := wl_get (cA := cA) I L P (show (shp sh r).1 ≠ 99 by omega) h1
  rw [cel_obj (show (shp sh (k0 + 1)).1 < 20 by omega), hs] at hw
  show W p l e R s m args below meth c H locs cells slots Q (F0 m pc ls (va_rf (gr ad (k0 + 1)) :: st.map (rv ad)))
  rw [hg]
  exact va_get hx hb hts hin hown hK h6 k0 hw hc kk hk (hts _ hl) (fun x hx => by rw [hC] at hx; exact hx) (flds_get ht) hd (k ad H locs ls h1 h2 h3 ⟨trivial, h4.2⟩ h5 h6 h7 h8)
theorem q_getL (C : qCB X own cc n d mc ms) {idx ci kk r : Nat} {fin : Bool} (hf : FLg own idx ci kk fin) (ht : (FT ci)[kk]? = some 1) (hs : (shp sh r).1 = ci) (hd : decode cc pc = .ok (.getfield idx, 3)) (k : qG X (pc + 3) lo (.long (L r kk) :: st) sh I L P cells slots) : qG X pc lo (.ref r :: st) sh I L P cells slots := by
  obtain ⟨p, l, e, R, s, m, args, below, meth, c, nL, D, cA, A, H0, Q, ad0⟩ := X
  obtain ⟨hx, hb, ⟨hml, hnl⟩, hown, hts, hK, hA, hlk, hE, hR⟩ := C
  intro ad H locs ls h1 h2 h3 h4 h5 h6 h7 h8
  obtain ⟨C', T, N, ty, ⟨hc, hin, hty, hnm, hlen, h20, hdf⟩, hk, hC, hfin, hl⟩ := hf
  obtain ⟨k0, a, rfl, hk0, ha, es, hw, hg⟩ := wl_get (cA := cA) I L P (show (shp sh r).1 ≠ 99 by omega) h1
  rw [cel_obj (show (shp sh (k0 + 1)).1 < 20 by omega), hs] at hw
  show W p l e R s m args below meth c H locs cells slots Q (F0 m pc ls (va_rf (gr ad (k0 + 1)) :: st.map (rv ad)))
  rw [hg]
  exact va_get hx hb hts hin hown hK h6 k0 hw hc kk hk (hts _ hl) (fun x hx => by rw [hC] at hx; exact hx) (flds_get ht) hd (k ad H locs ls h1 h2 h3 ⟨trivial, h4.2⟩ h5 h6 h7 h8)
theorem q_getP (C : qCB X own cc n d mc ms) {idx ci kk r : Nat} {fin : Bool} (hf : FLg own idx ci kk fin) (ht : (FT ci)[kk]? = some 2) (hs : (shp sh r).1 = ci) (hd : decode cc pc = .ok (.getfield idx, 3)) (k : qG X (pc + 3) lo (.ref (P r kk) :: st) sh I L P cells slots) : qG X pc lo (.ref r :: st) sh I L P cells slots := by
  obtain ⟨p, l, e, R, s, m, args, below, meth, c, nL, D, cA, A, H0, Q, ad0⟩ := X
  obtain ⟨hx, hb, ⟨hml, hnl⟩, hown, hts, hK, hA, hlk, hE, hR⟩ := C
  intro ad H locs ls h1 h2 h3 h4 h5 h6 h7 h8
  obtain ⟨C', T, N, ty, ⟨hc, hin, hty, hnm, hlen, h20, hdf⟩, hk, hC, hfin, hl⟩ := hf
  obtain ⟨k0, a, rfl, hk0, ha, es, hw, hg⟩ := wl_get (cA := cA) I L P (show (shp sh r).1 ≠ 99 by omega) h1
  rw [cel_obj (show (shp sh (k0 + 1)).1 < 20 by omega), hs] at hw
  show W p l e R s m args below meth c H locs cells slots Q (F0 m pc ls (va_rf (gr ad (k0 + 1)) :: st.map (rv ad)))
  rw [hg]
  exact va_get hx hb hts hin hown hK h6 k0 hw hc kk hk (hts _ hl) (fun x hx => by rw [hC] at hx; exact hx) (flds_get ht) hd (k ad H locs ls h1 h2 h3 ⟨h3.1 _ _, h4.2⟩ h5 h6 h7 h8)
theorem q_putI (C : qCB X own cc n d mc ms) {idx ci kk r : Nat} {v : Int32} (hf : FLg own idx ci kk false) (hq : ∀ T, vwCl[ci]?.map (fun q => q.2.1) = some T → (T kk).2.2.1 = "I") (ht : (FT ci)[kk]? = some 0) (hs : (shp sh r).1 = ci) (hd : decode cc pc = .ok (.putfield idx, 3)) (k : ∀ I1 : qMI, I1 = uI I r kk v → qG X (pc + 3) lo st sh I1 L P cells slots) : qG X pc lo (.int v :: .ref r :: st) sh I L P cells slots := by
  obtain ⟨p, l, e, R, s, m, args, below, meth, c, nL, D, cA, A, H0, Q, ad0⟩ := X
  obtain ⟨hx, hb, ⟨hml, hnl⟩, hown, hts, hK, hA, hlk, hE, hR⟩ := C
  intro ad H locs ls h1 h2 h3 h4 h5 h6 h7 h8
  obtain ⟨C', T, N, ty, ⟨hc, hin, hty, hnm, hlen, h20, hdf⟩, hk, hC, hfin, hl⟩ := hf
  obtain ⟨k0, a, rfl, hk0, ha, es, hw, hg⟩ := wl_get (cA := cA) I L P (show (shp sh r).1 ≠ 99 by omega) h1
  rw [cel_obj (show (shp sh (k0 + 1)).1 < 20 by omega), hs] at hw
  have k := k _ rfl
  have he : vwCl[ci]?.map (fun q => q.2.1) = some T := by rw [hc]; rfl
  have hd0 : parseFieldDescriptor (T kk).2.2.1 = some .int := by rw [hq T he]; decide +kernel
  show W p l e R s m args below meth c H locs cells slots Q (F0 m pc ls (.int v :: va_rf (gr ad (k0 + 1)) :: st.map (rv ad)))
  rw [hg]
  have hset : (wl cA ad sh I L P).set k0 (a, .inr (ci, (flds ad I L P (k0 + 1) (FT ci)).set kk (.int v))) = wl cA ad sh (uI I (k0 + 1) kk v) L P := by
    subst ha
    refine wl_set hk0 ?_ (uI_ne) (fun _ _ => rfl) (fun _ _ => rfl)
    rw [← es, cel_obj (show (shp sh (k0 + 1)).1 < 20 by omega), hs]
    exact congrArg (fun z => (.inr (ci, z) : va_E)) (flds_set ht (by simp [fv, uI, uL]) (fun j hj => by simp [uI, uL, hj]))
  refine va_put hx hb hts hin ty hty hnm hown hK h6 h7 h8 k0 hw hc kk hk (hts _ hl) (fun x hx => by rw [hC] at hx; exact hx) hfin hd0 rfl rfl (by rw [flds_len]; omega) hd (fun H1 locs1 hP hD hS => ?_)
  rw [hset] at hP hD
  exact k ad H1 locs1 ls h1 h2 (h3.uI (by omega) kk v) h4.2.2 h5 hP hD hS
theorem q_putZ (C : qCB X own cc n d mc ms) {idx ci kk r : Nat} {v : Int32} (hf : FLg own idx ci kk false) (hq : ∀ T, vwCl[ci]?.map (fun q => q.2.1) = some T → (T kk).2.2.1 = "Z") (ht : (FT ci)[kk]? = some 0) (hs : (shp sh r).1 = ci) (hv : v = 0 ∨ v = 1) (hd : decode cc pc = .ok (.putfield idx, 3)) (k : ∀ I1 : qMI, I1 = uI I r kk v → qG X (pc + 3) lo st sh I1 L P cells slots) : qG X pc lo (.int v :: .ref r :: st) sh I L P cells slots := by
  obtain ⟨p, l, e, R, s, m, args, below, meth, c, nL, D, cA, A, H0, Q, ad0⟩ := X
  obtain ⟨hx, hb, ⟨hml, hnl⟩, hown, hts, hK, hA, hlk, hE, hR⟩ := C
  intro ad H locs ls h1 h2 h3 h4 h5 h6 h7 h8
  obtain ⟨C', T, N, ty, ⟨hc, hin, hty, hnm, hlen, h20, hdf⟩, hk, hC, hfin, hl⟩ := hf
  obtain ⟨k0, a, rfl, hk0, ha, es, hw, hg⟩ := wl_get (cA := cA) I L P (show (shp sh r).1 ≠ 99 by omega) h1
  rw [cel_obj (show (shp sh (k0 + 1)).1 < 20 by omega), hs] at hw
  have k := k _ rfl
  have he : vwCl[ci]?.map (fun q => q.2.1) = some T := by rw [hc]; rfl
  have hd0 : parseFieldDescriptor (T kk).2.2.1 = some .boolean := by rw [hq T he]; decide +kernel
  show W p l e R s m args below meth c H locs cells slots Q (F0 m pc ls (.int v :: va_rf (gr ad (k0 + 1)) :: st.map (rv ad)))
  rw [hg]
  have hset : (wl cA ad sh I L P).set k0 (a, .inr (ci, (flds ad I L P (k0 + 1) (FT ci)).set kk (.int v))) = wl cA ad sh (uI I (k0 + 1) kk v) L P := by
    subst ha
    refine wl_set hk0 ?_ (uI_ne) (fun _ _ => rfl) (fun _ _ => rfl)
    rw [← es, cel_obj (show (shp sh (k0 + 1)).1 < 20 by omega), hs]
    exact congrArg (fun z => (.inr (ci, z) : va_E)) (flds_set ht (by simp [fv, uI, uL]) (fun j hj => by simp [uI, uL, hj]))
  refine va_put hx hb hts hin ty hty hnm hown hK h6 h7 h8 k0 hw hc kk hk (hts _ hl) (fun x hx => by rw [hC] at hx; exact hx) hfin hd0 (by rcases hv with rfl | rfl <;> rfl) (by rcases hv with rfl | rfl <;> rfl) (by rw [flds_len]; omega) hd (fun H1 locs1 hP hD hS => ?_)
  rw [hset] at hP hD
  exact k ad H1 locs1 ls h1 h2 (h3.uI (by omega) kk v) h4.2.2 h5 hP hD hS
theorem q_putL (C : qCB X own cc n d mc ms) {idx ci kk r : Nat} {v : Int64} (hf : FLg own idx ci kk false) (hq : ∀ T, vwCl[ci]?.map (fun q => q.2.1) = some T → (T kk).2.2.1 = "J") (ht : (FT ci)[kk]? = some 1) (hs : (shp sh r).1 = ci) (hd : decode cc pc = .ok (.putfield idx, 3)) (k : ∀ L1 : qML, L1 = uL L r kk v → qG X (pc + 3) lo st sh I L1 P cells slots) : qG X pc lo (.long v :: .ref r :: st) sh I L P cells slots := by
  obtain ⟨p, l, e, R, s, m, args, below, meth, c, nL, D, cA, A, H0, Q, ad0⟩ := X
  obtain ⟨hx, hb, ⟨hml, hnl⟩, hown, hts, hK, hA, hlk, hE, hR⟩ := C
  intro ad H locs ls h1 h2 h3 h4 h5 h6 h7 h8
  obtain ⟨C', T, N, ty, ⟨hc, hin, hty, hnm, hlen, h20, hdf⟩, hk, hC, hfin, hl⟩ := hf
  obtain ⟨k0, a, rfl, hk0, ha, es, hw, hg⟩ := wl_get (cA := cA) I L P (show (shp sh r).1 ≠ 99 by omega) h1
  rw [cel_obj (show (shp sh (k0 + 1)).1 < 20 by omega), hs] at hw
  have k := k _ rfl
  have he : vwCl[ci]?.map (fun q => q.2.1) = some T := by rw [hc]; rfl
  have hd0 : parseFieldDescriptor (T kk).2.2.1 = some .long := by rw [hq T he]; decide +kernel
  show W p l e R s m args below meth c H locs cells slots Q (F0 m pc ls (.long v :: va_rf (gr ad (k0 + 1)) :: st.map (rv ad)))
  rw [hg]
  have hset : (wl cA ad sh I L P).set k0 (a, .inr (ci, (flds ad I L P (k0 + 1) (FT ci)).set kk (.long v))) = wl cA ad sh I (uL L (k0 + 1) kk v) P := by
    subst ha
    refine wl_set hk0 ?_ (fun _ _ => rfl) (uL_ne) (fun _ _ => rfl)
    rw [← es, cel_obj (show (shp sh (k0 + 1)).1 < 20 by omega), hs]
    exact congrArg (fun z => (.inr (ci, z) : va_E)) (flds_set ht (by simp [fv, uI, uL]) (fun j hj => by simp [uI, uL, hj]))
  refine va_put hx hb hts hin ty hty hnm hown hK h6 h7 h8 k0 hw hc kk hk (hts _ hl) (fun x hx => by rw [hC] at hx; exact hx) hfin hd0 rfl rfl (by rw [flds_len]; omega) hd (fun H1 locs1 hP hD hS => ?_)
  rw [hset] at hP hD
  exact k ad H1 locs1 ls h1 h2 (h3.uL (by omega) kk v) h4.2.2 h5 hP hD hS
end QS
