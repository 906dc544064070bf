/-! ===== BEGIN new T[n][m]: the outer array a place, the inner ones among the pooled ===== -/
/-- f, but v at every address of l -/
def vr_up {α : Type} (f : Nat → α) (l : List Nat) (v : α) : Nat → α := fun a => if a ∈ l then v else f a
theorem vr_up_in {α : Type} {f : Nat → α} {l : List Nat} {v : α} {a : Nat} (h : a ∈ l) : vr_up f l v a = v := if_pos h
theorem vr_up_ne {α : Type} {f : Nat → α} {l : List Nat} {v : α} {a : Nat} (h : a ∉ l) : vr_up f l v a = f a := if_neg h
theorem vr_rows {L l : List Nat} {f : Nat → va_E} {e : va_E} (h : ∀ a, a ∈ l → a ∉ L) : va_pl L f ++ l.map (fun a => (a, e)) = va_pl (L ++ l) (vr_up f l e) := by
  unfold va_pl
  rw [List.map_append]
  congr 1
  · apply List.map_congr_left
    intro a ha
    rw [vr_up_ne (fun q => h a q ha)]
  · apply List.map_congr_left
    intro a ha
    rw [vr_up_in ha]
theorem vr_lay {X rows : va_W} {x : Nat × va_E} {pl : va_W} {D : va_G} {cl : List vw_C} {H : Heap} (hP : va_P D cl (((X ++ pl) ++ [x]) ++ rows) H) : va_P D cl ((X ++ [x]) ++ (pl ++ rows)) H := by
  rw [List.append_assoc (X ++ pl)] at hP
  have h := va_P.swap hP
  rw [← List.append_assoc X] at h
  have h2 := va_P.swap h
  rw [List.append_assoc (X ++ [x])] at h2
  exact h2
theorem vr_layD {X rows : va_W} {x : Nat × va_E} {pl : va_W} {A : Nat → Prop} (hD : va_D A (((X ++ pl) ++ [x]) ++ rows)) : va_D A ((X ++ [x]) ++ (pl ++ rows)) := by
  rw [List.append_assoc (X ++ pl)] at hD
  have h := va_D.swap hD
  rw [← List.append_assoc X] at h
  have h2 := va_D.swap h
  rw [List.append_assoc (X ++ [x])] at h2
  exact h2
theorem vr_outer (c : ClassId) (N h0 : Nat) : ∀ i : Nat, Jvm.Free.Multi.outerC c N h0 i = arrV c N (fun j => va_rf (if j < i then some (h0 + 1 + j) else none))
  | 0 => by
    show ({ cls := c, slots := Array.replicate N .null, vm := .none } : Cell) = _
    rw [arrV_new]
    refine congrArg (arrV c N) (funext fun j => ?_)
    simp [va_rf]
  | i + 1 => by
    show (Jvm.Free.Multi.outerC c N h0 i).setSlot i (.ref (h0 + 1 + i)) = _
    rw [vr_outer c N h0 i, arrV_store]
    refine congrArg (arrV c N) (funext fun j => ?_)
    by_cases e : j = i
    · subst e
      simp [updV, va_rf]
    · by_cases h : j < i
      · simp [updV, e, h, Nat.lt_succ_of_lt h]
      · simp [updV, e, h, show ¬ j < i + 1 by omega]
section VGM
variable {p : Program} {l : Launch} {e : Env} {R : Room} {s : State} {m : MethodId} {args : Array Value} {below : List Frame} {meth : Method} {c : Code} {H : Heap} {locs : List Loc} {cells slots : Nat} {Q : State → Prop}
variable {cc : ByteArray} {pc : Nat} {ls : Array Slot} {rest : List Value} {D : va_G} {cl : List vw_C} {A : Nat → Prop} {a : Nat} {tys : List (ClassId × FieldType)} {ws : va_W} {H0 : Heap}
theorem va_mna {X : va_W} {L : List Nat} {f : Nat → va_E} {cc : ByteArray} (hexec : p.tables.exec = Jvm.exec) (hb : c.code = cc) {own : String} {index : Nat} {ty : FieldType} {cy : ClassId} (hown : s.vm.findClass own = some m.cls) (hclink : (Cond.classLink own index ("[" ++ (FieldType.array ty).toString)).before args s = true) (hover : (Cond.arrayOver (.array ty)).before args s = true) (harr : (Cond.arrayClass ty).before args s = true) (hcy : s.vm.findClass (FieldType.array ty).toString = some cy)
    (hK : va_K D cl tys s) (hP : va_P D cl (X ++ va_pl L f) H) (hD : va_D A (X ++ va_pl L f)) (hS : va_S A H0 H locs) (hA : ∀ q, H0.size ≤ q → A q) {n k : Int32} {N' K' : Nat} {z : vp_A} (hn : ¬ n < 0) (hk : ¬ k < 0) (hN : n.toNatClampNeg = N') (hM : k.toNatClampNeg = K')
    (hb1 : N' * 4 ≤ 536870912) (hb2 : K' * componentBytes ty ≤ 536870912) (hb3 : K' ≤ 536870912) (hdf : fits ty (defaultValue ty) = true) (hdd : (defaultValue ty).isDefault = true) (hcells : cells + (1 + N') ≤ R.cells) (hslots : slots + (N' + N' * K') ≤ R.slots) (hz : ∀ c : ClassId, Jvm.Free.Multi.innerC c K' (defaultValue ty) = vp_cell c z) (hdg : decode cc pc = .ok (.multianewarray index 2, 4))
    (kk : ∀ (q : Nat) (r : Nat → Nat) (cA : ClassId) (H1 : Heap), (∀ i j : Nat, i < N' → j < N' → r i = r j → i = j) → (∀ i : Nat, i < N' → r i ∉ L) → va_K D cl (tys ++ [(cA, .array ty)]) s →
      va_P D cl ((X ++ [(q, .inl (cA, N', .inr (.inr (.inr (.inr (fun i => if i < N' then some (r i) else none))))))]) ++ va_pl (L ++ (List.range N').map r) (vr_up f ((List.range N').map r) (.inl (cy, z)))) H1 → va_D A ((X ++ [(q, .inl (cA, N', .inr (.inr (.inr (.inr (fun i => if i < N' then some (r i) else none))))))]) ++ va_pl (L ++ (List.range N').map r) (vr_up f ((List.range N').map r) (.inl (cy, z)))) → va_S A H0 H1 locs →
      W p l e R s m args below meth c H1 locs (cells + 1 + N') (slots + N' + N' * K') Q (F0 m (pc + 4) ls (.ref q :: rest))) : W p l e R s m args below meth c H locs cells slots Q (F0 m pc ls (.int k :: .int n :: rest)) := by
  subst hN
  subst hM
  intro T hT Xs
  obtain ⟨vm₁, cA, comp, -, fA, fC, hO, -, X', step⟩ := Xs.multianewarray2F hexec hown hclink hover harr (g := F0 m pc ls (.int k :: .int n :: rest)) rfl (by rw [hb]; exact hdg) rfl hn hk hb1 hb2 hb3 hdf hdd hcells hslots
  have ec : some cy = some comp := hcy.symm.trans fC
  cases ec
  generalize hF : Jvm.Free.Multi.fill (T.setVm vm₁) cA cy n.toNatClampNeg k.toNatClampNeg (defaultValue ty) n.toNatClampNeg = F at X' step
  have hTh : (T.setVm vm₁).heap = H := hT
  obtain ⟨f1, f2, -, -⟩ := Jvm.Free.Multi.fill_facts (T.setVm vm₁) cA cy n.toNatClampNeg k.toNatClampNeg (defaultValue ty) n.toNatClampNeg
  rw [hF, hTh] at f1 f2
  have hold : ∀ x : Nat, x < H.size → F.heap[x]? = H[x]? := fun x hx => by
    have := Jvm.Free.Multi.fill_old (T.setVm vm₁) cA cy n.toNatClampNeg k.toNatClampNeg (defaultValue ty) (a := x) (by rw [hTh]; exact hx) n.toNatClampNeg
    rw [hF, hTh] at this
    exact this
  have hrow : ∀ j : Nat, j < n.toNatClampNeg → F.heap[H.size + 1 + j]? = some (vp_cell cy z) := fun j hj => by
    have := Jvm.Free.Multi.fill_inner (T.setVm vm₁) cA cy n.toNatClampNeg k.toNatClampNeg (defaultValue ty) n.toNatClampNeg j hj
    rw [hF, hTh, hz] at this
    exact this
  have hout : Jvm.Free.Multi.outerC cA n.toNatClampNeg H.size n.toNatClampNeg = vp_cell cA (n.toNatClampNeg, .inr (.inr (.inr (.inr (fun i => if i < n.toNatClampNeg then some (H.size + 1 + i) else none))))) := by
    rw [vp_cell_q]
    exact vr_outer cA n.toNatClampNeg H.size n.toNatClampNeg
  rw [hout] at f2
  have hlt : ∀ a, a ∈ L → a < H.size := fun a ha => by
    obtain ⟨k9, hk9⟩ := va_pl_get (X := X) (f := f) ha
    exact (hP k9 _ hk9).lt
  have hnl : ∀ i : Nat, i < n.toNatClampNeg → H.size + 1 + i ∉ L := fun i _ h => by
    have := hlt _ h
    omega
  have hnm : ∀ a, a ∈ (List.range n.toNatClampNeg).map (fun i => H.size + 1 + i) → a ∉ L := fun a ha h => by
    obtain ⟨i, -, rfl⟩ := List.mem_map.mp ha
    have := hlt _ h
    omega
  have hP0 : va_P D cl (X ++ va_pl L f) F.heap := hP.kept (fun k9 x hx => hold x.1 ((hP k9 x hx).lt))
  have hP1 : va_P D cl ((X ++ va_pl L f) ++ [(H.size, .inl (cA, n.toNatClampNeg, .inr (.inr (.inr (.inr (fun i => if i < n.toNatClampNeg then some (H.size + 1 + i) else none))))))]) F.heap := hP0.app (fun k9 x hx => by
    have h0 : k9 < 1 := (List.getElem?_eq_some_iff.mp hx).1
    rw [show k9 = 0 by omega] at hx
    cases hx
    exact f2)
  have hP2 : va_P D cl (((X ++ va_pl L f) ++ [(H.size, .inl (cA, n.toNatClampNeg, .inr (.inr (.inr (.inr (fun i => if i < n.toNatClampNeg then some (H.size + 1 + i) else none))))))]) ++ ((List.range n.toNatClampNeg).map (fun i => H.size + 1 + i)).map (fun a => (a, .inl (cy, z)))) F.heap := hP1.app (fun k9 x hx => by
    obtain ⟨a, ha, rfl⟩ := List.mem_map.mp (List.mem_of_getElem? hx)
    obtain ⟨i, hi, rfl⟩ := List.mem_map.mp ha
    exact hrow i (List.mem_range.mp hi))
  have hD2 : va_D A (((X ++ va_pl L f) ++ [(H.size, .inl (cA, n.toNatClampNeg, .inr (.inr (.inr (.inr (fun i => if i < n.toNatClampNeg then some (H.size + 1 + i) else none))))))]) ++ ((List.range n.toNatClampNeg).map (fun i => H.size + 1 + i)).map (fun a => (a, .inl (cy, z)))) := by
    have hD1 := hD.push (e := .inl (cA, n.toNatClampNeg, .inr (.inr (.inr (.inr (fun i => if i < n.toNatClampNeg then some (H.size + 1 + i) else none)))))) hP rfl (hA _ hS.1)
    generalize hW1 : (X ++ va_pl L f) ++ [(H.size, .inl (cA, n.toNatClampNeg, .inr (.inr (.inr (.inr (fun i => if i < n.toNatClampNeg then some (H.size + 1 + i) else none))))))] = W1 at hD1 hP1 ⊢
    have hle : ∀ (k9 : Nat) (x : Nat × va_E), W1[k9]? = some x → x.1 ≤ H.size := fun k9 x hx => by
      rw [← hW1] at hx
      by_cases hl : k9 < (X ++ va_pl L f).length
      · rw [List.getElem?_append_left hl] at hx
        exact Nat.le_of_lt ((hP k9 x hx).lt)
      · rw [List.getElem?_append_right (by omega)] at hx
        have h0 : k9 - (X ++ va_pl L f).length < 1 := (List.getElem?_eq_some_iff.mp hx).1
        rw [show k9 - (X ++ va_pl L f).length = 0 by omega] at hx
        cases hx
        exact Nat.le_refl _
    have hr : ∀ (k9 : Nat) (x : Nat × va_E), (((List.range n.toNatClampNeg).map (fun i => H.size + 1 + i)).map (fun a => ((a, .inl (cy, z)) : Nat × va_E)))[k9]? = some x → x.1 = H.size + 1 + k9 := fun k9 x hx => by
      rw [List.getElem?_map, List.getElem?_map] at hx
      by_cases h9 : k9 < n.toNatClampNeg
      · rw [List.getElem?_range h9] at hx
        cases hx
        rfl
      · have hn0 : (List.range n.toNatClampNeg)[k9]? = none := List.getElem?_eq_none (by rw [List.length_range]; omega)
        rw [hn0] at hx
        cases hx
    refine ⟨fun i j x y hi hj hxy => ?_, fun k9 x hx => ?_⟩
    · by_cases h1 : i < W1.length <;> by_cases h2 : j < W1.length
      · rw [List.getElem?_append_left h1] at hi
        rw [List.getElem?_append_left h2] at hj
        exact hD1.1 i j x y hi hj hxy
      · rw [List.getElem?_append_left h1] at hi
        rw [List.getElem?_append_right (by omega)] at hj
        have := hle _ _ hi
        have := hr _ _ hj
        omega
      · rw [List.getElem?_append_right (by omega)] at hi
        rw [List.getElem?_append_left h2] at hj
        have := hle _ _ hj
        have := hr _ _ hi
        omega
      · rw [List.getElem?_append_right (by omega)] at hi hj
        have := hr _ _ hi
        have := hr _ _ hj
        omega
    · by_cases h1 : k9 < W1.length
      · rw [List.getElem?_append_left h1] at hx
        exact hD1.2 k9 x hx
      · rw [List.getElem?_append_right (by omega)] at hx
        have := hr _ _ hx
        exact hA _ (by have := hS.1; omega)
  have hAr : ArrOfT s cA (.array ty) := fun N9 z9 => by
    obtain ⟨-, k9, hk9, cm9, hkk9⟩ := (hO 0 0 0).1
    exact ⟨(fun q hq => by cases hq), k9, hk9, cm9, hkk9⟩
  have hK2 : va_K D cl (tys ++ [(cA, .array ty)]) s := ⟨hK.1, fun k9 x hx => by
    by_cases hl : k9 < tys.length
    · rw [List.getElem?_append_left hl] at hx
      exact hK.2 k9 x hx
    · rw [List.getElem?_append_right (by omega)] at hx
      have h0 : k9 - tys.length < 1 := (List.getElem?_eq_some_iff.mp hx).1
      rw [show k9 - tys.length = 0 by omega] at hx
      cases hx
      exact ⟨hAr, fA⟩⟩
  obtain ⟨t, a1, b1⟩ := kk H.size (fun i => H.size + 1 + i) cA F.heap (fun i j _ _ h => by have h9 : H.size + 1 + i = H.size + 1 + j := h; omega) hnl hK2 (by rw [← vr_rows hnm]; exact vr_lay hP2) (by rw [← vr_rows hnm]; exact vr_layD hD2) ⟨by rw [f1]; have := hS.1; omega, fun x h1 h2 => (hold x (Nat.lt_of_lt_of_le h1 hS.1)).trans (hS.2.1 x h1 h2), hS.2.2⟩ F rfl X'
  refine ⟨t, step t ?_, b1⟩
  have e : T.heap.size = H.size := by rw [hT]
  rw [e]
  exact a1
end VGM
/-! ===== END ===== -/

theorem TT_in {ws : List Cond} (h : ∀ w ∈ ws, w ∈ TT) : GoodIn TT ws := fun w hw => ⟨h w hw, good_of_word (TT_good w (h w hw))⟩
theorem qPc_blind (D : va_G) (cA : Nat → ClassId) (ad : List Nat) (sh : List qSh) (I : qMI) (L : qML) (P : qMP) (sz : Nat) (as : List Value) : FrameBlind (qPc D cA ad sh I L P sz as) := fun a U g mk q => by
  obtain ⟨q0, q1, q2, q3, q4, qP, qK, qD, qe⟩ := q
  exact ⟨q0, q1, q2, q3, q4, qP, va_K.moved (u := U) (U := U.calling g mk a) (Vm.Alike.refl U.vm) qK, qD, qE.vm (s := U) (U := U.calling g mk a) rfl qe⟩
theorem qPc_of {D : va_G} {cA : Nat → ClassId} {ad : List Nat} {sh : List qSh} {I : qMI} {L : qML} {P : qMP} {A : Nat → Prop} {as : List Value} {H : Heap} {s : State} (h1 : ad.length = sh.length) (h3 : INV sh I L P) (h4 : okl sh.length as) (h6 : va_P D vwCl (wl cA ad sh I L P) H) (h7 : va_D A (wl cA ad sh I L P)) (hK : va_K D vwCl (TY cA) s) (hE : qE s) :
    ∀ U : State, U.heap = H → s.WarmedH U.vm → qPc D cA ad sh I L P H.size as (as.map (rv ad)).toArray U := fun U hU hW =>
  ⟨rfl, by rw [hU], h1, h3, h4, by rw [hU]; exact h6, hK.moved hW.alike, h7.weaken (fun _ _ _ _ => trivial), hE.warm hW⟩
theorem okl_app {n : Nat} : ∀ {a b : List Value}, okl n a → okl n b → okl n (a ++ b)
  | [], _, _, h => h
  | _ :: _, _, h1, h2 => ⟨h1.1, okl_app h1.2 h2⟩
theorem okl_left {n : Nat} : ∀ {a b : List Value}, okl n (a ++ b) → okl n a
  | [], _, _ => trivial
  | _ :: _, _, h => ⟨h.1, okl_left h.2⟩
theorem okl_right {n : Nat} : ∀ {a b : List Value}, okl n (a ++ b) → okl n b
  | [], _, h => h
  | _ :: _, _, h => okl_right h.2
theorem okl_rev {n : Nat} : ∀ {a : List Value}, okl n a.reverse → okl n a := fun {a} h => okl_of fun v hv => okl_in h v (List.mem_reverse.mpr hv)
/-- behind a call -/
theorem q_fin {p : Program} {l : Launch} {e : Env} {R : Room} {s : State} {m : MethodId} {args : Array Value} {below : List Frame} {meth : Method} {c : Code} {nL : Nat} {D : va_G} {cA : Nat → ClassId} {A : Nat → Prop} {H0 : Heap} {Q : State → Prop} {ad0 : List Nat}
    {pc cells slots mc ms : Nat} {lo : List (Option Value)} {st st0 : List Value} {sh : List qSh} {I : qMI} {L : qML} {P : qMP} {ad : List Nat} {H : Heap} {locs : List Loc} {ls : Array Slot} {aa : Array Value} {Kc : Option Value → List qSh → qMI → qML → qMP → Prop}
    (hr : va_Run p l e R s m args below meth c H locs cells slots mc ms (F0 m pc ls st0) (st.map (rv ad)) (qQc D cA (qAa cA ad sh I L P H.size) ad Kc aa) (qAa cA ad sh I L P H.size))
    (hA : ∀ q, H0.size ≤ q → A q) (h1 : ad.length = sh.length) (h2 : ad0 <+: ad) (h4 : okl sh.length st) (h5 : LO ls nL ad sh.length lo) (h7 : va_D A (wl cA ad sh I L P)) (h8 : va_S A H0 H locs)
    (k : ∀ v sh' I' L' P', Kc v sh' I' L' P' → (v = none ∨ (∃ x, v = some (.int x)) ∨ ∃ x, v = some (.long x)) → qG (p, l, e, R, s, m, args, below, meth, c, nL, D, cA, A, H0, Q, ad0) (pc + 3) lo (v.toList ++ st) sh' I' L' P' (cells + mc) (slots + ms)) :
    W p l e R s m args below meth c H locs cells slots Q (F0 m pc ls st0) := by
  have hsub : ∀ q, qAa cA ad sh I L P H.size q → A q := by
    intro q hq
    rcases hq with ⟨j, en, hj⟩ | hq
    · exact h7.2 j (q, en) hj
    · exact hA q (Nat.le_trans h8.1 hq)
  intro T hT Xs
  obtain ⟨v, t0, t, T', Lc, e0, X', hL, e1, e2, ⟨⟨v', ad', sh', I', L', P', hv, hk, hl', hpre, hinv, hvk, hP', hD'⟩, hz, hkeep⟩, stp⟩ := hr T hT Xs
  cases hv
  rw [e0] at hz hkeep
  have hle : sh.length ≤ sh'.length := by rw [← h1, ← hl']; exact hpre.length_le
  have hvo : okl sh'.length (v.toList ++ st) := by
    refine okl_app ?_ (okl_more hle h4)
    rcases hvk with rfl | ⟨x, rfl⟩ | ⟨x, rfl⟩ <;> first | trivial | exact ⟨trivial, trivial⟩
  have hS1 : va_S A H0 T'.heap (locs ++ Lc) := ⟨Nat.le_trans h8.1 (by rw [e1]; exact hz), fun q g1 g2 => by rw [e1, hkeep q (Nat.lt_of_lt_of_le g1 h8.1) (fun z => g2 (hsub q z))]; exact h8.2.1 q g1 g2, fun q hq => by
    rcases List.mem_append.mp hq with h | h
    · exact h8.2.2 q h
    · exact hsub _ (hL q h)⟩
  have w := k v sh' I' L' P' hk hvk ad' T'.heap (locs ++ Lc) ls hl' (h2.trans hpre) hinv hvo (LO_more h5 hpre h1.symm hle) (by rw [e1]; exact hP') (hD'.weaken (fun _ _ _ h => hsub _ h)) hS1
  have estk : (v.toList ++ st).map (rv ad') = v.toList ++ st.map (rv ad) := by
    rw [List.map_append, rvs_more (st := st) hpre (by rw [h1]; exact h4)]
    congr 1
    rcases hvk with rfl | ⟨x, rfl⟩ | ⟨x, rfl⟩ <;> rfl
  rw [estk] at w
  obtain ⟨t2, a1, b1⟩ := w T' rfl X'
  exact ⟨t2, stp t2 a1, b1⟩
/-- what a virtual method's calls need of the tables -/
def qMV (M : qMR) (ci n : Nat) : Prop := Cond.instanceMethod M.1 ∈ TT ∧ Cond.selects M.1.cls M.1 M.1 ∈ TT ∧ Cond.initialized M.1.cls ∈ TT ∧ Cond.code M.1 M.2.1 M.2.2.1 M.2.2.2 ∈ TT ∧ (∃ T N, vwCl[ci]? = some (M.1.cls, T, N)) ∧ ci < 20 ∧ (M.1.cls ≠ "java/lang/invoke/MethodHandle" ∧ M.1.cls ≠ "java/lang/invoke/VarHandle" ∧ (parseMethodDescriptor M.1.desc).map (fun d => d.parameters.length) = some n) ∧ M.2.2.1 ≤ 21
def qMS (M : qMR) (n : Nat) : Prop := Cond.static M.1 ∈ TT ∧ Cond.initialized M.1.cls ∈ TT ∧ Cond.code M.1 M.2.1 M.2.2.1 M.2.2.2 ∈ TT ∧ (M.1.cls ≠ "java/lang/invoke/MethodHandle" ∧ M.1.cls ≠ "java/lang/invoke/VarHandle" ∧ (parseMethodDescriptor M.1.desc).map (fun d => d.parameters.length) = some n) ∧ M.2.2.1 ≤ 21
def qMN (M : qMR) (n : Nat) : Prop := Cond.instanceMethod M.1 ∈ TT ∧ Cond.initialized M.1.cls ∈ TT ∧ Cond.code M.1 M.2.1 M.2.2.1 none ∈ TT ∧ M.2.2.2 = none ∧ M.1.name = "<init>" ∧ (M.1.cls ≠ "java/lang/invoke/MethodHandle" ∧ M.1.cls ≠ "java/lang/invoke/VarHandle" ∧ (parseMethodDescriptor M.1.desc).map (fun d => d.parameters.length) = some n) ∧ M.2.2.1 ≤ 21
section QC
variable {X : qCT} {own : String} {cc : ByteArray} {n d mc ms pc cells slots : Nat} {lo : List (Option Value)} {st : List Value} {sh : List qSh} {I : qMI} {L : qML} {P : qMP}
theorem q_callV (C : qCB X own cc n (d + 1) mc ms) {M : qMR} {ci na idx mc1 ms1 r : Nat} {as stk : List Value} {Kc : Option Value → List qSh → qMI → qML → qMP → Prop} (hM : qMV M ci na) (hl : Cond.methodLink own idx M.1 ∈ TT) (hd : decode cc pc = .ok (.invokevirtual idx, 3)) (hstk : stk = as.reverse ++ .ref r :: st) (hs : (shp sh r).1 = ci) (hn : as.length = na) (hst : (st.map fun v => v.category).sum ≤ 8) (hcs : cells + mc1 ≤ mc ∧ slots + ms1 ≤ ms)
    (hS : SqN d mc1 ms1 M sh (.ref r :: as) I L P Kc) (k : ∀ v sh' I' L' P', Kc v sh' I' L' P' → (v = none ∨ (∃ x, v = some (.int x)) ∨ ∃ x, v = some (.long x)) → qG X (pc + 3) lo (v.toList ++ st) sh' I' L' P' (cells + mc1) (slots + ms1)) : qG X pc lo stk sh I L P cells slots := by
  obtain ⟨p, l, e, R, s, m, args, below, meth, c, nL, D, cA, A, H0, Q, ad0⟩ := X
  obtain ⟨hx, hb, ⟨hml, hnl⟩, hown, hts, hK, hA, hlk, hE, hR⟩ := C
  intro ad H locs ls h1 h2 h3 h4 h5 h6 h7 h8
  obtain ⟨him, hse, hini, hco, ⟨Tc, Nc, hcl⟩, h20, hdd, hmx⟩ := hM
  subst hstk
  have h40 : okl sh.length (.ref r :: st) := okl_right h4
  have h4a : okl sh.length (.ref r :: as) := ⟨h40.1, okl_rev (okl_left h4)⟩
  obtain ⟨k0, a, rfl, hk0, ha, es, hw, hg⟩ := wl_get (cA := cA) I L P (show (shp sh r).1 ≠ 99 by omega) h1
  rw [cel_obj (show (shp sh (k0 + 1)).1 < 20 by omega), hs] at hw
  have hwsin : ∀ w ∈ wsV own idx M.1.cls M.1 (Cond.code M.1 M.2.1 M.2.2.1 M.2.2.2 :: TT), w ∈ TT := by
    intro w hw
    simp only [wsV, List.cons_append, List.nil_append, List.mem_cons] at hw
    rcases hw with rfl | rfl | rfl | rfl | rfl | hw
    · exact hl
    · exact him
    · exact hse
    · exact hini
    · exact hco
    · exact hw
  have emap : (Value.ref (k0 + 1) :: as).map (rv ad) = .ref a :: as.map (rv ad) := by
    show va_rf (gr ad (k0 + 1)) :: as.map (rv ad) = _
    rw [hg]; rfl
  have hpc := qPc_of (A := A) (s := s) h1 h3 h4a h6 h7 hK hE
  rw [emap] at hpc
  refine q_fin (va_runV (As := as.map (rv ad)) ⟨hx, hb, hml, hown, hts⟩ (hS l D cA ad H.size) (cwV na hts (TT_in hwsin) rfl rfl rfl ⟨rfl, hdd⟩ ⟨by show d + 1 ≤ R.frames; omega, by show 8 + (M.2.2.1 + 11) + 40 * d ≤ R.locals; omega⟩) ⟨qPc_blind D cA ad sh I L P H.size _, va_recv hK h6 hcl hw, hpc⟩ rfl (by rw [List.length_map]; exact hn) h5.1 ?_ (lv_room (by rw [rv_cats]; exact hst)) hd ⟨by omega, by omega⟩) hA h1 h2 h40.2 h5 h7 h8 k
  show (as.reverse ++ .ref (k0 + 1) :: st).map (rv ad) = (as.map (rv ad)).reverse ++ .ref a :: st.map (rv ad)
  rw [List.map_append, List.map_reverse]
  congr 1
  show va_rf (gr ad (k0 + 1)) :: _ = _
  rw [hg]; rfl
theorem q_callS (C : qCB X own cc n (d + 1) mc ms) {M : qMR} {na idx mc1 ms1 : Nat} {as stk : List Value} {Kc : Option Value → List qSh → qMI → qML → qMP → Prop} (hM : qMS M na) (hl : Cond.methodLink own idx M.1 ∈ TT) (hd : decode cc pc = .ok (.invokestatic idx, 3)) (hstk : stk = as.reverse ++ st) (hn : as.length = na) (hst : (st.map fun v => v.category).sum ≤ 8) (hcs : cells + mc1 ≤ mc ∧ slots + ms1 ≤ ms)
    (hS : SqN d mc1 ms1 M sh as I L P Kc) (k : ∀ v sh' I' L' P', Kc v sh' I' L' P' → (v = none ∨ (∃ x, v = some (.int x)) ∨ ∃ x, v = some (.long x)) → qG X (pc + 3) lo (v.toList ++ st) sh' I' L' P' (cells + mc1) (slots + ms1)) : qG X pc lo stk sh I L P cells slots := by
  obtain ⟨p, l, e, R, s, m, args, below, meth, c, nL, D, cA, A, H0, Q, ad0⟩ := X
  obtain ⟨hx, hb, ⟨hml, hnl⟩, hown, hts, hK, hA, hlk, hE, hR⟩ := C
  intro ad H locs ls h1 h2 h3 h4 h5 h6 h7 h8
  obtain ⟨hsm, hini, hco, hdd, hmx⟩ := hM
  subst hstk
  have h40 : okl sh.length st := okl_right h4
  have h4a : okl sh.length as := okl_rev (okl_left h4)
  have hwsin : ∀ w ∈ va_wsS own idx M.1 (Cond.code M.1 M.2.1 M.2.2.1 M.2.2.2 :: TT), w ∈ TT := by
    intro w hw
    simp only [va_wsS, List.cons_append, List.nil_append, List.mem_cons] at hw
    rcases hw with rfl | rfl | rfl | rfl | hw
    · exact hl
    · exact hsm
    · exact hini
    · exact hco
    · exact hw
  refine q_fin (va_runS (As := as.map (rv ad)) ⟨hx, hb, hml, hown, hts⟩ (hS l D cA ad H.size) (va_cwS na hts (TT_in hwsin) rfl rfl rfl hdd ⟨by show d + 1 ≤ R.frames; omega, by show 8 + (M.2.2.1 + 11) + 40 * d ≤ R.locals; omega⟩) ⟨qPc_blind D cA ad sh I L P H.size _, qPc_of (A := A) (s := s) h1 h3 h4a h6 h7 hK hE⟩ rfl (by rw [List.length_map]; exact hn) h5.1 ?_ (lv_room (by rw [rv_cats]; exact hst)) hd ⟨by omega, by omega⟩) hA h1 h2 h40 h5 h7 h8 k
  show (as.reverse ++ st).map (rv ad) = (as.map (rv ad)).reverse ++ st.map (rv ad)
  rw [List.map_append, List.map_reverse]
theorem q_callI (C : qCB X own cc n (d + 1) mc ms) {M : qMR} {idx mc1 ms1 r : Nat} {host : String} {Kc : Option Value → List qSh → qMI → qML → qMP → Prop} (hM : qMN M 0) (hl : Cond.methodLink own idx M.1 ∈ TT) (hh : host = host) (hd : decode cc pc = .ok (.invokespecial idx, 3)) (hr0 : r ≠ 0) (hst : (st.map fun v => v.category).sum ≤ 8) (hcs : cells + mc1 ≤ mc ∧ slots + ms1 ≤ ms)
    (hS : SqN d mc1 ms1 M sh [.ref r] I L P Kc) (k : ∀ sh' I' L' P', Kc none sh' I' L' P' → qG X (pc + 3) lo st sh' I' L' P' (cells + mc1) (slots + ms1)) (hvoid : ∀ v sh' I' L' P', Kc v sh' I' L' P' → v = none) : qG X pc lo (.ref r :: st) sh I L P cells slots := by
  obtain ⟨p, l, e, R, s, m, args, below, meth, c, nL, D, cA, A, H0, Q, ad0⟩ := X
  obtain ⟨hx, hb, ⟨hml, hnl⟩, hown, hts, hK, hA, hlk, hE, hR⟩ := C
  intro ad H locs ls h1 h2 h3 h4 h5 h6 h7 h8
  obtain ⟨him, hini, hco, hrt, hnm, hdd, hmx⟩ := hM
  have h4a : okl sh.length [.ref r] := ⟨h4.1, trivial⟩
  obtain ⟨a, hg⟩ : ∃ a, gr ad r = some a := by
    match r, hr0, h4.1 with
    | w + 1, _, hw => exact ⟨ad[w]'(by have : w + 1 ≤ sh.length := hw; omega), by show ad[w]? = _; exact List.getElem?_eq_getElem (by have : w + 1 ≤ sh.length := hw; omega)⟩
  have emap : ([Value.ref r]).map (rv ad) = [.ref a] := by
    show [va_rf (gr ad r)] = _
    rw [hg]; rfl
  have hpc := qPc_of (A := A) (s := s) h1 h3 h4a h6 h7 hK hE
  rw [emap] at hpc
  have hS := hS l D cA ad H.size
  rw [hrt] at hS
  have hwsin : ∀ w ∈ (Cond.code M.1 M.2.1 M.2.2.1 none :: TT : List Cond), w ∈ TT := by
    intro w hw
    rcases List.mem_cons.mp hw with rfl | hw
    · exact hco
    · exact hw
  show W p l e R s m args below meth c H locs cells slots Q (F0 m pc ls (va_rf (gr ad r) :: st.map (rv ad)))
  rw [hg]
  exact q_fin (va_runI (As := []) (rest := st.map (rv ad)) ⟨hx, hb, hml, hown, hts⟩ hS (cwI 0 hts (TT_in hwsin) rfl rfl rfl (hts _ hini) (hts _ hl) (hts _ him) hnm hdd ⟨by show d + 1 ≤ R.frames; omega, by show 8 + (M.2.2.1 + 11) + 40 * d ≤ R.locals; omega⟩) ⟨qPc_blind D cA ad sh I L P H.size _, hpc⟩ rfl rfl h5.1 rfl (lv_room (by rw [rv_cats]; exact hst)) hd ⟨by omega, by omega⟩) hA h1 h2 h4.2 h5 h7 h8 (fun v sh' I' L' P' hk _ => by
    obtain rfl := hvoid _ _ _ _ _ hk
    exact k sh' I' L' P' hk)
theorem q_callN (C : qCB X own cc n (d + 1) mc ms) {M : qMR} {idx mc1 ms1 r : Nat} {host : String} {Kc : Option Value → List qSh → qMI → qML → qMP → Prop} (hM : qMN M 0) (hl : (own, idx, M.1, host) ∈ qNW) (hd : decode cc pc = .ok (.invokespecial idx, 3)) (hr0 : r ≠ 0) (hst : (st.map fun v => v.category).sum ≤ 8) (hcs : cells + mc1 ≤ mc ∧ slots + ms1 ≤ ms)
    (hS : SqN d mc1 ms1 M sh [.ref r] I L P Kc) (k : ∀ sh' I' L' P', Kc none sh' I' L' P' → qG X (pc + 3) lo st sh' I' L' P' (cells + mc1) (slots + ms1)) (hvoid : ∀ v sh' I' L' P', Kc v sh' I' L' P' → v = none) : qG X pc lo (.ref r :: st) sh I L P cells slots := by
  obtain ⟨p, l, e, R, s, m, args, below, meth, c, nL, D, cA, A, H0, Q, ad0⟩ := X
  obtain ⟨hx, hb, ⟨hml, hnl⟩, hown, hts, hK, hA, hlk, hE, hR⟩ := C
  intro ad H locs ls h1 h2 h3 h4 h5 h6 h7 h8
  obtain ⟨him, hini, hco, hrt, hnm, hdd, hmx⟩ := hM
  have h4a : okl sh.length [.ref r] := ⟨h4.1, trivial⟩
  obtain ⟨a, hg⟩ : ∃ a, gr ad r = some a := by
    match r, hr0, h4.1 with
    | w + 1, _, hw => exact ⟨ad[w]'(by have : w + 1 ≤ sh.length := hw; omega), by show ad[w]? = _; exact List.getElem?_eq_getElem (by have : w + 1 ≤ sh.length := hw; omega)⟩
  have emap : ([Value.ref r]).map (rv ad) = [.ref a] := by
    show [va_rf (gr ad r)] = _
    rw [hg]; rfl
  have hpc := qPc_of (A := A) (s := s) h1 h3 h4a h6 h7 hK hE
  rw [emap] at hpc
  have hS := hS l D cA ad H.size
  rw [hrt] at hS
  have hwsin : ∀ w ∈ (Cond.code M.1 M.2.1 M.2.2.1 none :: TT : List Cond), w ∈ TT := by
    intro w hw
    rcases List.mem_cons.mp hw with rfl | hw
    · exact hco
    · exact hw
  show W p l e R s m args below meth c H locs cells slots Q (F0 m pc ls (va_rf (gr ad r) :: st.map (rv ad)))
  rw [hg]
  exact q_fin (va_runIN (As := []) (rest := st.map (rv ad)) (host := host) ⟨hx, hb, hml, hown, hts⟩ hS ⟨va_cnB 0 hts (TT_in hwsin) rfl rfl rfl (hE.2.2 _ hl) (hts _ hini) hdd ⟨by show d + 1 ≤ R.frames; omega, by show 8 + (M.2.2.1 + 11) + 40 * d ≤ R.locals; omega⟩, hnm, hts _ him⟩ ⟨qPc_blind D cA ad sh I L P H.size _, hpc⟩ rfl rfl h5.1 rfl (lv_room (by rw [rv_cats]; exact hst)) hd ⟨by omega, by omega⟩) hA h1 h2 h4.2 h5 h7 h8 (fun v sh' I' L' P' hk _ => by
    obtain rfl := hvoid _ _ _ _ _ hk
    exact k sh' I' L' P' hk)
theorem q_cVi (C : qCB X own cc n (d + 1) mc ms) {M : qMR} {ci na idx r : Nat} {as stk : List Value} {f : Int32 → qMI → qML → qMP → Prop} (hM : qMV M ci na) (hl : Cond.methodLink own idx M.1 ∈ TT) (hd : decode cc pc = .ok (.invokevirtual idx, 3)) (hstk : stk = as.reverse ++ .ref r :: st) (hs : (shp sh r).1 = ci) (hn : as.length = na) (hst : (st.map fun v => v.category).sum ≤ 8) (hcs : cells ≤ mc ∧ slots ≤ ms) (hS : Sq d M sh (.ref r :: as) I L P (KI f)) (k : ∀ (x : Int32) (I1 : qMI) (L1 : qML) (P1 : qMP), f x I1 L1 P1 → qG X (pc + 3) lo (.int x :: st) sh I1 L1 P1 cells slots) : qG X pc lo stk sh I L P cells slots := by
  refine q_callV C hM hl hd hstk hs hn hst hcs hS (fun v sh' I' L' P' hk hv => ?_)
  obtain ⟨rfl, hk⟩ := hk
  rcases hv with rfl | ⟨x, rfl⟩ | ⟨x, rfl⟩
  · exact absurd hk id
  · exact k _ _ _ _ hk
  · exact absurd hk id
theorem q_cVl (C : qCB X own cc n (d + 1) mc ms) {M : qMR} {ci na idx r : Nat} {as stk : List Value} {f : Int64 → qMI → qML → qMP → Prop} (hM : qMV M ci na) (hl : Cond.methodLink own idx M.1 ∈ TT) (hd : decode cc pc = .ok (.invokevirtual idx, 3)) (hstk : stk = as.reverse ++ .ref r :: st) (hs : (shp sh r).1 = ci) (hn : as.length = na) (hst : (st.map fun v => v.category).sum ≤ 8) (hcs : cells ≤ mc ∧ slots ≤ ms) (hS : Sq d M sh (.ref r :: as) I L P (KL f)) (k : ∀ (x : Int64) (I1 : qMI) (L1 : qML) (P1 : qMP), f x I1 L1 P1 → qG X (pc + 3) lo (.long x :: st) sh I1 L1 P1 cells slots) : qG X pc lo stk sh I L P cells slots := by
  refine q_callV C hM hl hd hstk hs hn hst hcs hS (fun v sh' I' L' P' hk hv => ?_)
  obtain ⟨rfl, hk⟩ := hk
  rcases hv with rfl | ⟨x, rfl⟩ | ⟨x, rfl⟩
  · exact absurd hk id
  · exact absurd hk id
  · exact k _ _ _ _ hk
theorem q_cVv (C : qCB X own cc n (d + 1) mc ms) {M : qMR} {ci na idx r : Nat} {as stk : List Value} {f : qMI → qML → qMP → Prop} (hM : qMV M ci na) (hl : Cond.methodLink own idx M.1 ∈ TT) (hd : decode cc pc = .ok (.invokevirtual idx, 3)) (hstk : stk = as.reverse ++ .ref r :: st) (hs : (shp sh r).1 = ci) (hn : as.length = na) (hst : (st.map fun v => v.category).sum ≤ 8) (hcs : cells ≤ mc ∧ slots ≤ ms) (hS : Sq d M sh (.ref r :: as) I L P (KV f)) (k : ∀ (I1 : qMI) (L1 : qML) (P1 : qMP), f I1 L1 P1 → qG X (pc + 3) lo st sh I1 L1 P1 cells slots) : qG X pc lo stk sh I L P cells slots := by
  refine q_callV C hM hl hd hstk hs hn hst hcs hS (fun v sh' I' L' P' hk hv => ?_)
  obtain ⟨rfl, hk⟩ := hk
  rcases hv with rfl | ⟨x, rfl⟩ | ⟨x, rfl⟩
  · exact k _ _ _ hk
  · exact absurd hk id
  · exact absurd hk id
theorem q_cSi (C : qCB X own cc n (d + 1) mc ms) {M : qMR} {na idx : Nat} {as stk : List Value} {f : Int32 → qMI → qML → qMP → Prop} (hM : qMS M na) (hl : Cond.methodLink own idx M.1 ∈ TT) (hd : decode cc pc = .ok (.invokestatic idx, 3)) (hstk : stk = as.reverse ++ st) (hn : as.length = na) (hst : (st.map fun v => v.category).sum ≤ 8) (hcs : cells ≤ mc ∧ slots ≤ ms) (hS : Sq d M sh as I L P (KI f)) (k : ∀ (x : Int32) (I1 : qMI) (L1 : qML) (P1 : qMP), f x I1 L1 P1 → qG X (pc + 3) lo (.int x :: st) sh I1 L1 P1 cells slots) : qG X pc lo stk sh I L P cells slots := by
  refine q_callS C hM hl hd hstk hn hst hcs hS (fun v sh' I' L' P' hk hv => ?_)
  obtain ⟨rfl, hk⟩ := hk
  rcases hv with rfl | ⟨x, rfl⟩ | ⟨x, rfl⟩
  · exact absurd hk id
  · exact k _ _ _ _ hk
  · exact absurd hk id
theorem q_cSl (C : qCB X own cc n (d + 1) mc ms) {M : qMR} {na idx : Nat} {as stk : List Value} {f : Int64 → qMI → qML → qMP → Prop} (hM : qMS M na) (hl : Cond.methodLink own idx M.1 ∈ TT) (hd : decode cc pc = .ok (.invokestatic idx, 3)) (hstk : stk = as.reverse ++ st) (hn : as.length = na) (hst : (st.map fun v => v.category).sum ≤ 8) (hcs : cells ≤ mc ∧ slots ≤ ms) (hS : Sq d M sh as I L P (KL f)) (k : ∀ (x : Int64) (I1 : qMI) (L1 : qML) (P1 : qMP), f x I1 L1 P1 → qG X (pc + 3) lo (.long x :: st) sh I1 L1 P1 cells slots) : qG X pc lo stk sh I L P cells slots := by
  refine q_callS C hM hl hd hstk hn hst hcs hS (fun v sh' I' L' P' hk hv => ?_)
  obtain ⟨rfl, hk⟩ := hk
  rcases hv with rfl | ⟨x, rfl⟩ | ⟨x, rfl⟩
  · exact absurd hk id
  · exact absurd hk id
  · exact k _ _ _ _ hk
theorem q_cSv (C : qCB X own cc n (d + 1) mc ms) {M : qMR} {na idx : Nat} {as stk : List Value} {f : qMI → qML → qMP → Prop} (hM : qMS M na) (hl : Cond.methodLink own idx M.1 ∈ TT) (hd : decode cc pc = .ok (.invokestatic idx, 3)) (hstk : stk = as.reverse ++ st) (hn : as.length = na) (hst : (st.map fun v => v.category).sum ≤ 8) (hcs : cells ≤ mc ∧ slots ≤ ms) (hS : Sq d M sh as I L P (KV f)) (k : ∀ (I1 : qMI) (L1 : qML) (P1 : qMP), f I1 L1 P1 → qG X (pc + 3) lo st sh I1 L1 P1 cells slots) : qG X pc lo stk sh I L P cells slots := by
  refine q_callS C hM hl hd hstk hn hst hcs hS (fun v sh' I' L' P' hk hv => ?_)
  obtain ⟨rfl, hk⟩ := hk
  rcases hv with rfl | ⟨x, rfl⟩ | ⟨x, rfl⟩
  · exact k _ _ _ hk
  · exact absurd hk id
  · exact absurd hk id
theorem q_oinit (C : qCB X own cc n (d + 1) mc ms) {idx r : Nat} (hl : Cond.methodLink own idx objectInit ∈ TT) (hr0 : r ≠ 0) (hst : (st.map fun v => v.category).sum ≤ 8) (hd : decode cc pc = .ok (.invokespecial idx, 3)) (k : qG X (pc + 3) lo st sh I L P cells slots) : qG X pc lo (.ref r :: st) sh I L P cells slots := by
  obtain ⟨p, l, e, R, s, m, args, below, meth, c, nL, D, cA, A, H0, Q, ad0⟩ := X
  obtain ⟨hx, hb, ⟨hml, hnl⟩, hown, hts, hK, hA, hlk, hE, hR⟩ := C
  intro ad H locs ls h1 h2 h3 h4 h5 h6 h7 h8
  obtain ⟨a, hg⟩ : ∃ a, gr ad r = some a := by
    match r, hr0, h4.1 with
    | w + 1, _, hw => exact ⟨ad[w]'(by have : w + 1 ≤ sh.length := hw; omega), by show ad[w]? = _; exact List.getElem?_eq_getElem (by have : w + 1 ≤ sh.length := hw; omega)⟩
  show W p l e R s m args below meth c H locs cells slots Q (F0 m pc ls (va_rf (gr ad r) :: st.map (rv ad)))
  rw [hg]
  exact W.objInit hx hb hown (hts _ hl) (hts _ im_objectInit) (hts _ code_objectInit) rfl (by rw [hml]; exact h5.1) rfl hd (by omega) (by rw [rv_cats]; show 2 * 0 + _ + 12 ≤ _; omega) (k ad H locs ls h1 h2 h3 h4.2 h5 h6 h7 h8)
theorem q_new (C : qCB X own cc n d mc ms) {idx ci N : Nat} {C1 : String} {T : u_T} {ty : Nat → FieldType} (F : CLF ci C1 T N ty) (hl : Cond.classLink own idx C1 ∈ TT) (hins : Cond.instantiable C1 N ∈ TT) (hini : Cond.initialized C1 ∈ TT) (hcs : cells + 1 ≤ mc ∧ slots + N ≤ ms) (hd : decode cc pc = .ok (.new idx, 3)) (k : qG X (pc + 3) lo (.ref (sh.length + 1) :: st) (sh ++ [(ci, 0)]) I L P (cells + 1) (slots + N)) : qG X pc lo st sh I L P cells slots := by
  obtain ⟨p, l, e, R, s, m, args, below, meth, c, nL, D, cA, A, H0, Q, ad0⟩ := X
  obtain ⟨hx, hb, ⟨hml, hnl⟩, hown, hts, hK, hA, hlk, hE, hR⟩ := C
  intro ad H locs ls h1 h2 h3 h4 h5 h6 h7 h8
  obtain ⟨hc, hin, hty, hnm, hlen, h20, hdf⟩ := F
  refine va_new (fs := flds (ad ++ [0]) I L P (sh.length + 1) (FT ci)) hx hb hts hin ty hty hown (hts _ hl) (hts _ hins) (hts _ hini) hK h6 h7 h8 hA hc (fun j hj => ?_) (by omega) (by omega) hd (fun q H1 hP hD hS => ?_)
  · rw [hdf j hj]
    obtain ⟨z1, z2, z3⟩ := h3.2 (sh.length + 1) (by omega) j
    have e : (FT ci)[j]? = some ((FT ci).getD j 0) := by
      have : j < (FT ci).length := by omega
      simp [List.getD, this]
    have hv : vp_V (flds (ad ++ [0]) I L P (sh.length + 1) (FT ci)) j = fv (ad ++ [0]) I L P (sh.length + 1) j ((FT ci).getD j 0) := by
      unfold vp_V
      rw [List.getD_eq_getElem?_getD, flds_get e]
      rfl
    rw [hv]
    unfold fv
    rw [z1, z2, z3]
    generalize (FT ci).getD j 0 = t
    match t with
    | 0 => rfl
    | 1 => rfl
    | _ + 2 => rfl
  · have hfe : flds (ad ++ [0]) I L P (sh.length + 1) (FT ci) = flds (ad ++ [q]) I L P (sh.length + 1) (FT ci) := by
      unfold flds
      apply List.map_congr_left
      intro j _
      obtain ⟨z1, z2, z3⟩ := h3.2 (sh.length + 1) (by omega) j
      unfold fv
      rw [z3]
      rfl
    rw [hfe] at hP hD
    have hwl := wl_more (cA := cA) h1 h3 q (ci, 0)
    rw [cel_obj h20] at hwl
    have hadp : ad <+: ad ++ [q] := List.prefix_append ad [q]
    rw [← hwl] at hP hD
    have hstq : st.map (rv (ad ++ [q])) = st.map (rv ad) := rvs_more hadp (by rw [h1]; exact h4)
    have w := k (ad ++ [q]) H1 locs ls (by simp [h1]) (h2.trans hadp) (h3.more _) ⟨by show sh.length + 1 ≤ _; simp, okl_more (by simp) h4⟩ (LO_more h5 hadp h1.symm (by simp)) hP hD hS
    have erv : rv (ad ++ [q]) (.ref (sh.length + 1)) = .ref q := by
      show va_rf ((ad ++ [q])[sh.length]?) = _
      rw [← h1]
      simp [va_rf]
    rw [List.map_cons, erv, hstq] at w
    exact w
theorem q_newI (C : qCB X own cc n d mc ms) {z : Int32} {N : Nat} (hz : ¬ z < 0) (hN : z.toNatClampNeg = N) (hsm : N ≤ 60000) (hcs : cells + 1 ≤ mc ∧ slots + N ≤ ms) (hd : decode cc pc = .ok (.newarray .int, 2)) (k : qG X (pc + 2) lo (.ref (sh.length + 1) :: st) (sh ++ [(20, N)]) I L P (cells + 1) (slots + N)) : qG X pc lo (.int z :: st) sh I L P cells slots := by
  obtain ⟨p, l, e, R, s, m, args, below, meth, c, nL, D, cA, A, H0, Q, ad0⟩ := X
  obtain ⟨hx, hb, ⟨hml, hnl⟩, hown, hts, hK, hA, hlk, hE, hR⟩ := C
  intro ad H locs ls h1 h2 h3 h4 h5 h6 h7 h8
  have hby : N * componentBytes .int ≤ 536870912 := Nat.le_trans (Nat.mul_le_mul hsm (show componentBytes .int ≤ 8 by decide)) (by decide)
  refine va_newa (atype := .int) (a0 := (N, .inl (fun _ => 0))) hx hb (hts _ ac_int) (rfl : newarray.typeOf .int = .int) hK h6 h7 h8 hA (fun c9 => by first | (rw [vp_cell_i]; rfl) | (rw [vp_cell_l]; rfl)) hz hN hby (by omega) (by omega) hd (fun q cA' H1 hK1 hP hD hS => ?_)
  have ecA : cA' = cA 0 := by
    have g1 := (hK1.2 5 _ rfl).2
    have g2 := (hK.2 0 _ rfl).2
    exact Option.some.inj (g1.symm.trans g2)
  subst ecA
  have hrow : (.inl (cA 0, N, .inl (fun _ => 0)) : va_E) = .inl (cA 0, N, .inl (I (sh.length + 1))) := by
    have : ∀ j, I (sh.length + 1) j = 0 := fun j => by
      obtain ⟨z1, z2, z3⟩ := h3.2 (sh.length + 1) (by omega) j
      exact z1
    rw [show I (sh.length + 1) = fun _ => 0 from funext this]
  rw [hrow] at hP hD
  have hwl := wl_more (cA := cA) h1 h3 q (20, N)
  rw [cel_20 (show ((20, N) : qSh).1 = 20 from rfl)] at hwl
  have hadp : ad <+: ad ++ [q] := List.prefix_append ad [q]
  rw [← hwl] at hP hD
  have hstq : st.map (rv (ad ++ [q])) = st.map (rv ad) := rvs_more hadp (by rw [h1]; exact h4.2)
  have w := k (ad ++ [q]) H1 locs ls (by simp [h1]) (h2.trans hadp) (h3.more _) ⟨by show sh.length + 1 ≤ _; simp, okl_more (by simp) h4.2⟩ (LO_more h5 hadp h1.symm (by simp)) hP hD hS
  have erv : rv (ad ++ [q]) (.ref (sh.length + 1)) = .ref q := by
    show va_rf ((ad ++ [q])[sh.length]?) = _
    rw [← h1]
    simp [va_rf]
  rw [List.map_cons, erv, hstq] at w
  exact w
theorem q_newJ (C : qCB X own cc n d mc ms) {z : Int32} {N : Nat} (hz : ¬ z < 0) (hN : z.toNatClampNeg = N) (hsm : N ≤ 60000) (hcs : cells + 1 ≤ mc ∧ slots + N ≤ ms) (hd : decode cc pc = .ok (.newarray .long, 2)) (k : qG X (pc + 2) lo (.ref (sh.length + 1) :: st) (sh ++ [(21, N)]) I L P (cells + 1) (slots + N)) : qG X pc lo (.int z :: st) sh I L P cells slots := by
  obtain ⟨p, l, e, R, s, m, args, below, meth, c, nL, D, cA, A, H0, Q, ad0⟩ := X
  obtain ⟨hx, hb, ⟨hml, hnl⟩, hown, hts, hK, hA, hlk, hE, hR⟩ := C
  intro ad H locs ls h1 h2 h3 h4 h5 h6 h7 h8
  have hby : N * componentBytes .long ≤ 536870912 := Nat.le_trans (Nat.mul_le_mul hsm (show componentBytes .long ≤ 8 by decide)) (by decide)
  refine va_newa (atype := .long) (a0 := (N, .inr (.inl (fun _ => 0)))) hx hb (hts _ ac_long) (rfl : newarray.typeOf .long = .long) hK h6 h7 h8 hA (fun c9 => by first | (rw [vp_cell_i]; rfl) | (rw [vp_cell_l]; rfl)) hz hN hby (by omega) (by omega) hd (fun q cA' H1 hK1 hP hD hS => ?_)
  have ecA : cA' = cA 1 := by
    have g1 := (hK1.2 5 _ rfl).2
    have g2 := (hK.2 1 _ rfl).2
    exact Option.some.inj (g1.symm.trans g2)
  subst ecA
  have hrow : (.inl (cA 1, N, .inr (.inl (fun _ => 0))) : va_E) = .inl (cA 1, N, .inr (.inl (L (sh.length + 1)))) := by
    have : ∀ j, L (sh.length + 1) j = 0 := fun j => by
      obtain ⟨z1, z2, z3⟩ := h3.2 (sh.length + 1) (by omega) j
      exact z2
    rw [show L (sh.length + 1) = fun _ => 0 from funext this]
  rw [hrow] at hP hD
  have hwl := wl_more (cA := cA) h1 h3 q (21, N)
  rw [cel_21 (show ((21, N) : qSh).1 = 21 from rfl)] at hwl
  have hadp : ad <+: ad ++ [q] := List.prefix_append ad [q]
  rw [← hwl] at hP hD
  have hstq : st.map (rv (ad ++ [q])) = st.map (rv ad) := rvs_more hadp (by rw [h1]; exact h4.2)
  have w := k (ad ++ [q]) H1 locs ls (by simp [h1]) (h2.trans hadp) (h3.more _) ⟨by show sh.length + 1 ≤ _; simp, okl_more (by simp) h4.2⟩ (LO_more h5 hadp h1.symm (by simp)) hP hD hS
  have erv : rv (ad ++ [q]) (.ref (sh.length + 1)) = .ref q := by
    show va_rf ((ad ++ [q])[sh.length]?) = _
    rw [← h1]
    simp [va_rf]
  rw [List.map_cons, erv, hstq] at w
  exact w
theorem q_newZ (C : qCB X own cc n d mc ms) {z : Int32} {N : Nat} (hz : ¬ z < 0) (hN : z.toNatClampNeg = N) (hsm : N ≤ 60000) (hcs : cells + 1 ≤ mc ∧ slots + N ≤ ms) (hd : decode cc pc = .ok (.newarray .boolean, 2)) (k : qG X (pc + 2) lo (.ref (sh.length + 1) :: st) (sh ++ [(22, N)]) I L P (cells + 1) (slots + N)) : qG X pc lo (.int z :: st) sh I L P cells slots := by
  obtain ⟨p, l, e, R, s, m, args, below, meth, c, nL, D, cA, A, H0, Q, ad0⟩ := X
  obtain ⟨hx, hb, ⟨hml, hnl⟩, hown, hts, hK, hA, hlk, hE, hR⟩ := C
  intro ad H locs ls h1 h2 h3 h4 h5 h6 h7 h8
  have hby : N * componentBytes .boolean ≤ 536870912 := Nat.le_trans (Nat.mul_le_mul hsm (show componentBytes .boolean ≤ 8 by decide)) (by decide)
  refine va_newa (atype := .boolean) (a0 := (N, .inl (fun _ => 0))) hx hb (hts _ ac_boolean) (rfl : newarray.typeOf .boolean = .boolean) hK h6 h7 h8 hA (fun c9 => by first | (rw [vp_cell_i]; rfl) | (rw [vp_cell_l]; rfl)) hz hN hby (by omega) (by omega) hd (fun q cA' H1 hK1 hP hD hS => ?_)
  have ecA : cA' = cA 2 := by
    have g1 := (hK1.2 5 _ rfl).2
    have g2 := (hK.2 2 _ rfl).2
    exact Option.some.inj (g1.symm.trans g2)
  subst ecA
  have hrow : (.inl (cA 2, N, .inl (fun _ => 0)) : va_E) = .inl (cA 2, N, .inl (I (sh.length + 1))) := by
    have : ∀ j, I (sh.length + 1) j = 0 := fun j => by
      obtain ⟨z1, z2, z3⟩ := h3.2 (sh.length + 1) (by omega) j
      exact z1
    rw [show I (sh.length + 1) = fun _ => 0 from funext this]
  rw [hrow] at hP hD
  have hwl := wl_more (cA := cA) h1 h3 q (22, N)
  rw [cel_22 (show ((22, N) : qSh).1 = 22 from rfl)] at hwl
  have hadp : ad <+: ad ++ [q] := List.prefix_append ad [q]
  rw [← hwl] at hP hD
  have hstq : st.map (rv (ad ++ [q])) = st.map (rv ad) := rvs_more hadp (by rw [h1]; exact h4.2)
  have w := k (ad ++ [q]) H1 locs ls (by simp [h1]) (h2.trans hadp) (h3.more _) ⟨by show sh.length + 1 ≤ _; simp, okl_more (by simp) h4.2⟩ (LO_more h5 hadp h1.symm (by simp)) hP hD hS
  have erv : rv (ad ++ [q]) (.ref (sh.length + 1)) = .ref q := by
    show va_rf ((ad ++ [q])[sh.length]?) = _
    rw [← h1]
    simp [va_rf]
  rw [List.map_cons, erv, hstq] at w
  exact w
theorem q_newS (C : qCB X own cc n d mc ms) {idx : Nat} {z : Int32} {N : Nat} (hl : Cond.classLink own idx RX6 ∈ TT) (hz : ¬ z < 0) (hN : z.toNatClampNeg = N) (hsm : N ≤ 60000) (hcs : cells + 1 ≤ mc ∧ slots + N ≤ ms) (hd : decode cc pc = .ok (.anewarray idx, 3)) (k : qG X (pc + 3) lo (.ref (sh.length + 1) :: st) (sh ++ [(23, N)]) I L P (cells + 1) (slots + N)) : qG X pc lo (.int z :: st) sh I L P cells slots := by
  obtain ⟨p, l, e, R, s, m, args, below, meth, c, nL, D, cA, A, H0, Q, ad0⟩ := X
  obtain ⟨hx, hb, ⟨hml, hnl⟩, hown, hts, hK, hA, hlk, hE, hR⟩ := C
  intro ad H locs ls h1 h2 h3 h4 h5 h6 h7 h8
  refine va_newq hx hb hown (hts _ hl) hE.1 hK h6 h7 h8 hA hz hN (by omega) (by omega) (by omega) hd (fun q cA' H1 hK1 hP hD hS => ?_)
  have ecA : cA' = cA 3 := by
    obtain ⟨_, _, _, _, _, g1⟩ := (hK1.2 5 _ rfl).2
    obtain ⟨_, _, _, _, _, g2⟩ := (hK.2 3 _ rfl).2
    exact Option.some.inj (g1.symm.trans g2)
  subst ecA
  have hadp : ad <+: ad ++ [q] := List.prefix_append ad [q]
  have hwl := wl_more (cA := cA) h1 h3 q (23, N)
  rw [cel_23 (show ((23, N) : qSh).1 = 23 from rfl)] at hwl
  have hrow : (.inl (cA 3, N, .inr (.inr (.inr (.inr (fun _ => none))))) : va_E) = .inl (cA 3, (23, N).2, .inr (.inr (.inr (.inr (fun j => gr (ad ++ [q]) (P (sh.length + 1) j)))))) := by
    have : ∀ j, gr (ad ++ [q]) (P (sh.length + 1) j) = none := fun j => by
      obtain ⟨z1, z2, z3⟩ := h3.2 (sh.length + 1) (by omega) j
      rw [z3]; rfl
    rw [show (fun j => gr (ad ++ [q]) (P (sh.length + 1) j)) = fun _ => none from funext this]
  rw [hrow, ← hwl] at hP hD
  have hstq : st.map (rv (ad ++ [q])) = st.map (rv ad) := rvs_more hadp (by rw [h1]; exact h4.2)
  have w := k (ad ++ [q]) H1 locs ls (by simp [h1]) (h2.trans hadp) (h3.more _) ⟨by show sh.length + 1 ≤ _; simp, okl_more (by simp) h4.2⟩ (LO_more h5 hadp h1.symm (by simp)) hP hD hS
  have erv : rv (ad ++ [q]) (.ref (sh.length + 1)) = .ref q := by
    show va_rf ((ad ++ [q])[sh.length]?) = _
    rw [← h1]
    simp [va_rf]
  rw [List.map_cons, erv, hstq] at w
  exact w
end QC
/-- a contract out of the walk of a method's body -/
theorem Sq_of {d mc ms : Nat} {M : qMR} {sh : List qSh} {as : List Value} {I : qMI} {L : qML} {P : qMP} {K : Option Value → List qSh → qMI → qML → qMP → Prop} (hp : plainName M.1.cls = true) (hl : (loE as).length ≤ M.2.2.1)
    (h : ∀ X : qCT, qCB X M.1.cls M.2.1 M.2.2.1 d mc ms → qCK X M.2.2.2 mc ms K → (qMn X).name = M.1.name → qG X 0 (loN M.2.2.1 as) [] sh I L P 0 0) : SqN d mc ms M sh as I L P K := by
  intro l D cA ad sz
  refine Met.ofW (cc := M.2.1) (maxL := M.2.2.1) (ret := M.2.2.2) hp rfl ?_
  intro p e s m args below meth c s₁ B hml hv
  obtain ⟨rfl, hsz, h1, h3, h4, h6, hK, h7, hE⟩ := hv
  have hts := atoms_spec (ws := Cond.code M.1 M.2.1 M.2.2.1 M.2.2.2 :: TT) B.pre
  have hown : s.vm.findClass M.1.cls = some m.cls := findClass_of_methodNamed B.named
  have hnm : meth.name = M.1.name := (name_of_methodNamed B.named B.method).1
  subst hsz
  rw [lg_entry_eq]
  have w := h (p, l, e, qRm d mc ms, s, m, (as.map (rv ad)).toArray, below, meth, c, M.2.2.1, D, cA, qAa cA ad sh I L P s.heap.size, s.heap, MQ below (qQc D cA (qAa cA ad sh I L P s.heap.size) ad K) (as.map (rv ad)).toArray s mc ms (qAa cA ad sh I L P s.heap.size), ad)
    ⟨B.exec, B.bytes, ⟨hml, rfl⟩, hown, fun w hw => hts w (List.mem_cons_of_mem _ hw), hK, fun q hq => Or.inr hq, B.notSynchronized, hE, ⟨Nat.le_refl _, Nat.le_refl _, Nat.le_refl _, Nat.le_refl _⟩⟩
    ⟨B.returns, rfl, rfl⟩ hnm
  exact w ad s.heap [] _ h1 (List.prefix_refl ad) h3 trivial (LO.entry h4 hl) h6 h7.self va_S.rf
theorem SqN.mono {d mc ms : Nat} {M : qMR} {sh : List qSh} {as : List Value} {I : qMI} {L : qML} {P : qMP} {K K' : Option Value → List qSh → qMI → qML → qMP → Prop} (h : SqN d mc ms M sh as I L P K) (hk : ∀ v sh' I' L' P', K v sh' I' L' P' → K' v sh' I' L' P') : SqN d mc ms M sh as I L P K' := by
  intro l D cA ad sz p e ha hc hkk s m args below hf happ hP hKk
  obtain ⟨z, o, a1, a2, a3, ⟨⟨⟨v, ad', sh', I', L', P', hv, hq, r⟩, hF⟩, hL⟩⟩ := h l D cA ad sz p e ha hc hkk s m args below hf happ hP hKk
  exact ⟨z, o, a1, a2, a3, ⟨⟨⟨v, ad', sh', I', L', P', hv, hk v sh' I' L' P' hq, r⟩, hF⟩, hL⟩⟩
theorem Sq.mono {d : Nat} {M : qMR} {sh : List qSh} {as : List Value} {I : qMI} {L : qML} {P : qMP} {K K' : Option Value → qMI → qML → qMP → Prop} (h : Sq d M sh as I L P K) (hk : ∀ v I' L' P', K v I' L' P' → K' v I' L' P') : Sq d M sh as I L P K' :=
  SqN.mono h fun v sh' I' L' P' q => ⟨q.1, hk v I' L' P' q.2⟩
