/-! ===== rows of rows ===== -/
def rowsP (P : qMP) (r N : Nat) : qMP := fun a b => if a = r ∧ b < N then r + 1 + b else P a b
theorem rowsP_ne {P : qMP} {r N : Nat} : ∀ a, a ≠ r → rowsP P r N a = P a := fun a h => funext fun b => if_neg (fun q => h q.1)
theorem wl_rows {cA : Nat → ClassId} {ad : List Nat} {sh : List qSh} {I : qMI} {L : qML} {P : qMP} (hl : ad.length = sh.length) (h : INV sh I L P) (q : Nat) (r : Nat → Nat) (N K1 : Nat) (f : Nat → va_E) :
    wl cA (ad ++ q :: (List.range N).map r) (sh ++ (24, N) :: List.replicate N (21, K1)) I L (rowsP P (sh.length + 1) N) = (wl cA ad sh I L P ++ [(q, .inl (cA 4, N, .inr (.inr (.inr (.inr (fun i => if i < N then some (r i) else none))))))]) ++ va_pl ((List.range N).map r) (vr_up f ((List.range N).map r) (.inl (cA 1, K1, .inr (.inl (fun _ => 0))))) := by
  have hlen : (sh ++ (24, N) :: List.replicate N (21, K1)).length = sh.length + (1 + N) := by simp; omega
  have hpl : va_pl ((List.range N).map r) (vr_up f ((List.range N).map r) (.inl (cA 1, K1, .inr (.inl (fun _ => 0))))) = (List.range N).map (fun i => (r i, (.inl (cA 1, K1, .inr (.inl (fun _ => 0))) : va_E))) := by
    unfold va_pl
    rw [List.map_map]
    apply List.map_congr_left
    intro i hi
    show (r i, vr_up f _ _ (r i)) = _
    rw [vr_up_in (List.mem_map.mpr ⟨i, hi, rfl⟩)]
  rw [hpl]
  apply List.ext_getElem?
  intro j
  rcases Nat.lt_trichotomy j sh.length with hj | hj | hj
  · rw [wl_at (by rw [hlen]; omega), List.getElem?_append_left (by simp [wl_len]; omega), List.getElem?_append_left (by rw [wl_len]; exact hj), wl_at hj]
    have e1 : (ad ++ q :: (List.range N).map r).getD j 0 = ad.getD j 0 := by simp [List.getD, List.getElem?_append_left (show j < ad.length by omega)]
    have e2 : (sh ++ (24, N) :: List.replicate N (21, K1)).getD j (99, 0) = sh.getD j (99, 0) := by simp [List.getD, List.getElem?_append_left hj]
    rw [e1, e2]
    refine congrArg some (congrArg (Prod.mk _) ?_)
    have e0 : rowsP P (sh.length + 1) N (j + 1) = P (j + 1) := rowsP_ne _ (by omega)
    have e3 : ∀ k, gr (ad ++ q :: (List.range N).map r) (P (j + 1) k) = gr ad (P (j + 1) k) := fun k => gr_more (List.prefix_append ad _) (by rw [hl]; exact h.1 _ k)
    unfold cel flds
    simp only [e0, e3]
    have e5 : ∀ k t, fv (ad ++ q :: (List.range N).map r) I L (rowsP P (sh.length + 1) N) (j + 1) k t = fv ad I L P (j + 1) k t := fun k t => by unfold fv; rw [e0, e3]
    simp only [e5]
  · subst hj
    rw [wl_at (by rw [hlen]; omega), List.getElem?_append_left (by simp [wl_len]), List.getElem?_append_right (by rw [wl_len]; exact Nat.le_refl _), wl_len]
    have e1 : (ad ++ q :: (List.range N).map r).getD sh.length 0 = q := by rw [← hl]; simp [List.getD]
    have e2 : (sh ++ (24, N) :: List.replicate N (21, K1)).getD sh.length (99, 0) = (24, N) := by simp [List.getD]
    rw [e1, e2, cel_24 rfl]
    have e3 : (fun k => gr (ad ++ q :: (List.range N).map r) (rowsP P (sh.length + 1) N (sh.length + 1) k)) = fun i => if i < N then some (r i) else none := by
      funext i
      unfold rowsP
      by_cases hi : i < N
      · rw [if_pos ⟨rfl, hi⟩, if_pos hi]
        rw [show sh.length + 1 + 1 + i = (sh.length + 1 + i) + 1 by omega]
        show (ad ++ q :: (List.range N).map r)[sh.length + 1 + i]? = _
        rw [← hl, List.getElem?_append_right (by omega)]
        rw [show ad.length + 1 + i - ad.length = i + 1 by omega]
        simp [hi]
      · rw [if_neg (fun z => hi z.2), if_neg hi, (h.2 (sh.length + 1) (by omega) i).2.2]
        rfl
    rw [e3]
    simp
  · obtain ⟨i, rfl⟩ : ∃ i, j = sh.length + 1 + i := ⟨j - sh.length - 1, by omega⟩
    rw [List.getElem?_append_right (by simp [wl_len])]
    have e0 : sh.length + 1 + i - (wl cA ad sh I L P ++ [(q, (.inl (cA 4, N, .inr (.inr (.inr (.inr (fun i => if i < N then some (r i) else none))))) : va_E))]).length = i := by simp [wl_len]
    rw [e0]
    by_cases hi : i < N
    · rw [wl_at (by rw [hlen]; omega)]
      have e1 : (ad ++ q :: (List.range N).map r).getD (sh.length + 1 + i) 0 = r i := by
        rw [List.getD, ← hl, List.getElem?_append_right (by omega), show ad.length + 1 + i - ad.length = i + 1 by omega]
        simp [hi]
      have e2 : (sh ++ (24, N) :: List.replicate N (21, K1)).getD (sh.length + 1 + i) (99, 0) = (21, K1) := by
        rw [List.getD, List.getElem?_append_right (by omega), show sh.length + 1 + i - sh.length = i + 1 by omega]
        simp [hi]
      rw [e1, e2, cel_21 rfl]
      have e3 : L (sh.length + 1 + i + 1) = fun _ => 0 := funext fun k => (h.2 _ (by omega) k).2.1
      rw [e3]
      simp [hi]
    · rw [List.getElem?_eq_none (by rw [wl_len, hlen]; omega), List.getElem?_eq_none (by simp; omega)]
section QM
variable {X : qCT} {own : String} {cc : ByteArray} {n d mc ms pc cells slots : Nat} {lo : List (Option Value)} {st : List Value} {sh : List qSh} {I : qMI} {L : qML} {P : qMP}
theorem q_multi (C : qCB X own cc n d mc ms) {idx N K1 : Nat} {zn zk : Int32} (hcl : Cond.classLink own idx "[[J" ∈ TT) (hn : ¬ zn < 0) (hk : ¬ zk < 0) (hN : zn.toNatClampNeg = N) (hM : zk.toNatClampNeg = K1) (hsm : N ≤ 1000) (hsk : K1 ≤ 60000) (hcs : cells + (1 + N) ≤ mc ∧ slots + (N + N * K1) ≤ ms) (hd : decode cc pc = .ok (.multianewarray idx 2, 4))
    (k : ∀ sh1 : List qSh, sh1 = sh ++ ((24, N) :: List.replicate N (21, K1)) → ∀ P1 : qMP, P1 = rowsP P (sh.length + 1) N → qG X (pc + 4) lo (.ref (sh.length + 1) :: st) sh1 I L P1 (cells + 1 + N) (slots + N + N * K1)) : qG X pc lo (.int zk :: .int zn :: st) sh I L P cells slots := by
  obtain ⟨p, l, e, R, s, m, args, below, meth, c, nL, D, cA, A, H0, Q, ad0⟩ := X
  obtain ⟨hx, hb, ⟨hml, hnl⟩, hown, hts, hK, hA, hlk, hE, hR⟩ := C
  intro ad H locs ls h1 h2 h3 h4 h5 h6 h7 h8
  have k := k _ rfl _ rfl
  have hP0 : va_P D vwCl (wl cA ad sh I L P ++ va_pl [] (fun _ => .inr (0, []))) H := by show va_P D vwCl (wl cA ad sh I L P ++ []) H; rw [List.append_nil]; exact h6
  have hD0 : va_D A (wl cA ad sh I L P ++ va_pl [] (fun _ => .inr (0, []))) := by show va_D A (wl cA ad sh I L P ++ []); rw [List.append_nil]; exact h7
  show W p l e R s m args below meth c H locs cells slots Q (F0 m pc ls (.int zk :: .int zn :: st.map (rv ad)))
  refine va_mna (ty := .long) (cy := cA 1) (z := (K1, .inr (.inl (fun _ => 0)))) hx hb hown (hts _ hcl) (by exact hE.2.1) (hts _ ac_long) (hK.2 1 _ rfl).2 hK hP0 hD0 h8 hA hn hk hN hM (by omega) (by show K1 * 8 ≤ _; omega) (by omega) rfl rfl (by omega) (by omega) (fun c9 => by rw [vp_cell_l, ← arrV_new]; rfl) hd (fun q r cA' H1 hinj _ hK1 hP hD hS => ?_)
  have ecA : cA' = cA 4 := by
    have g1 := (hK1.2 5 _ rfl).2
    have g2 := (hK.2 4 _ rfl).2
    exact Option.some.inj (g1.symm.trans g2)
  subst ecA
  rw [List.nil_append, ← wl_rows h1 h3] at hP hD
  have hadp : ad <+: ad ++ q :: (List.range N).map r := List.prefix_append ad _
  have hstq : st.map (rv (ad ++ q :: (List.range N).map r)) = st.map (rv ad) := rvs_more hadp (by rw [h1]; exact h4.2.2)
  have hlen : (sh ++ (24, N) :: List.replicate N (21, K1)).length = sh.length + (1 + N) := by simp; omega
  have hI : INV (sh ++ (24, N) :: List.replicate N (21, K1)) I L (rowsP P (sh.length + 1) N) := by
    refine ⟨fun a b => ?_, fun a ha b => ?_⟩
    · rw [hlen]
      unfold rowsP
      by_cases q : a = sh.length + 1 ∧ b < N
      · rw [if_pos q]; omega
      · rw [if_neg q]
        have := h3.1 a b
        omega
    · rw [hlen] at ha
      obtain ⟨z1, z2, z3⟩ := h3.2 a (by omega) b
      refine ⟨z1, z2, ?_⟩
      rw [rowsP_ne a (by omega)]
      exact z3
  have w := k (ad ++ q :: (List.range N).map r) H1 locs ls (by rw [hlen]; simp; omega) (h2.trans hadp) hI ⟨by show sh.length + 1 ≤ _; rw [hlen]; omega, okl_more (by rw [hlen]; omega) h4.2.2⟩ (LO_more h5 hadp h1.symm (by rw [hlen]; omega)) hP hD hS
  have erv : rv (ad ++ q :: (List.range N).map r) (.ref (sh.length + 1)) = .ref q := by
    show va_rf ((ad ++ q :: (List.range N).map r)[sh.length]?) = _
    rw [← h1]
    simp [va_rf]
  rw [List.map_cons, erv, hstq] at w
  exact w
end QM
