/-! ===== the flat store: virtual cells 1, 2, .. (0: null) with kinds sh, ints qI, longs, references ===== -/
abbrev qSh : Type := Nat × Nat
abbrev qMI : Type := Nat → Nat → Int32
abbrev qML : Type := Nat → Nat → Int64
abbrev qMP : Type := Nat → Nat → Nat
def uI (I : qMI) (r k : Nat) (v : Int32) : qMI := fun a b => if a = r ∧ b = k then v else I a b
def uL (L : qML) (r k : Nat) (v : Int64) : qML := fun a b => if a = r ∧ b = k then v else L a b
def uP (P : qMP) (r k : Nat) (v : Nat) : qMP := fun a b => if a = r ∧ b = k then v else P a b
def cI (I : qMI) (x y sp dp n : Nat) : qMI := fun a b => if a = y then va_cpy (I x) (I y) sp dp n b else I a b
def cLo (L : qML) (x y sp dp n : Nat) : qML := fun a b => if a = y then va_cpy (L x) (L y) sp dp n b else L a b
def gr (ad : List Nat) (n : Nat) : Option Nat := match n with
  | 0 => none
  | k + 1 => ad[k]?
def rv (ad : List Nat) (v : Value) : Value := match v with
  | .ref n => va_rf (gr ad n)
  | .retAddr a => .ref a
  | w => w
def shp (sh : List qSh) (r : Nat) : qSh := match r with
  | 0 => (99, 0)
  | k + 1 => sh.getD k (99, 0)
def fv (ad : List Nat) (I : qMI) (L : qML) (P : qMP) (r k t : Nat) : Value := match t with
  | 0 => .int (I r k)
  | 1 => .long (L r k)
  | _ => va_rf (gr ad (P r k))
def flds (ad : List Nat) (I : qMI) (L : qML) (P : qMP) (r : Nat) (ts : List Nat) : List Value := (List.range ts.length).map (fun k => fv ad I L P r k (ts.getD k 0))
def cel (cA : Nat → ClassId) (ad : List Nat) (I : qMI) (L : qML) (P : qMP) (r : Nat) (s : qSh) : va_E :=
  if s.1 = 20 then .inl (cA 0, s.2, .inl (I r))
  else if s.1 = 21 then .inl (cA 1, s.2, .inr (.inl (L r)))
  else if s.1 = 22 then .inl (cA 2, s.2, .inl (I r))
  else if s.1 = 23 then .inl (cA 3, s.2, .inr (.inr (.inr (.inr (fun k => gr ad (P r k))))))
  else if s.1 = 24 then .inl (cA 4, s.2, .inr (.inr (.inr (.inr (fun k => gr ad (P r k))))))
  else .inr (s.1, flds ad I L P r (FT s.1))
def wl (cA : Nat → ClassId) (ad : List Nat) (sh : List qSh) (I : qMI) (L : qML) (P : qMP) : va_W :=
  (List.range sh.length).map (fun j => (ad.getD j 0, cel cA ad I L P (j + 1) (sh.getD j (99, 0))))
def INV (sh : List qSh) (I : qMI) (L : qML) (P : qMP) : Prop := (∀ r k, P r k ≤ sh.length) ∧ ∀ r, sh.length < r → ∀ k, I r k = 0 ∧ L r k = 0 ∧ P r k = 0
def okv (n : Nat) (v : Value) : Prop := match v with
  | .ref a => a ≤ n
  | .double _ => False
  | _ => True
def okl (n : Nat) : List Value → Prop
  | [] => True
  | v :: st => okv n v ∧ okl n st
def LO (ls : Array Slot) (nL : Nat) (ad : List Nat) (n : Nat) (lo : List (Option Value)) : Prop := ls.size = nL ∧ lv_wf ls ∧ ∀ (i : Nat) (v : Value), lo[i]? = some (some v) → okv n v ∧ ls[i]? = some (Slot.val (rv ad v))
def TY (cA : Nat → ClassId) : List (ClassId × FieldType) := [(cA 0, .int), (cA 1, .long), (cA 2, .boolean), (cA 3, .object RX6), (cA 4, .array .long)]
theorem shp_pos {sh : List qSh} {r : Nat} (h : (shp sh r).1 ≠ 99) : ∃ k, r = k + 1 ∧ k < sh.length ∧ shp sh r = sh.getD k (99, 0) := by
  match r, h with
  | 0, h => exact absurd rfl h
  | k + 1, h =>
    refine ⟨k, rfl, ?_, rfl⟩
    rcases Nat.lt_or_ge k sh.length with q | q
    · exact q
    · exfalso
      apply h
      show (sh.getD k (99, 0)).1 = 99
      simp [List.getD, List.getElem?_eq_none q]
theorem shp_le {sh : List qSh} {r : Nat} (h : (shp sh r).1 ≠ 99) : r ≤ sh.length := by
  obtain ⟨k, rfl, hk, -⟩ := shp_pos h
  omega
theorem wl_len (cA : Nat → ClassId) (ad : List Nat) (sh : List qSh) (I : qMI) (L : qML) (P : qMP) : (wl cA ad sh I L P).length = sh.length := by simp [wl]
theorem wl_at {cA : Nat → ClassId} {ad : List Nat} {sh : List qSh} {I : qMI} {L : qML} {P : qMP} {k : Nat} (h : k < sh.length) : (wl cA ad sh I L P)[k]? = some (ad.getD k 0, cel cA ad I L P (k + 1) (sh.getD k (99, 0))) := by
  simp [wl, h]
theorem wl_get {cA : Nat → ClassId} {ad : List Nat} {sh : List qSh} (I : qMI) (L : qML) (P : qMP) {r : Nat} (h : (shp sh r).1 ≠ 99) (hl : ad.length = sh.length) :
    ∃ k a, r = k + 1 ∧ k < sh.length ∧ a = ad.getD k 0 ∧ shp sh r = sh.getD k (99, 0) ∧ (wl cA ad sh I L P)[k]? = some (a, cel cA ad I L P r (shp sh r)) ∧ gr ad r = some a := by
  obtain ⟨k, rfl, hk, e⟩ := shp_pos h
  refine ⟨k, ad.getD k 0, rfl, hk, rfl, e, by rw [e]; exact wl_at hk, ?_⟩
  show ad[k]? = some (ad.getD k 0)
  have : k < ad.length := by omega
  simp [List.getD, this]
theorem fv_congr {ad : List Nat} {I I' : qMI} {L L' : qML} {P P' : qMP} {r k t : Nat} (h1 : I' r k = I r k) (h2 : L' r k = L r k) (h3 : P' r k = P r k) : fv ad I' L' P' r k t = fv ad I L P r k t := by
  unfold fv
  rw [h1, h2, h3]
theorem cel_congr {cA : Nat → ClassId} {ad : List Nat} {I I' : qMI} {L L' : qML} {P P' : qMP} {r : Nat} {s : qSh} (h1 : ∀ k, I' r k = I r k) (h2 : ∀ k, L' r k = L r k) (h3 : ∀ k, P' r k = P r k) : cel cA ad I' L' P' r s = cel cA ad I L P r s := by
  have e1 : I' r = I r := funext h1
  have e2 : L' r = L r := funext h2
  have e3 : P' r = P r := funext h3
  have e4 : flds ad I' L' P' r (FT s.1) = flds ad I L P r (FT s.1) := by
    unfold flds
    apply List.map_congr_left
    intro k _
    exact fv_congr (h1 k) (h2 k) (h3 k)
  unfold cel
  rw [e1, e2, e3, e4]
theorem wl_set {cA : Nat → ClassId} {ad : List Nat} {sh : List qSh} {I I' : qMI} {L L' : qML} {P P' : qMP} {k : Nat} (hk : k < sh.length) {e : va_E} (he : e = cel cA ad I' L' P' (k + 1) (sh.getD k (99, 0)))
    (h1 : ∀ r, r ≠ k + 1 → I' r = I r) (h2 : ∀ r, r ≠ k + 1 → L' r = L r) (h3 : ∀ r, r ≠ k + 1 → P' r = P r) : (wl cA ad sh I L P).set k (ad.getD k 0, e) = wl cA ad sh I' L' P' := by
  apply List.ext_getElem?
  intro j
  by_cases hj : j = k
  · subst hj
    rw [List.getElem?_set_self (by rw [wl_len]; exact hk), wl_at hk, he]
  · rw [List.getElem?_set_ne (Ne.symm hj)]
    by_cases hl : j < sh.length
    · rw [wl_at hl, wl_at hl]
      have hne : j + 1 ≠ k + 1 := by omega
      exact congrArg some (congrArg (Prod.mk _) (cel_congr (fun q => by rw [h1 _ hne]) (fun q => by rw [h2 _ hne]) (fun q => by rw [h3 _ hne])).symm)
    · rw [List.getElem?_eq_none (by rw [wl_len]; omega), List.getElem?_eq_none (by rw [wl_len]; omega)]
theorem wl_D {A : Nat → Prop} {cA : Nat → ClassId} {ad : List Nat} {sh : List qSh} {I I' : qMI} {L L' : qML} {P P' : qMP} (h : va_D A (wl cA ad sh I L P)) : va_D A (wl cA ad sh I' L' P') := by
  have key : ∀ (i : Nat) (q : Nat × va_E), (wl cA ad sh I' L' P')[i]? = some q → ∃ q0, (wl cA ad sh I L P)[i]? = some q0 ∧ q0.1 = q.1 := by
    intro i q hq
    have hi : i < sh.length := by
      have := (List.getElem?_eq_some_iff.mp hq).1
      rwa [wl_len] at this
    rw [wl_at hi] at hq
    cases hq
    exact ⟨_, wl_at hi, rfl⟩
  refine ⟨fun i j p q hi hj hpq => ?_, fun k q hk => ?_⟩
  · obtain ⟨p0, a1, a2⟩ := key i p hi
    obtain ⟨q0, b1, b2⟩ := key j q hj
    exact h.1 i j p0 q0 a1 b1 (by rw [a2, b2]; exact hpq)
  · obtain ⟨q0, b1, b2⟩ := key k q hk
    rw [← b2]
    exact h.2 k q0 b1
theorem uI_ne {I : qMI} {r k : Nat} {v : Int32} : ∀ a, a ≠ r → uI I r k v a = I a := fun a h => funext fun b => if_neg (fun q => h q.1)
theorem uL_ne {L : qML} {r k : Nat} {v : Int64} : ∀ a, a ≠ r → uL L r k v a = L a := fun a h => funext fun b => if_neg (fun q => h q.1)
theorem uP_ne {P : qMP} {r k : Nat} {v : Nat} : ∀ a, a ≠ r → uP P r k v a = P a := fun a h => funext fun b => if_neg (fun q => h q.1)
theorem cI_ne {I : qMI} {x y sp dp n : Nat} : ∀ a, a ≠ y → cI I x y sp dp n a = I a := fun a h => funext fun b => if_neg h
theorem cLo_ne {L : qML} {x y sp dp n : Nat} : ∀ a, a ≠ y → cLo L x y sp dp n a = L a := fun a h => funext fun b => if_neg h
theorem uI_row (I : qMI) (r k : Nat) (v : Int32) : uI I r k v r = upd (I r) k v := by
  funext b
  simp [uI, upd]
theorem uL_row (L : qML) (r k : Nat) (v : Int64) : uL L r k v r = vp_updL (L r) k v := by
  funext b
  simp [uL, vp_updL]
theorem rv_cat (ad : List Nat) (v : Value) : (rv ad v).category = v.category := by
  cases v with
  | ref n =>
    show (va_rf (gr ad n)).category = _
    cases gr ad n <;> rfl
  | _ => rfl
theorem rv_cats (ad : List Nat) (st : List Value) : (st.map (rv ad)).map (fun v => v.category) = st.map (fun v => v.category) := by
  rw [List.map_map]
  exact List.map_congr_left fun v _ => rv_cat ad v
/-- more cells, the same values -/
theorem gr_more {ad ad' : List Nat} (h : ad <+: ad') {n : Nat} (hn : n ≤ ad.length) : gr ad' n = gr ad n := by
  match n with
  | 0 => rfl
  | k + 1 =>
    show ad'[k]? = ad[k]?
    obtain ⟨t, rfl⟩ := h
    exact List.getElem?_append_left (by omega)
theorem rv_more {ad ad' : List Nat} (h : ad <+: ad') {v : Value} (hv : okv ad.length v) : rv ad' v = rv ad v := by
  cases v with
  | ref n => exact congrArg va_rf (gr_more h hv)
  | _ => rfl
theorem okv_more {n m : Nat} (h : n ≤ m) {v : Value} (hv : okv n v) : okv m v := by
  cases v with
  | ref a => exact Nat.le_trans hv h
  | double _ => exact hv
  | _ => trivial
theorem okl_more {n m : Nat} (h : n ≤ m) : ∀ {st : List Value}, okl n st → okl m st
  | [], _ => trivial
  | _ :: _, hv => ⟨okv_more h hv.1, okl_more h hv.2⟩
theorem okl_in {n : Nat} : ∀ {st : List Value}, okl n st → ∀ v ∈ st, okv n v
  | [], _, _, hv => absurd hv List.not_mem_nil
  | _ :: _, h, v, hv => by
    rcases List.mem_cons.mp hv with rfl | hv
    · exact h.1
    · exact okl_in h.2 v hv
theorem okl_of {n : Nat} : ∀ {st : List Value}, (∀ v ∈ st, okv n v) → okl n st
  | [], _ => trivial
  | _ :: _, h => ⟨h _ List.mem_cons_self, okl_of fun v hv => h v (List.mem_cons_of_mem _ hv)⟩
theorem rvs_more {ad ad' : List Nat} (h : ad <+: ad') {st : List Value} (hv : okl ad.length st) : st.map (rv ad') = st.map (rv ad) :=
  List.map_congr_left fun v q => rv_more h (okl_in hv v q)
theorem LO_more {ls : Array Slot} {nL n m : Nat} {ad ad' : List Nat} {lo : List (Option Value)} (h : LO ls nL ad n lo) (hp : ad <+: ad') (hn : n = ad.length) (hm : n ≤ m) : LO ls nL ad' m lo := by
  refine ⟨h.1, h.2.1, fun i v hi => ?_⟩
  obtain ⟨a, b⟩ := h.2.2 i v hi
  subst hn
  exact ⟨okv_more hm a, by rw [rv_more hp a]; exact b⟩
theorem wl_more {cA : Nat → ClassId} {ad : List Nat} {sh : List qSh} {I : qMI} {L : qML} {P : qMP} (hl : ad.length = sh.length) (h : INV sh I L P) (a : Nat) (s : qSh) :
    wl cA (ad ++ [a]) (sh ++ [s]) I L P = wl cA ad sh I L P ++ [(a, cel cA (ad ++ [a]) I L P (sh.length + 1) s)] := by
  apply List.ext_getElem?
  intro j
  rcases Nat.lt_trichotomy j sh.length with hj | hj | hj
  · rw [wl_at (by simp; omega), List.getElem?_append_left (by rw [wl_len]; exact hj), wl_at hj]
    have e1 : (ad ++ [a]).getD j 0 = ad.getD j 0 := by simp [List.getD, List.getElem?_append_left (show j < ad.length by omega)]
    have e2 : (sh ++ [s]).getD j (99, 0) = sh.getD j (99, 0) := by simp [List.getD, List.getElem?_append_left hj]
    rw [e1, e2]
    refine congrArg some (congrArg (Prod.mk _) ?_)
    have e3 : ∀ r k, gr (ad ++ [a]) (P r k) = gr ad (P r k) := fun r k => gr_more (List.prefix_append ad [a]) (by rw [hl]; exact h.1 r k)
    unfold cel flds
    simp only [e3]
    have e5 : ∀ k t, fv (ad ++ [a]) I L P (j + 1) k t = fv ad I L P (j + 1) k t := fun k t => by unfold fv; rw [e3]
    simp only [e5]
  · subst hj
    rw [wl_at (by simp), List.getElem?_append_right (by rw [wl_len]; exact Nat.le_refl _), wl_len]
    have e1 : (ad ++ [a]).getD sh.length 0 = a := by rw [← hl]; simp [List.getD]
    have e2 : (sh ++ [s]).getD sh.length (99, 0) = s := by simp [List.getD]
    rw [e1, e2]
    simp
  · rw [List.getElem?_eq_none (by rw [wl_len]; simp; omega), List.getElem?_eq_none (by simp [wl_len]; omega)]
theorem INV.more {sh : List qSh} {I : qMI} {L : qML} {P : qMP} (h : INV sh I L P) (s : qSh) : INV (sh ++ [s]) I L P :=
  ⟨fun r k => by have := h.1 r k; simp; omega, fun r hr k => h.2 r (by simp at hr; omega) k⟩
theorem INV.uI {sh : List qSh} {I : qMI} {L : qML} {P : qMP} (h : INV sh I L P) {r : Nat} (hr : r ≤ sh.length) (k : Nat) (v : Int32) : INV sh (uI I r k v) L P :=
  ⟨h.1, fun a ha b => ⟨by rw [uI_ne a (by omega)]; exact (h.2 a ha b).1, (h.2 a ha b).2⟩⟩
theorem INV.uL {sh : List qSh} {I : qMI} {L : qML} {P : qMP} (h : INV sh I L P) {r : Nat} (hr : r ≤ sh.length) (k : Nat) (v : Int64) : INV sh I (uL L r k v) P :=
  ⟨h.1, fun a ha b => ⟨(h.2 a ha b).1, by rw [uL_ne a (by omega)]; exact (h.2 a ha b).2.1, (h.2 a ha b).2.2⟩⟩
theorem INV.uP {sh : List qSh} {I : qMI} {L : qML} {P : qMP} (h : INV sh I L P) {r : Nat} (hr : r ≤ sh.length) (k : Nat) {v : Nat} (hv : v ≤ sh.length) : INV sh I L (uP P r k v) :=
  ⟨fun a b => by
    show (if a = r ∧ b = k then v else P a b) ≤ sh.length
    by_cases q : a = r ∧ b = k
    · rw [if_pos q]; exact hv
    · rw [if_neg q]; exact h.1 a b, fun a ha b => ⟨(h.2 a ha b).1, (h.2 a ha b).2.1, by rw [uP_ne a (by omega)]; exact (h.2 a ha b).2.2⟩⟩
theorem INV.cI {sh : List qSh} {I : qMI} {L : qML} {P : qMP} (h : INV sh I L P) {y : Nat} (hy : y ≤ sh.length) (x sp dp n : Nat) : INV sh (cI I x y sp dp n) L P :=
  ⟨h.1, fun a ha b => ⟨by rw [cI_ne a (by omega)]; exact (h.2 a ha b).1, (h.2 a ha b).2⟩⟩
theorem INV.cLo {sh : List qSh} {I : qMI} {L : qML} {P : qMP} (h : INV sh I L P) {y : Nat} (hy : y ≤ sh.length) (x sp dp n : Nat) : INV sh I (cLo L x y sp dp n) P :=
  ⟨h.1, fun a ha b => ⟨(h.2 a ha b).1, by rw [cLo_ne a (by omega)]; exact (h.2 a ha b).2.1, (h.2 a ha b).2.2⟩⟩
/-! locals -/
def st1 (lo : List (Option Value)) (i : Nat) (v : Value) : List (Option Value) :=
  match i with
  | 0 => lo.set 0 (some v)
  | j + 1 => (match lo[j]? with | some (some (.long _)) => lo.set j none | _ => lo).set (j + 1) (some v)
def st2 (lo : List (Option Value)) (i : Nat) (v : Value) : List (Option Value) := (st1 lo i v).set (i + 1) none
def lol (ad : List Nat) (lo : List (Option Value)) : List (Nat × Value) := (List.range lo.length).filterMap (fun i => match lo[i]? with | some (some v) => some (i, rv ad v) | _ => none)
theorem lol_mem {ad : List Nat} {lo : List (Option Value)} {q : Nat × Value} : q ∈ lol ad lo ↔ ∃ v, lo[q.1]? = some (some v) ∧ q.2 = rv ad v := by
  unfold lol
  constructor
  · intro h
    obtain ⟨i, -, hi⟩ := List.mem_filterMap.mp h
    split at hi
    next v hv => cases hi; exact ⟨v, hv, rfl⟩
    next => cases hi
  · rintro ⟨v, hv, e⟩
    refine List.mem_filterMap.mpr ⟨q.1, List.mem_range.mpr (List.getElem?_eq_some_iff.mp hv).1, ?_⟩
    simp only [hv]
    rw [← e]
theorem LO.has {ls : Array Slot} {nL n : Nat} {ad : List Nat} {lo : List (Option Value)} (h : LO ls nL ad n lo) : lv_has ls nL (lol ad lo) :=
  ⟨h.1, h.2.1, fun q hq => by
    obtain ⟨v, h1, h2⟩ := lol_mem.mp hq
    rw [h2]
    exact (h.2.2 q.1 v h1).2⟩
theorem LO.of {ls : Array Slot} {nL n : Nat} {ad : List Nat} {lo : List (Option Value)} {l : List (Nat × Value)} (h : lv_has ls nL l) (hok : ∀ (i : Nat) (v : Value), lo[i]? = some (some v) → okv n v ∧ (i, rv ad v) ∈ l) : LO ls nL ad n lo :=
  ⟨h.1, h.2.1, fun i v hi => ⟨(hok i v hi).1, h.2.2 (i, rv ad v) (hok i v hi).2⟩⟩
theorem st1_get {lo : List (Option Value)} {i j : Nat} {v w : Value} (h : (st1 lo i v)[j]? = some (some w)) : (j = i ∧ w = v) ∨ (j ≠ i ∧ lo[j]? = some (some w) ∧ ¬ (j + 1 = i ∧ w.category = 2 ∧ ∃ x, w = .long x)) := by
  unfold st1 at h
  match i, h with
  | 0, h =>
    by_cases hj : j = 0
    · subst hj
      left
      have hl : 0 < lo.length := by
        have := (List.getElem?_eq_some_iff.mp h).1
        simpa using this
      rw [List.getElem?_set_self hl] at h
      cases h
      exact ⟨rfl, rfl⟩
    · right
      rw [List.getElem?_set_ne (Ne.symm hj)] at h
      exact ⟨hj, h, fun q => by omega⟩
  | k + 1, h =>
    simp only at h
    by_cases hj : j = k + 1
    · subst hj
      left
      split at h
      next =>
        have hl := (List.getElem?_eq_some_iff.mp h).1
        simp only [List.length_set] at hl
        rw [List.getElem?_set_self (by simp; omega)] at h
        cases h
        exact ⟨rfl, rfl⟩
      next =>
        have hl := (List.getElem?_eq_some_iff.mp h).1
        simp only [List.length_set] at hl
        rw [List.getElem?_set_self hl] at h
        cases h
        exact ⟨rfl, rfl⟩
    · right
      rw [List.getElem?_set_ne (Ne.symm hj)] at h
      split at h
      next x hx =>
        by_cases hk : j = k
        · subst hk
          have hl := (List.getElem?_eq_some_iff.mp h).1
          simp only [List.length_set] at hl
          rw [List.getElem?_set_self hl] at h
          cases h
        · rw [List.getElem?_set_ne (Ne.symm hk)] at h
          exact ⟨hj, h, fun q => hk (by omega)⟩
      next hx =>
        refine ⟨hj, h, fun q => ?_⟩
        obtain ⟨q1, -, x, q3⟩ := q
        have : j = k := by omega
        subst this
        subst q3
        exact hx x h
theorem LO.store1 {ls ls' : Array Slot} {nL n : Nat} {ad : List Nat} {lo : List (Option Value)} {i : Nat} {v : Value} (h : LO ls nL ad n lo) (hv : okv n v)
    (h' : lv_has ls' nL ((i, rv ad v) :: (lol ad lo).filter (fun q => !(q.1 == i) && !(q.1 + 1 == i && q.2.category == 2)))) : LO ls' nL ad n (st1 lo i v) := by
  refine LO.of h' fun j w hj => ?_
  rcases st1_get hj with ⟨rfl, rfl⟩ | ⟨h1, h2, h3⟩
  · exact ⟨hv, List.mem_cons_self⟩
  · refine ⟨(h.2.2 j w h2).1, List.mem_cons_of_mem _ (List.mem_filter.mpr ⟨lol_mem.mpr ⟨w, h2, rfl⟩, ?_⟩)⟩
    simp only [Bool.and_eq_true, Bool.not_eq_true', beq_eq_false_iff_ne, ne_eq, Bool.and_eq_false_iff]
    refine ⟨h1, ?_⟩
    by_cases hi : j + 1 = i
    · right
      rw [rv_cat]
      intro hc
      refine h3 ⟨hi, hc, ?_⟩
      cases w with
      | long x => exact ⟨x, rfl⟩
      | double x => exact absurd (h.2.2 j _ h2).1 id
      | _ => cases hc
    · exact Or.inl hi
theorem LO.store2 {ls ls' : Array Slot} {nL n : Nat} {ad : List Nat} {lo : List (Option Value)} {i : Nat} {v : Value} (h : LO ls nL ad n lo) (hv : okv n v)
    (h' : lv_has ls' nL ((i, rv ad v) :: (lol ad lo).filter (fun q => !(q.1 == i) && (!(q.1 == i + 1) && !(q.1 + 1 == i && q.2.category == 2))))) : LO ls' nL ad n (st2 lo i v) := by
  refine LO.of h' fun j w hj => ?_
  unfold st2 at hj
  by_cases hji : j = i + 1
  · subst hji
    have hl := (List.getElem?_eq_some_iff.mp hj).1
    simp only [List.length_set] at hl
    rw [List.getElem?_set_self hl] at hj
    cases hj
  · rw [List.getElem?_set_ne (Ne.symm hji)] at hj
    rcases st1_get hj with ⟨rfl, rfl⟩ | ⟨h1, h2, h3⟩
    · exact ⟨hv, List.mem_cons_self⟩
    · refine ⟨(h.2.2 j w h2).1, List.mem_cons_of_mem _ (List.mem_filter.mpr ⟨lol_mem.mpr ⟨w, h2, rfl⟩, ?_⟩)⟩
      simp only [Bool.and_eq_true, Bool.not_eq_true', beq_eq_false_iff_ne, ne_eq, Bool.and_eq_false_iff]
      refine ⟨h1, hji, ?_⟩
      by_cases hi : j + 1 = i
      · right
        rw [rv_cat]
        intro hc
        refine h3 ⟨hi, hc, ?_⟩
        cases w with
        | long x => exact ⟨x, rfl⟩
        | double x => exact absurd (h.2.2 j _ h2).1 id
        | _ => cases hc
      · exact Or.inl hi
def loE (as : List Value) : List (Option Value) := as.flatMap fun v => if v.category = 2 then [some v, none] else [some v]
def loN (n : Nat) (as : List Value) : List (Option Value) := loE as ++ List.replicate (n - (loE as).length) none
theorem lg_rv (ad : List Nat) (as : List Value) : (lg_sl (as.map (rv ad))).length = (loE as).length := by
  induction as with
  | nil => rfl
  | cons v as ih =>
    show (lg_sl (rv ad v :: as.map (rv ad))).length = (loE (v :: as)).length
    unfold lg_sl loE at ih ⊢
    simp only [List.flatMap_cons, List.length_append, rv_cat]
    rw [ih]
    split <;> rfl
theorem lo_args (ad : List Nat) (n : Nat) : ∀ (as : List Value) (i j : Nat) (v : Value), okl n as → (loE as)[j]? = some (some v) → okv n v ∧ (i + j, rv ad v) ∈ lv_args i (as.map (rv ad))
  | [], _, _, _, _, h => by simp [loE] at h
  | w :: as, i, j, v, hok, h => by
    have e : loE (w :: as) = (if w.category = 2 then [some w, none] else [some w]) ++ loE as := by simp [loE]
    rw [e] at h
    show _ ∧ _ ∈ (i, rv ad w) :: lv_args (if (rv ad w).category = 2 then i + 2 else i + 1) (as.map (rv ad))
    rw [rv_cat]
    by_cases hc : w.category = 2
    · rw [if_pos hc] at h ⊢
      match j, h with
      | 0, h => cases h; exact ⟨hok.1, List.mem_cons_self⟩
      | 1, h => cases h
      | j + 2, h =>
        have := lo_args ad n as (i + 2) j v hok.2 h
        rw [show i + (j + 2) = i + 2 + j by omega]
        exact ⟨this.1, List.mem_cons_of_mem _ this.2⟩
    · rw [if_neg hc] at h ⊢
      match j, h with
      | 0, h => cases h; exact ⟨hok.1, List.mem_cons_self⟩
      | j + 1, h =>
        have := lo_args ad n as (i + 1) j v hok.2 h
        rw [show i + (j + 1) = i + 1 + j by omega]
        exact ⟨this.1, List.mem_cons_of_mem _ this.2⟩
theorem LO.entry {ad : List Nat} {n nL : Nat} {as : List Value} (hok : okl n as) (hl : (loE as).length ≤ nL) :
    LO ((lg_sl (as.map (rv ad)) ++ List.replicate (nL - (lg_sl (as.map (rv ad))).length) Slot.unset).toArray) nL ad n (loN nL as) := by
  refine LO.of (lv_entry (as.map (rv ad)) (by rw [lg_rv]; exact hl)) fun i v hi => ?_
  unfold loN at hi
  by_cases h : i < (loE as).length
  · rw [List.getElem?_append_left h] at hi
    have := lo_args ad n as 0 i v hok hi
    simpa using this
  · rw [List.getElem?_append_right (by omega)] at hi
    have h1 := (List.getElem?_eq_some_iff.mp hi).1
    rw [List.length_replicate] at h1
    simp [h1] at hi
