/-! ===== how the two objects begin ===== -/
def IT0 : List (Nat × Nat × Int32) := [(3, 1, 1), (5, 2, 2), (5, 3, 1), (9, 1, 1), (11, 2, 2), (11, 3, 1), (17, 1, 1), (19, 2, 2), (19, 3, 1), (23, 1, 1), (25, 2, 2), (25, 3, 1), (29, 1, 1), (31, 2, 2), (31, 3, 1), (35, 1, 1), (37, 2, 2), (37, 3, 1), (41, 1, 1), (43, 2, 2), (43, 3, 1), (47, 1, 1), (49, 2, 2), (49, 3, 1), (53, 1, 1), (55, 2, 2), (55, 3, 1), (59, 1, 1), (61, 2, 2), (61, 3, 1), (65, 1, 1), (67, 2, 2), (67, 3, 1), (71, 1, 1), (73, 2, 2), (73, 3, 1), (77, 1, 1), (79, 2, 2), (79, 3, 1), (83, 1, 1), (89, 1, 2), (92, 1, 1), (88, 5, 2), (88, 6, 1), (113, 1, 2), (116, 1, 1), (112, 5, 2), (112, 6, 1), (139, 1, 1), (141, 2, 2), (141, 3, 1), (1, 10, (-4)), (145, 1, 1)]
def aI (l : List (Nat × Nat × Int32)) : qMI := l.foldl (fun I q => uI I q.1 q.2.1 q.2.2) (fun _ _ => 0)
theorem tk_1 {α : Type} {l : List α} {j : Nat} {q : α} (h : l[j]? = some q) : l.take (j + 1) = l.take j ++ [q] := by
  rw [List.take_add_one, h]; rfl
theorem aI_1 {j a b : Nat} {v : Int32} (h : IT0[j]? = some (a, b, v)) : uI (aI (IT0.take j)) a b v = aI (IT0.take (j + 1)) := by
  rw [tk_1 h]
  unfold aI
  rw [List.foldl_append]; rfl
def LT1 : List (Nat × Nat × Nat) := [(3, 3, 4), (2, 0, 3), (5, 5, 6), (5, 6, 7), (2, 1, 5), (1, 0, 2), (9, 3, 10), (8, 0, 9), (11, 5, 12), (11, 6, 13), (8, 1, 11), (1, 1, 8), (14, 0, 15), (17, 3, 18), (16, 0, 17), (19, 5, 20), (19, 6, 21), (16, 1, 19), (23, 3, 24), (22, 0, 23), (25, 5, 26), (25, 6, 27), (22, 1, 25), (29, 3, 30), (28, 0, 29), (31, 5, 32), (31, 6, 33), (28, 1, 31), (35, 3, 36), (34, 0, 35), (37, 5, 38), (37, 6, 39), (34, 1, 37), (41, 3, 42), (40, 0, 41), (43, 5, 44), (43, 6, 45), (40, 1, 43), (47, 3, 48), (46, 0, 47), (49, 5, 50), (49, 6, 51), (46, 1, 49), (53, 3, 54), (52, 0, 53), (55, 5, 56), (55, 6, 57), (52, 1, 55), (59, 3, 60), (58, 0, 59), (61, 5, 62), (61, 6, 63), (58, 1, 61), (65, 3, 66), (64, 0, 65), (67, 5, 68), (67, 6, 69), (64, 1, 67), (71, 3, 72), (70, 0, 71), (73, 5, 74), (73, 6, 75), (70, 1, 73), (77, 3, 78), (76, 0, 77), (79, 5, 80), (79, 6, 81), (76, 1, 79), (1, 2, 14), (83, 3, 84), (82, 0, 83), (82, 1, 85), (86, 0, 87), (82, 2, 86), (1, 3, 82), (89, 3, 90), (89, 4, 91), (88, 0, 89), (92, 3, 93), (88, 1, 92), (88, 8, 94), (95, 0, 96), (95, 1, 97), (95, 2, 98), (95, 3, 99), (95, 4, 100), (95, 5, 101), (95, 6, 102), (95, 7, 103), (95, 8, 104), (95, 9, 105), (95, 10, 106), (95, 11, 107), (95, 12, 108), (95, 13, 109), (95, 14, 110), (95, 15, 111), (88, 9, 95), (1, 4, 88), (113, 3, 114), (113, 4, 115), (112, 0, 113), (116, 3, 117), (112, 1, 116), (112, 8, 118), (119, 0, 120), (119, 1, 121), (119, 2, 122), (119, 3, 123), (119, 4, 124), (119, 5, 125), (119, 6, 126), (119, 7, 127), (119, 8, 128), (119, 9, 129), (119, 10, 130), (119, 11, 131), (119, 12, 132), (119, 13, 133), (119, 14, 134), (119, 15, 135), (112, 9, 119), (1, 5, 112), (136, 0, 137), (136, 1, 138), (1, 6, 136), (139, 3, 140), (1, 7, 139), (141, 5, 142), (141, 6, 143), (1, 8, 141), (144, 0, 145), (144, 1, 146), (144, 2, 147), (144, 3, 148), (144, 7, 149), (144, 8, 150), (144, 9, 151), (144, 13, 152), (144, 14, 153), (144, 15, 154), (144, 16, 155), (144, 18, 156), (144, 19, 157), (144, 20, 158), (144, 21, 159), (144, 26, 160), (144, 27, 161)]
def LYn (n m : Nat) (P : qMP) : Prop := (∀ q, q ∈ LT1.take n → P q.1 q.2.1 = q.2.2) ∧ ∀ i, i < m → P 15 i = 16 + 6 * i
def LK0 : List (Nat × Nat) := LT1.map (fun q => (q.1, q.2.1))
theorem LK0_nd : LK0.Nodup := by decide +kernel
theorem LT1_15 : ∀ q, q ∈ LT1 → q.1 ≠ 15 := by decide +kernel
theorem LYn.next {k m a b v : Nat} {P : qMP} (h : LYn k m P) (e : LT1[k]? = some (a, b, v)) : LYn (k + 1) m (uP P a b v) := by
  have e2 : LK0[k]? = some (a, b) := by unfold LK0; rw [List.getElem?_map, e]; rfl
  have nd : (LK0.take k ++ [(a, b)]).Nodup := by
    rw [← tk_1 e2]
    exact LK0_nd.sublist (List.take_sublist _ _)
  have h15 : a ≠ 15 := LT1_15 _ (List.mem_of_getElem? e)
  refine ⟨fun q hq => ?_, fun i hi => ?_⟩
  · rw [tk_1 e] at hq
    rcases List.mem_append.mp hq with hq | hq
    · have hm : (q.1, q.2.1) ∈ LK0.take k := by
        unfold LK0
        rw [← List.map_take]
        exact List.mem_map.mpr ⟨q, hq, rfl⟩
      have hne : ¬ (q.1 = a ∧ q.2.1 = b) := fun z => by
        have := (List.nodup_append.mp nd).2.2 _ hm (a, b) List.mem_cons_self
        exact this (by rw [z.1, z.2])
      show (if q.1 = a ∧ q.2.1 = b then v else P q.1 q.2.1) = _
      rw [if_neg hne]; exact h.1 q hq
    · have hq := List.mem_singleton.mp hq
      subst hq
      exact if_pos ⟨rfl, rfl⟩
  · show (if 15 = a ∧ i = b then v else P 15 i) = _
    rw [if_neg (fun z => h15 z.1.symm)]; exact h.2 i hi
theorem LYn.kept {k m v : Nat} {P : qMP} (h : LYn k m P) (e : v = 16 + 6 * m) : LYn k (m + 1) (uP P 15 m v) := by
  refine ⟨fun q hq => ?_, fun i hi => ?_⟩
  · have h15 : q.1 ≠ 15 := LT1_15 _ (List.mem_of_mem_take hq)
    show (if q.1 = 15 ∧ q.2.1 = m then v else P q.1 q.2.1) = _
    rw [if_neg (fun z => h15 z.1)]; exact h.1 q hq
  · show (if 15 = 15 ∧ i = m then v else P 15 i) = _
    by_cases z : i = m
    · rw [if_pos ⟨rfl, z⟩, e, z]
    · rw [if_neg (fun y => z y.2)]; exact h.2 i (by omega)
theorem LYn.get {k m i a b v : Nat} {P : qMP} (h : LYn k m P) (e : LT1[i]? = some (a, b, v)) (hi : i < k) : P a b = v :=
  h.1 (a, b, v) (List.mem_of_getElem? (i := i) (by rw [List.getElem?_take_of_lt hi]; exact e))
theorem LYn.rows {k m a : Nat} {P : qMP} (h : LYn k m P) : ∀ n, (∀ t, t < n → LT1[k + t]? = some (a, t, a + 1 + t)) → LYn (k + n) m (rowsP P a n)
  | 0, _ => by
    have : rowsP P a 0 = P := funext fun x => funext fun y => if_neg (by omega)
    rw [this]; exact h
  | n + 1, e => by
    have : rowsP P a (n + 1) = uP (rowsP P a n) a n (a + 1 + n) := funext fun x => funext fun y => by
      show (if x = a ∧ y < n + 1 then a + 1 + y else P x y) = if x = a ∧ y = n then a + 1 + n else (if x = a ∧ y < n then a + 1 + y else P x y)
      by_cases z : x = a ∧ y = n
      · rw [if_pos z, if_pos (by omega), z.2]
      · rw [if_neg z]
        by_cases z2 : x = a ∧ y < n
        · rw [if_pos z2, if_pos (by omega)]
        · rw [if_neg z2, if_neg (by omega)]
    rw [this]
    exact (h.rows n fun t ht => e t (by omega)).next (e n (by omega))
theorem LYn.lay {m : Nat} {P : qMP} (h : LYn 148 m P) : LAY P := fun q hq => by
  have hs : (LT0.all fun q => LT1.contains q) = true := by decide +kernel
  have hm : q ∈ LT1 := List.contains_iff_mem.mp (List.all_eq_true.mp hs q hq)
  refine h.1 q ?_
  have hl : LT1.length ≤ 148 := by decide +kernel
  rw [List.take_of_length_le hl]
  exact hm
theorem sh_1 {i : Nat} {x : qSh} (h : SH0[i]? = some x) : SH0.take i ++ [x] = SH0.take (i + 1) := (tk_1 h).symm
theorem SH0_n : SH0.length = 161 := by decide +kernel
theorem sh_n {i : Nat} (h : i ≤ 161) : (SH0.take i).length = i := by rw [List.length_take, SH0_n]; omega
theorem sh_p {i r : Nat} (h : r ≤ i) : shp (SH0.take i) r = shp SH0 r := by
  cases r with
  | zero => rfl
  | succ r =>
    show (SH0.take i).getD r (99, 0) = SH0.getD r (99, 0)
    rw [List.getD_eq_getElem?_getD, List.getD_eq_getElem?_getD, List.getElem?_take_of_lt (by omega)]
section IN
variable {d i j k m a0 : Nat} {L : qML} {P : qMP} {K : Option Value → List qSh → qMI → qML → qMP → Prop}
abbrev cE (i j k a : Nat) : Prop := a ≠ 0 ∧ a ≤ i ∧ i < 161 ∧ (shp SH0 a).1 = 2 ∧ SH0[i]? = some (20, 40) ∧ IT0[j]? = some (a, 1, 1) ∧ LT1[k]? = some (a, 3, i + 1)
theorem in_X2 (c : cE i j k a0) (h : LYn k m P) (g : ∀ P', LYn (k + 1) m P' → K none (SH0.take (i + 1)) (aI (IT0.take (j + 1))) L P') : SqN (d + 1) 1 40 mX2_init (SH0.take i) [.ref a0] (aI (IT0.take j)) L P K := by
  obtain ⟨c1, c2, c3, c4, c5, c6, c7⟩ := c
  refine sp_X2_init ⟨c1, by rw [sh_p c2]; exact c4, fun I3 e3 sh4 e4 => ?_⟩
  subst e3 e4
  rw [sh_1 c5, aI_1 c6, sh_p (by omega), sh_n (by omega)]
  exact ⟨c4, fun P6 e6 => by subst e6; exact g _ (h.next c7)⟩
abbrev cT (i k a : Nat) : Prop := a ≠ 0 ∧ a ≤ i ∧ i < 161 ∧ (shp SH0 a).1 = 7 ∧ SH0[i]? = some (20, 120) ∧ LT1[k]? = some (a, 0, i + 1)
theorem in_X7 (c : cT i k a0) (h : LYn k m P) {I : qMI} (g : ∀ P', LYn (k + 1) m P' → K none (SH0.take (i + 1)) I L P') : SqN (d + 1) 1 120 mX7_init (SH0.take i) [.ref a0] I L P K := by
  obtain ⟨c1, c2, c3, c4, c5, c7⟩ := c
  refine sp_X7_init ⟨c1, fun sh2 e2 => ?_⟩
  subst e2
  rw [sh_1 c5, sh_p (by omega), sh_n (by omega)]
  exact ⟨c4, fun P6 e6 => by subst e6; exact g _ (h.next c7)⟩
abbrev cR (i j k a : Nat) : Prop := a ≠ 0 ∧ a ≤ i ∧ i < 160 ∧ (shp SH0 a).1 = 5 ∧ SH0[i]? = some (20, 8) ∧ SH0[i + 1]? = some (20, 8) ∧ IT0[j]? = some (a, 1, 2) ∧ LT1[k]? = some (a, 3, i + 1) ∧ LT1[k + 1]? = some (a, 4, i + 1 + 1)
theorem in_X5 (c : cR i j k a0) (h : LYn k m P) (g : ∀ P', LYn (k + 2) m P' → K none (SH0.take (i + 2)) (aI (IT0.take (j + 1))) L P') : SqN (d + 1) 2 16 mX5_init (SH0.take i) [.ref a0] (aI (IT0.take j)) L P K := by
  obtain ⟨c1, c2, c3, c4, c5, c5', c6, c7, c8⟩ := c
  refine sp_X5_init ⟨c1, by rw [sh_p c2]; exact c4, fun I3 e3 sh4 e4 => ?_⟩
  subst e3 e4
  rw [sh_1 c5, aI_1 c6, sh_p (by omega), sh_n (by omega)]
  refine ⟨c4, fun P6 e6 sh7 e7 => ?_⟩
  subst e6 e7
  rw [sh_1 c5', sh_p (by omega), sh_n (by omega)]
  exact ⟨c4, fun P9 e9 => by subst e9; exact g _ ((h.next c7).next c8)⟩
abbrev cD (i j k a : Nat) : Prop := a ≠ 0 ∧ a ≤ i ∧ i < 160 ∧ (shp SH0 a).1 = 1 ∧ SH0[i]? = some (20, 32) ∧ SH0[i + 1]? = some (20, 16) ∧ IT0[j]? = some (a, 2, 2) ∧ IT0[j + 1]? = some (a, 3, 1) ∧ LT1[k]? = some (a, 5, i + 1) ∧ LT1[k + 1]? = some (a, 6, i + 1 + 1)
theorem in_X1 (c : cD i j k a0) (h : LYn k m P) (g : ∀ P', LYn (k + 2) m P' → K none (SH0.take (i + 2)) (aI (IT0.take (j + 2))) L P') : SqN (d + 1) 2 48 mX1_init (SH0.take i) [.ref a0] (aI (IT0.take j)) L P K := by
  obtain ⟨c1, c2, c3, c4, c5, c5', c6, c6', c7, c8⟩ := c
  refine sp_X1_init ⟨c1, by rw [sh_p c2]; exact c4, fun I3 e3 I4 e4 sh5 e5 => ?_⟩
  subst e3 e4 e5
  rw [sh_1 c5, aI_1 c6, aI_1 c6', sh_p (by omega), sh_n (by omega)]
  refine ⟨c4, fun P6 e6 sh7 e7 => ?_⟩
  subst e6 e7
  rw [sh_1 c5', sh_p (by omega), sh_n (by omega)]
  exact ⟨c4, fun P9 e9 => by subst e9; exact g _ ((h.next c7).next c8)⟩
abbrev cX (i j k a : Nat) : Prop := a ≠ 0 ∧ a ≤ i ∧ i < 150 ∧ (shp SH0 a).1 = 6 ∧ SH0[i]? = some (2, 0) ∧ cE (i + 1) j k (i + 1) ∧ LT1[k + 1]? = some (a, 0, i + 1) ∧ SH0[i + 2]? = some (1, 0) ∧ cD (i + 3) (j + 1) (k + 2) (i + 3) ∧ LT1[k + 4]? = some (a, 1, i + 3)
theorem in_X6 (c : cX i j k a0) (h : LYn k m P) (g : ∀ P', LYn (k + 5) m P' → K none (SH0.take (i + 5)) (aI (IT0.take (j + 3))) L P') : SqN (d + 2) 5 99 mX6_init (SH0.take i) [.ref a0] (aI (IT0.take j)) L P K := by
  obtain ⟨c1, c2, c3, c4, c5, c6, c7, c8, c9, c10⟩ := c
  refine sp_X6_init ⟨c1, fun sh2 e2 => ?_⟩
  subst e2
  rw [sh_1 c5, sh_n (by omega)]
  refine in_X2 c6 h fun P6 h6 => ⟨by rw [sh_p (by omega)]; exact c4, fun P8 e8 sh9 e9 => ?_⟩
  subst e8 e9
  rw [sh_1 c8, sh_n (by omega)]
  refine in_X1 c9 (h6.next c7) fun P13 h13 => ⟨by rw [sh_p (by omega)]; exact c4, fun P15 e15 => ?_⟩
  subst e15
  exact g _ (h13.next c10)
abbrev cTx (i j k a : Nat) : Prop := a ≠ 0 ∧ a ≤ i ∧ i < 150 ∧ (shp SH0 a).1 = 8 ∧ SH0[i]? = some (2, 0) ∧ cE (i + 1) j k (i + 1) ∧ LT1[k + 1]? = some (a, 0, i + 1) ∧ SH0[i + 2]? = some (20, 4) ∧ LT1[k + 2]? = some (a, 1, i + 3) ∧ SH0[i + 3]? = some (7, 0) ∧ cT (i + 4) (k + 3) (i + 4) ∧ LT1[k + 4]? = some (a, 2, i + 4)
theorem in_X8 (c : cTx i j k a0) (h : LYn k m P) (g : ∀ P', LYn (k + 5) m P' → K none (SH0.take (i + 5)) (aI (IT0.take (j + 1))) L P') : SqN (d + 2) 5 170 mX8_init (SH0.take i) [.ref a0] (aI (IT0.take j)) L P K := by
  obtain ⟨c1, c2, c3, c4, c5, c6, c7, c8, c9, c10, c11, c12⟩ := c
  refine sp_X8_init ⟨c1, fun sh2 e2 => ?_⟩
  subst e2
  rw [sh_1 c5, sh_n (by omega)]
  refine in_X2 c6 h fun P6 h6 => ⟨by rw [sh_p (by omega)]; exact c4, fun P8 e8 sh9 e9 => ?_⟩
  subst e8 e9
  rw [sh_1 c8, sh_n (by omega)]
  refine ⟨by rw [sh_p (by omega)]; exact c4, fun P11 e11 sh12 e12 => ?_⟩
  subst e11 e12
  rw [sh_1 c10, sh_n (by omega)]
  refine in_X7 c11 ((h6.next c7).next c9) fun P16 h16 => ⟨by rw [sh_p (by omega)]; exact c4, fun P18 e18 => ?_⟩
  subst e18
  exact g _ (h16.next c12)
abbrev cC (i j k a : Nat) : Prop := a ≠ 0 ∧ a ≤ i ∧ i < 120 ∧ (shp SH0 a).1 = 0 ∧ SH0[i]? = some (5, 0) ∧ cR (i + 1) j k (i + 1) ∧ LT1[k + 2]? = some (a, 0, i + 1) ∧ SH0[i + 3]? = some (2, 0) ∧ cE (i + 4) (j + 1) (k + 3) (i + 4) ∧ LT1[k + 4]? = some (a, 1, i + 4) ∧ IT0[j + 2]? = some (a, 5, 2) ∧ IT0[j + 3]? = some (a, 6, 1) ∧ SH0[i + 5]? = some (20, 32) ∧ LT1[k + 5]? = some (a, 8, i + 6) ∧ (SH0.drop (i + 6)).take 17 = (24, 16) :: List.replicate 16 (21, 1024) ∧ (∀ t, t < 16 → LT1[k + 6 + t]? = some (i + 7, t, i + 7 + 1 + t)) ∧ LT1[k + 22]? = some (a, 9, i + 7)
theorem in_X0 (c : cC i j k a0) (h : LYn k m P) (g : ∀ P', LYn (k + 23) m P' → K none (SH0.take (i + 23)) (aI (IT0.take (j + 4))) L P') : SqN (d + 2) 23 16501 mX0_init (SH0.take i) [.ref a0] (aI (IT0.take j)) L P K := by
  obtain ⟨c1, c2, c3, c4, c5, c6, c7, c8, c9, c10, c11, c12, c13, c14, c15, c16, c17⟩ := c
  refine sp_X0_init ⟨c1, fun sh2 e2 => ?_⟩
  subst e2
  rw [sh_1 c5, sh_n (by omega)]
  refine in_X5 c6 h fun P6 h6 => ⟨by rw [sh_p (by omega)]; exact c4, fun P8 e8 sh9 e9 => ?_⟩
  subst e8 e9
  rw [sh_1 c8, sh_n (by omega)]
  refine in_X2 c9 (h6.next c7) fun P13 h13 => ⟨by rw [sh_p (by omega)]; exact c4, fun P15 e15 I16 e16 I17 e17 sh18 e18 => ?_⟩
  subst e15 e16 e17 e18
  rw [sh_1 c13, sh_n (by omega), aI_1 c11, aI_1 c12]
  refine ⟨by rw [sh_p (by omega)]; exact c4, fun P20 e20 sh21 e21 P22 e22 => ?_⟩
  subst e20 e21 e22
  rw [← c15, ← List.take_add, sh_n (by omega)]
  refine ⟨by rw [sh_p (by omega)]; exact c4, fun P24 e24 => ?_⟩
  subst e24
  exact g _ ((((h13.next c10).next c14).rows 16 c16).next c17)
abbrev cN (i k a : Nat) : Prop := a ≠ 0 ∧ a ≤ i ∧ i < 160 ∧ (shp SH0 a).1 = 4 ∧ SH0[i]? = some (20, 32) ∧ SH0[i + 1]? = some (21, 32) ∧ LT1[k]? = some (a, 0, i + 1) ∧ LT1[k + 1]? = some (a, 1, i + 2)
theorem in_X4 (c : cN i k a0) (h : LYn k m P) {I : qMI} (g : ∀ P', LYn (k + 2) m P' → K none (SH0.take (i + 2)) I L P') : SqN (d + 1) 2 64 mX4_init (SH0.take i) [.ref a0] I L P K := by
  obtain ⟨c1, c2, c3, c4, c5, c6, c7, c8⟩ := c
  refine sp_X4_init ⟨c1, fun sh2 e2 => ?_⟩
  subst e2
  rw [sh_1 c5, sh_n (by omega)]
  refine ⟨by rw [sh_p (by omega)]; exact c4, fun P4 e4 sh5 e5 => ?_⟩
  subst e4 e5
  rw [sh_1 c6, sh_n (by omega)]
  refine ⟨by rw [sh_p (by omega)]; exact c4, fun P7 e7 => ?_⟩
  subst e7
  exact g _ ((h.next c7).next c8)
theorem in_X3 (h : LYn 12 0 P) (g : ∀ P', LYn 68 11 P' → K none (SH0.take 81) (aI (IT0.take 39)) L P') : SqN (d + 3) 67 1122 mX3_init (SH0.take 14) [.ref 14] (aI (IT0.take 6)) L P K := by
  refine sp_X3_init ⟨by decide, fun sh2 e2 => ?_⟩
  subst e2
  rw [sh_1 (i := 14) rfl, sh_n (by decide)]
  refine ⟨by decide +kernel, fun Q0 e4 => ?_⟩
  have h0 : LYn 13 0 Q0 := by subst e4; exact h.next rfl
  clear e4 h
  have p0 : Q0 14 0 = 15 := h0.get (i := 12) rfl (by decide)
  rw [p0]
  refine ⟨by decide +kernel, fun c => absurd c (by decide +kernel), fun _ sh7 e7 => ?_⟩
  subst e7
  rw [sh_1 (i := 15) rfl, sh_n (i := 15) (by decide)]
  refine in_X6 (i := 16) (j := 6) (k := 13) (m := 0) (by (repeat' apply And.intro) <;> decide +kernel) h0 fun P11 hh => ⟨by decide +kernel, vin 0 rfl (by decide +kernel) (by decide +kernel), by decide +kernel, fun Q1 e15 => ?_⟩
  have h1 : LYn 18 1 Q1 := by subst e15; exact hh.kept (m := 0) rfl
  clear e15 hh h0 p0
  have p1 : Q1 14 0 = 15 := h1.get (i := 12) rfl (by decide)
  rw [p1]
  refine ⟨by decide +kernel, ?_⟩
  refine ⟨by decide +kernel, fun c => absurd c (by decide +kernel), fun _ sh7 e7 => ?_⟩
  subst e7
  rw [sh_1 (i := 21) rfl, sh_n (i := 21) (by decide)]
  refine in_X6 (i := 22) (j := 9) (k := 18) (m := 1) (by (repeat' apply And.intro) <;> decide +kernel) h1 fun P11 hh => ⟨by decide +kernel, vin 1 rfl (by decide +kernel) (by decide +kernel), by decide +kernel, fun Q2 e15 => ?_⟩
  have h2 : LYn 23 2 Q2 := by subst e15; exact hh.kept (m := 1) rfl
  clear e15 hh h1 p1
  have p2 : Q2 14 0 = 15 := h2.get (i := 12) rfl (by decide)
  rw [p2]
  refine ⟨by decide +kernel, ?_⟩
  refine ⟨by decide +kernel, fun c => absurd c (by decide +kernel), fun _ sh7 e7 => ?_⟩
  subst e7
  rw [sh_1 (i := 27) rfl, sh_n (i := 27) (by decide)]
  refine in_X6 (i := 28) (j := 12) (k := 23) (m := 2) (by (repeat' apply And.intro) <;> decide +kernel) h2 fun P11 hh => ⟨by decide +kernel, vin 2 rfl (by decide +kernel) (by decide +kernel), by decide +kernel, fun Q3 e15 => ?_⟩
  have h3 : LYn 28 3 Q3 := by subst e15; exact hh.kept (m := 2) rfl
  clear e15 hh h2 p2
  have p3 : Q3 14 0 = 15 := h3.get (i := 12) rfl (by decide)
  rw [p3]
  refine ⟨by decide +kernel, ?_⟩
  refine ⟨by decide +kernel, fun c => absurd c (by decide +kernel), fun _ sh7 e7 => ?_⟩
  subst e7
  rw [sh_1 (i := 33) rfl, sh_n (i := 33) (by decide)]
  refine in_X6 (i := 34) (j := 15) (k := 28) (m := 3) (by (repeat' apply And.intro) <;> decide +kernel) h3 fun P11 hh => ⟨by decide +kernel, vin 3 rfl (by decide +kernel) (by decide +kernel), by decide +kernel, fun Q4 e15 => ?_⟩
  have h4 : LYn 33 4 Q4 := by subst e15; exact hh.kept (m := 3) rfl
  clear e15 hh h3 p3
  have p4 : Q4 14 0 = 15 := h4.get (i := 12) rfl (by decide)
  rw [p4]
  refine ⟨by decide +kernel, ?_⟩
  refine ⟨by decide +kernel, fun c => absurd c (by decide +kernel), fun _ sh7 e7 => ?_⟩
  subst e7
  rw [sh_1 (i := 39) rfl, sh_n (i := 39) (by decide)]
  refine in_X6 (i := 40) (j := 18) (k := 33) (m := 4) (by (repeat' apply And.intro) <;> decide +kernel) h4 fun P11 hh => ⟨by decide +kernel, vin 4 rfl (by decide +kernel) (by decide +kernel), by decide +kernel, fun Q5 e15 => ?_⟩
  have h5 : LYn 38 5 Q5 := by subst e15; exact hh.kept (m := 4) rfl
  clear e15 hh h4 p4
  have p5 : Q5 14 0 = 15 := h5.get (i := 12) rfl (by decide)
  rw [p5]
  refine ⟨by decide +kernel, ?_⟩
  refine ⟨by decide +kernel, fun c => absurd c (by decide +kernel), fun _ sh7 e7 => ?_⟩
  subst e7
  rw [sh_1 (i := 45) rfl, sh_n (i := 45) (by decide)]
  refine in_X6 (i := 46) (j := 21) (k := 38) (m := 5) (by (repeat' apply And.intro) <;> decide +kernel) h5 fun P11 hh => ⟨by decide +kernel, vin 5 rfl (by decide +kernel) (by decide +kernel), by decide +kernel, fun Q6 e15 => ?_⟩
  have h6 : LYn 43 6 Q6 := by subst e15; exact hh.kept (m := 5) rfl
  clear e15 hh h5 p5
  have p6 : Q6 14 0 = 15 := h6.get (i := 12) rfl (by decide)
  rw [p6]
  refine ⟨by decide +kernel, ?_⟩
  refine ⟨by decide +kernel, fun c => absurd c (by decide +kernel), fun _ sh7 e7 => ?_⟩
  subst e7
  rw [sh_1 (i := 51) rfl, sh_n (i := 51) (by decide)]
  refine in_X6 (i := 52) (j := 24) (k := 43) (m := 6) (by (repeat' apply And.intro) <;> decide +kernel) h6 fun P11 hh => ⟨by decide +kernel, vin 6 rfl (by decide +kernel) (by decide +kernel), by decide +kernel, fun Q7 e15 => ?_⟩
  have h7 : LYn 48 7 Q7 := by subst e15; exact hh.kept (m := 6) rfl
  clear e15 hh h6 p6
  have p7 : Q7 14 0 = 15 := h7.get (i := 12) rfl (by decide)
  rw [p7]
  refine ⟨by decide +kernel, ?_⟩
  refine ⟨by decide +kernel, fun c => absurd c (by decide +kernel), fun _ sh7 e7 => ?_⟩
  subst e7
  rw [sh_1 (i := 57) rfl, sh_n (i := 57) (by decide)]
  refine in_X6 (i := 58) (j := 27) (k := 48) (m := 7) (by (repeat' apply And.intro) <;> decide +kernel) h7 fun P11 hh => ⟨by decide +kernel, vin 7 rfl (by decide +kernel) (by decide +kernel), by decide +kernel, fun Q8 e15 => ?_⟩
  have h8 : LYn 53 8 Q8 := by subst e15; exact hh.kept (m := 7) rfl
  clear e15 hh h7 p7
  have p8 : Q8 14 0 = 15 := h8.get (i := 12) rfl (by decide)
  rw [p8]
  refine ⟨by decide +kernel, ?_⟩
  refine ⟨by decide +kernel, fun c => absurd c (by decide +kernel), fun _ sh7 e7 => ?_⟩
  subst e7
  rw [sh_1 (i := 63) rfl, sh_n (i := 63) (by decide)]
  refine in_X6 (i := 64) (j := 30) (k := 53) (m := 8) (by (repeat' apply And.intro) <;> decide +kernel) h8 fun P11 hh => ⟨by decide +kernel, vin 8 rfl (by decide +kernel) (by decide +kernel), by decide +kernel, fun Q9 e15 => ?_⟩
  have h9 : LYn 58 9 Q9 := by subst e15; exact hh.kept (m := 8) rfl
  clear e15 hh h8 p8
  have p9 : Q9 14 0 = 15 := h9.get (i := 12) rfl (by decide)
  rw [p9]
  refine ⟨by decide +kernel, ?_⟩
  refine ⟨by decide +kernel, fun c => absurd c (by decide +kernel), fun _ sh7 e7 => ?_⟩
  subst e7
  rw [sh_1 (i := 69) rfl, sh_n (i := 69) (by decide)]
  refine in_X6 (i := 70) (j := 33) (k := 58) (m := 9) (by (repeat' apply And.intro) <;> decide +kernel) h9 fun P11 hh => ⟨by decide +kernel, vin 9 rfl (by decide +kernel) (by decide +kernel), by decide +kernel, fun Q10 e15 => ?_⟩
  have h10 : LYn 63 10 Q10 := by subst e15; exact hh.kept (m := 9) rfl
  clear e15 hh h9 p9
  have p10 : Q10 14 0 = 15 := h10.get (i := 12) rfl (by decide)
  rw [p10]
  refine ⟨by decide +kernel, ?_⟩
  refine ⟨by decide +kernel, fun c => absurd c (by decide +kernel), fun _ sh7 e7 => ?_⟩
  subst e7
  rw [sh_1 (i := 75) rfl, sh_n (i := 75) (by decide)]
  refine in_X6 (i := 76) (j := 36) (k := 63) (m := 10) (by (repeat' apply And.intro) <;> decide +kernel) h10 fun P11 hh => ⟨by decide +kernel, vin 10 rfl (by decide +kernel) (by decide +kernel), by decide +kernel, fun Q11 e15 => ?_⟩
  have h11 : LYn 68 11 Q11 := by subst e15; exact hh.kept (m := 10) rfl
  clear e15 hh h10 p10
  have p11 : Q11 14 0 = 15 := h11.get (i := 12) rfl (by decide)
  rw [p11]
  refine ⟨by decide +kernel, ?_⟩
  exact ⟨by decide +kernel, g _ h11, fun c => c (by decide +kernel)⟩
theorem in_X9 (h : LYn 0 0 P) (g : ∀ P', LYn 131 11 P' → K none (SH0.take 143) (aI (IT0.take 52)) L P') : SqN (d + 4) 142 34688 mX9_init (SH0.take 1) [.ref 1] (aI (IT0.take 0)) L P K := by
  refine sp_X9_init ⟨by decide, fun sh2 e2 => ?_⟩
  subst e2
  rw [sh_1 (i := 1) rfl, sh_n (i := 1) (by decide)]
  refine in_X6 (i := 2) (j := 0) (k := 0) (m := 0) (by (repeat' apply And.intro) <;> decide +kernel) h fun P6 g0 => ⟨by decide +kernel, fun P8 e8 sh2 e2 => ?_⟩
  have h0 : LYn 6 0 P8 := by subst e8; exact g0.next rfl
  clear e8 g0
  subst e2
  rw [sh_1 (i := 7) rfl, sh_n (i := 7) (by decide)]
  refine in_X6 (i := 8) (j := 3) (k := 6) (m := 0) (by (repeat' apply And.intro) <;> decide +kernel) h0 fun P6 g1 => ⟨by decide +kernel, fun P8 e8 sh2 e2 => ?_⟩
  have h1 : LYn 12 0 P8 := by subst e8; exact g1.next rfl
  clear e8 g1
  subst e2
  rw [sh_1 (i := 13) rfl, sh_n (i := 13) (by decide)]
  refine in_X3 h1 fun P6 g2 => ⟨by decide +kernel, fun P8 e8 sh2 e2 => ?_⟩
  have h2 : LYn 69 11 P8 := by subst e8; exact g2.next rfl
  clear e8 g2
  subst e2
  rw [sh_1 (i := 81) rfl, sh_n (i := 81) (by decide)]
  refine in_X8 (i := 82) (j := 39) (k := 69) (m := 11) (by (repeat' apply And.intro) <;> decide +kernel) h2 fun P6 g3 => ⟨by decide +kernel, fun P8 e8 sh2 e2 => ?_⟩
  have h3 : LYn 75 11 P8 := by subst e8; exact g3.next rfl
  clear e8 g3
  subst e2
  rw [sh_1 (i := 87) rfl, sh_n (i := 87) (by decide)]
  refine in_X0 (i := 88) (j := 40) (k := 75) (m := 11) (by (repeat' apply And.intro) <;> decide +kernel) h3 fun P6 g4 => ⟨by decide +kernel, fun P8 e8 sh2 e2 => ?_⟩
  have h4 : LYn 99 11 P8 := by subst e8; exact g4.next rfl
  clear e8 g4
  subst e2
  rw [sh_1 (i := 111) rfl, sh_n (i := 111) (by decide)]
  refine in_X0 (i := 112) (j := 44) (k := 99) (m := 11) (by (repeat' apply And.intro) <;> decide +kernel) h4 fun P6 g5 => ⟨by decide +kernel, fun P8 e8 sh2 e2 => ?_⟩
  have h5 : LYn 123 11 P8 := by subst e8; exact g5.next rfl
  clear e8 g5
  subst e2
  rw [sh_1 (i := 135) rfl, sh_n (i := 135) (by decide)]
  refine in_X4 (i := 136) (k := 123) (m := 11) (by (repeat' apply And.intro) <;> decide +kernel) h5 fun P6 g6 => ⟨by decide +kernel, fun P8 e8 sh2 e2 => ?_⟩
  have h6 : LYn 126 11 P8 := by subst e8; exact g6.next rfl
  clear e8 g6
  subst e2
  rw [sh_1 (i := 138) rfl, sh_n (i := 138) (by decide)]
  refine in_X2 (i := 139) (j := 48) (k := 126) (m := 11) (by (repeat' apply And.intro) <;> decide +kernel) h6 fun P6 g7 => ⟨by decide +kernel, fun P8 e8 sh2 e2 => ?_⟩
  have h7 : LYn 128 11 P8 := by subst e8; exact g7.next rfl
  clear e8 g7
  subst e2
  rw [sh_1 (i := 140) rfl, sh_n (i := 140) (by decide)]
  refine in_X1 (i := 141) (j := 49) (k := 128) (m := 11) (by (repeat' apply And.intro) <;> decide +kernel) h7 fun P6 g8 => ⟨by decide +kernel, fun P8 e8 I65 e65 => ?_⟩
  have h8 : LYn 131 11 P8 := by subst e8; exact g8.next rfl
  clear e8 g8
  subst e65
  rw [aI_1 (j := 51) rfl]
  exact g _ h8
theorem in_X10 (h : LYn 131 11 P) (g : ∀ P', LYn 148 11 P' → K none SH0 (aI IT0) L P') : SqN (d + 1) 17 68714 mX10_init (SH0.take 144) [.ref 144] (aI (IT0.take 52)) L P K := by
  refine sp_X10_init ⟨by decide, fun sh2 e2 => ?_⟩
  subst e2
  rw [sh_1 (i := 144) rfl, sh_n (i := 144) (by decide)]
  refine ⟨by decide +kernel, fun P0 e8 sh2 e2 => ?_⟩
  have h0 : LYn 132 11 P0 := by subst e8; exact h.next rfl
  clear e8
  subst e2
  rw [sh_1 (i := 145) rfl, sh_n (i := 145) (by decide)]
  refine ⟨by decide +kernel, fun P1 e8 sh2 e2 => ?_⟩
  have h1 : LYn 133 11 P1 := by subst e8; exact h0.next rfl
  clear e8
  subst e2
  rw [sh_1 (i := 146) rfl, sh_n (i := 146) (by decide)]
  refine ⟨by decide +kernel, fun P2 e8 sh2 e2 => ?_⟩
  have h2 : LYn 134 11 P2 := by subst e8; exact h1.next rfl
  clear e8
  subst e2
  rw [sh_1 (i := 147) rfl, sh_n (i := 147) (by decide)]
  refine ⟨by decide +kernel, fun P3 e8 sh2 e2 => ?_⟩
  have h3 : LYn 135 11 P3 := by subst e8; exact h2.next rfl
  clear e8
  subst e2
  rw [sh_1 (i := 148) rfl, sh_n (i := 148) (by decide)]
  refine ⟨by decide +kernel, fun P4 e8 sh2 e2 => ?_⟩
  have h4 : LYn 136 11 P4 := by subst e8; exact h3.next rfl
  clear e8
  subst e2
  rw [sh_1 (i := 149) rfl, sh_n (i := 149) (by decide)]
  refine ⟨by decide +kernel, fun P5 e8 sh2 e2 => ?_⟩
  have h5 : LYn 137 11 P5 := by subst e8; exact h4.next rfl
  clear e8
  subst e2
  rw [sh_1 (i := 150) rfl, sh_n (i := 150) (by decide)]
  refine ⟨by decide +kernel, fun P6 e8 sh2 e2 => ?_⟩
  have h6 : LYn 138 11 P6 := by subst e8; exact h5.next rfl
  clear e8
  subst e2
  rw [sh_1 (i := 151) rfl, sh_n (i := 151) (by decide)]
  refine ⟨by decide +kernel, fun P7 e8 sh2 e2 => ?_⟩
  have h7 : LYn 139 11 P7 := by subst e8; exact h6.next rfl
  clear e8
  subst e2
  rw [sh_1 (i := 152) rfl, sh_n (i := 152) (by decide)]
  refine ⟨by decide +kernel, fun P8 e8 sh2 e2 => ?_⟩
  have h8 : LYn 140 11 P8 := by subst e8; exact h7.next rfl
  clear e8
  subst e2
  rw [sh_1 (i := 153) rfl, sh_n (i := 153) (by decide)]
  refine ⟨by decide +kernel, fun P9 e8 sh2 e2 => ?_⟩
  have h9 : LYn 141 11 P9 := by subst e8; exact h8.next rfl
  clear e8
  subst e2
  rw [sh_1 (i := 154) rfl, sh_n (i := 154) (by decide)]
  refine ⟨by decide +kernel, fun P10 e8 sh2 e2 => ?_⟩
  have h10 : LYn 142 11 P10 := by subst e8; exact h9.next rfl
  clear e8
  subst e2
  rw [sh_1 (i := 155) rfl, sh_n (i := 155) (by decide)]
  refine ⟨by decide +kernel, fun P11 e8 sh2 e2 => ?_⟩
  have h11 : LYn 143 11 P11 := by subst e8; exact h10.next rfl
  clear e8
  subst e2
  rw [sh_1 (i := 156) rfl, sh_n (i := 156) (by decide)]
  refine ⟨by decide +kernel, fun P12 e8 sh2 e2 => ?_⟩
  have h12 : LYn 144 11 P12 := by subst e8; exact h11.next rfl
  clear e8
  subst e2
  rw [sh_1 (i := 157) rfl, sh_n (i := 157) (by decide)]
  refine ⟨by decide +kernel, fun P13 e8 sh2 e2 => ?_⟩
  have h13 : LYn 145 11 P13 := by subst e8; exact h12.next rfl
  clear e8
  subst e2
  rw [sh_1 (i := 158) rfl, sh_n (i := 158) (by decide)]
  refine ⟨by decide +kernel, fun P14 e8 sh2 e2 => ?_⟩
  have h14 : LYn 146 11 P14 := by subst e8; exact h13.next rfl
  clear e8
  subst e2
  rw [sh_1 (i := 159) rfl, sh_n (i := 159) (by decide)]
  refine ⟨by decide +kernel, fun P15 e8 sh2 e2 => ?_⟩
  have h15 : LYn 147 11 P15 := by subst e8; exact h14.next rfl
  clear e8
  subst e2
  rw [sh_1 (i := 160) rfl, sh_n (i := 160) (by decide)]
  refine ⟨by decide +kernel, fun P16 e8 => ?_⟩
  have h16 : LYn 148 11 P16 := by subst e8; exact h15.next rfl
  clear e8
  have p : P16 144 0 = 145 := h16.get (i := 131) rfl (by decide)
  rw [p]
  refine ⟨by decide +kernel, vin 1 rfl (by decide +kernel) (by decide +kernel), fun I55 e55 => ?_⟩
  subst e55
  rw [show Int32.toNatClampNeg 1 = 1 from by decide, aI_1 (j := 52) rfl]
  exact g _ h16
end IN
/-- an object as it begins -/
noncomputable def s0 : Sit := fun x _ => if x = 5 then 1 else 0
noncomputable def W0 : Wd := (s0, (false, s0), (fun _ => s0, 0, 0), (fun _ => 0, 0))
theorem s0_5 : s0 5 0 = 1 := rfl
theorem s0_x {x y : Nat} (h : x ≠ 5) : s0 x y = 0 := if_neg h
theorem s0_WE : WE s0 := by
  refine ⟨by rw [s0_x (by decide)]; decide, by rw [s0_5]; decide, by rw [s0_x (by decide)]; decide, fun p hp => ?_, fun p q hp => ?_⟩ <;> (rw [s0_x (by decide)] at hp; omega)
theorem s0_OKS : OKS s0 := ⟨s0_WE, Or.inl (s0_x (by decide)), fun _ => s0_x (by decide), fun z => by rw [s0_x (by decide)] at z; cases z⟩
theorem s0_XS {P : qMP} {L : qML} {I : qMI} (hP : LAY P) {q : Nat} (hq : isSit q) (h : I (q + 1) 0 = 0 ∧ I (q + 1) 1 = 1 ∧ I (q + 1) 2 = 0 ∧ I (q + 3) 0 = 0 ∧ I (q + 3) 4 = 0) : XS I L P q s0 := by
  obtain ⟨k0, k1, k2, k3, k4, k5⟩ := sit_K hq
  obtain ⟨p0, p1, p2, p3, p4⟩ := sit_P hP hq
  obtain ⟨h1, h2, h3, h4, h5⟩ := h
  refine ⟨⟨by rw [k1], by rw [p2]; exact k2, by rw [s0_x (by decide), h1]; rfl, by rw [s0_5, h2]; rfl, by rw [s0_x (by decide), h3]; rfl, fun p w hp => ?_, s0_WE⟩, sit_DSh hP hq, by rw [s0_x (by decide), h4]; rfl, by rw [s0_x (by decide), h5]; rfl, Or.inl (s0_x (by decide)), fun _ => s0_x (by decide), fun z => ?_⟩
  · rw [s0_x (by decide)] at hp; omega
  · rw [s0_x (by decide)] at z; cases z
theorem aI_v {r k : Nat} (v : Int32) (h : aI IT0 r k = v) {I : qMI} (e : I = aI IT0) : I r k = v := by rw [e]; exact h
theorem in_XR {P : qMP} {L : qML} {I : qMI} (h : LYn 148 11 P) (e : I = aI IT0) : XR I L I L P W0 := by
  have hP := h.lay
  have hp15 : P 15 0 = 16 := h.2 0 (by decide)
  refine ⟨⟨hP, ⟨aI_v 0 (by decide +kernel) e, aI_v 0 (by decide +kernel) e, Nat.le_refl _, Nat.zero_le _, ⟨fun i => i, fun i hi => ⟨h.2 i hi, hi⟩, fun i j _ _ q => q⟩, fun i hi => ?_⟩, aI_v 0 (by decide +kernel) e, (fun z => by cases z), ⟨aI_v 0 (by decide +kernel) e, Nat.zero_le _, fun i hi => absurd hi (Nat.not_lt_zero _)⟩, Or.inl (aI_v 0 (by decide +kernel) e), fun r _ => ⟨rfl, rfl⟩, (fun z => by cases z), fun i _ => s0_OKS⟩, ?_, s0_OKS, rfl⟩
  · have hi0 : i = 0 := Nat.le_zero.mp hi
    rw [hi0, hp15]
    exact s0_XS hP (Or.inr (Or.inr ⟨0, by decide, rfl⟩)) ⟨aI_v 0 (by decide +kernel) e, aI_v 1 (by decide +kernel) e, aI_v 0 (by decide +kernel) e, aI_v 0 (by decide +kernel) e, aI_v 0 (by decide +kernel) e⟩
  · exact s0_XS hP (Or.inl rfl) ⟨aI_v 0 (by decide +kernel) e, aI_v 1 (by decide +kernel) e, aI_v 0 (by decide +kernel) e, aI_v 0 (by decide +kernel) e, aI_v 0 (by decide +kernel) e⟩
theorem in_MR {L : qML} {I : qMI} (e : I = aI IT0) : MR I L W0 := by
  refine ⟨⟨⟨?_, ?_, ?_, ?_, fun p w hp => ?_⟩, ?_, ?_, fun z => ?_⟩, ⟨aI_v 0 (by decide +kernel) e, aI_v 0 (by decide +kernel) e, fun i hi => absurd hi (Nat.not_lt_zero _), fun i hi => absurd hi (Nat.not_lt_zero _)⟩, ⟨aI_v 0 (by decide +kernel) e, fun z => by cases z⟩, ⟨aI_v 0 (by decide +kernel) e, fun i hi => absurd hi (Nat.not_lt_zero _)⟩, Or.inl (aI_v 0 (by decide +kernel) e)⟩
  · show s0 0 0 ≤ 10
    rw [s0_x (by decide)]; decide
  · show I 145 0 = nI (s0 0 0)
    rw [s0_x (by decide)]; exact aI_v 0 (by decide +kernel) e
  · show I 145 1 = nI (s0 5 0)
    rw [s0_5]; exact aI_v 1 (by decide +kernel) e
  · show I 145 2 = nI (s0 6 0)
    rw [s0_x (by decide)]; exact aI_v 0 (by decide +kernel) e
  · have hp : p < s0 0 0 := hp
    rw [s0_x (by decide)] at hp; omega
  · show I 145 3 = nI (s0 7 0)
    rw [s0_x (by decide)]; exact aI_v 0 (by decide +kernel) e
  · show I 145 4 = nI (s0 9 0)
    rw [s0_x (by decide)]; exact aI_v 0 (by decide +kernel) e
  · have z : s0 7 0 = 1 := z
    rw [s0_x (by decide)] at z; cases z
/-! ===== both objects, side by side ===== -/
theorem XR.side {J : qMI} {M : qML} {I I' : qMI} {L L' : qML} {P : qMP} {W : Wd} (h : XR J M I L P W) (q : FR I I' L L') : XR I' L' I' L' P W := by
  obtain ⟨⟨hP, ⟨k1, k2, k3, k4, ⟨w, hw⟩, kS⟩, h3, h4, h5, h6, h7, h8⟩, hN, hO, hE⟩ := h
  have e14 := (q 14 (by omega)).1
  refine ⟨⟨hP, ⟨by rw [e14]; exact k1, by rw [e14]; exact k2, k3, k4, ⟨w, hw⟩, fun i hi => ?_⟩, by rw [(q 1 (by omega)).1]; exact h3, fun z => ?_, h5.congr (q 86 (by omega)).1 (q 87 (by omega)).1, h6.congr hP hP fun r hr => q r (by omega), fun r hr => ⟨rfl, rfl⟩, h8⟩, ?_, hO, hE⟩
  · have fr := hw.far (i := i) (by omega)
    exact (kS i hi).congr hP hP (hw.sit (by omega)) (fun r q1 q2 => (q r (by omega)).1) (q _ (by omega)).2
  · exact (h4 z).congr hP hP (Or.inr (Or.inl rfl)) (fun r q1 q2 => (q r (by omega)).1) (q _ (by omega)).2
  · exact hN.congr hP hP (Or.inl rfl) (fun r q1 q2 => (q r (by omega)).1) (q _ (by omega)).2
theorem MR.side {I I' : qMI} {L L' : qML} {W : Wd} (h : MR I L W) (q : ∀ r, 144 ≤ r → I' r = I r ∧ L' r = L r) : MR I' L' W := by
  obtain ⟨a, b, c, e, f⟩ := h
  refine ⟨by rw [(q 145 (by omega)).1]; exact a, b.congr ?_ ?_ (q 147 (by omega)).1 (q 148 (by omega)).1, c.congr ?_ (q 146 (by omega)).1, e.congr ?_ (q 149 (by omega)).1, f.congr ?_ (q 154 (by omega)).2⟩ <;> rw [(q 144 (by omega)).1]
theorem XR.far {J : qMI} {M : qML} {I : qMI} {L : qML} {P : qMP} {W : Wd} (h : XR J M I L P W) : ∀ r, 144 ≤ r → I r = J r ∧ L r = M r := h.1.2.2.2.2.2.2.1
/-- the two objects tell of one world -/
def BW (I : qMI) (L : qML) (P : qMP) (W : Wd) : Prop := XR I L I L P W ∧ MR I L W
