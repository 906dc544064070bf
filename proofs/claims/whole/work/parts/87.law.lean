/-! THE CLAIM OUT OF ONE WALK OF THE LAW'S BODY. Your part is whole_start (and what it stands on); all else here is the same for every law, but numbers. -/
def R_law : String := "BracketDrawsLaw"
def lw_P (b : Addr) (xs : List Int32) (args : Array Value) (s : State) : Prop := args = #[.ref b] ∧ s.IntsAt b xs ∧ xs.length ≤ 2560 ∧ (Jvm.Cond.and given_1 narrow_1).before args s = true
def lw_Q (_ : Array Value) (s : State) (o : Outcome) (t : State) : Prop := o = .returned (some (.int 1)) ∧ Framed s o t [] 600000 7302250
def lw_Z (below : List Frame) (a : Array Value) (s : State) : State → Prop := fun t => ∃ o, t.status = .running ∧ Ended t below o ∧ lw_Q a s o t
/-- the law's own end, with 1 on the stack, nothing written that was there before, its room as the claim has it -/
theorem lw_ret {p : Program} {l : Launch} {e : Env} {s : State} {m : MethodId} {below : List Frame} {meth : Method} {c : Code} {b : Nat} (hx : p.tables.exec = Jvm.exec) (hb : c.code = code) (hr : meth.sig.returnType = ret) (hlocks : meth.locks = false) {pc : Nat} {H : Heap} {ls : Array Slot} (hdg : decode code pc = .ok (.ireturn, 1)) : W p l e room_1 s m #[Value.ref b] below meth c H [] 600000 7302250 (lw_Z below #[Value.ref b] s) (F0 m pc ls [.int 1]) := by
  intro T hT X
  obtain ⟨fs, hret, hrun, hended, hW, hframe⟩ := X.leave (v := some (.int 1)) (hlocks := hlocks) (fun h => by rw [hr] at h; cases h)
  have hmeth' : T.vm.method? m = some meth := X.method'
  refine ⟨T.setFrames fs, ?_, .returned (some (.int 1)), hrun, hended, rfl, ⟨_, rfl⟩, hW, hframe⟩
  jvm_step X.here [X.here.top, hx, hb, hdg, hmeth', hr, ret, narrow_b1]
  (try refine ⟨rfl, ?_⟩); (try refine ⟨rfl, ?_⟩)
  first | (intro acts; rw [hret _ acts rfl rfl rfl]) | rw [hret _ _ rfl rfl rfl]
  exact Steps.refl _
/-- what holds at the law's entry: the machine, the code, the tables' words (any of lw_tbl by 'hts w (by decide +kernel)'), the script of L ints xs at the cell b, what the Statement gives of the start (any of its parts by flat_of_before) -/
def lw_At (p : Program) (s : State) (m : MethodId) (meth : Method) (c : Code) (b L : Nat) (xs : Nat → Int32) : Prop :=
  p.tables.exec = Jvm.exec ∧ c.code = code ∧ meth.sig.returnType = ret ∧ c.maxLocals = 4 ∧ s.vm.findClass R_law = some m.cls ∧ (∀ w ∈ lw_tbl, w.before #[Value.ref b] s = true) ∧ va_X b L xs s s.heap ∧ b < s.heap.size ∧ meth.locks = false ∧ (Jvm.Cond.and given_1 narrow_1).before #[Value.ref b] s = true

/-! ===== the law's own steps ===== -/
abbrev loL (b i : Nat) : List (Option Value) := [some (.retAddr b), some (.ref 1), some (.ref 144), some (.int (nI i))]
/-- the script lies at b, and is left alone -/
def qSc (X : qCT) (b N : Nat) (xs : Nat → Int32) : Prop := match X with
  | (_, _, _, _, s, _, _, _, _, _, _, _, _, A, H0, _, _) => va_X b N xs s H0 ∧ b < H0.size ∧ ¬ A b
section QL
variable {X : qCT} {own : String} {cc : ByteArray} {n d mc ms pc cells slots b N : Nat} {xs : Nat → Int32} {lo : List (Option Value)} {st : List Value} {sh : List qSh} {I : qMI} {L : qML} {P : qMP}
theorem q_aloadS (C : qCB X own cc n d mc ms) {k : Fin 4} (hd : decode cc pc = .ok (.aload_n k, 1)) (hl : lo[(k : Nat)]? = some (some (.retAddr b))) (kk : qG X (pc + 1) lo (.retAddr b :: st) sh I L P cells slots) : qG X pc lo st sh I L P cells slots := by
  obtain ⟨p, l, e, R, s, m, args, below, meth, c, nL, D, cA, A, H0, Q, ad0⟩ := X
  obtain ⟨hx, hb, ⟨hml, hnl⟩, hown, hts, hK, hA, hlk, hE, hR⟩ := C
  intro ad H locs ls h1 h2 h3 h4 h5 h6 h7 h8
  obtain ⟨g1, g2⟩ := h5.2.2 _ _ hl
  exact lv_aload_n hx hb hd rfl (show ls[(k : Nat)]? = some (.val (.ref b)) from g2) (kk ad H locs ls h1 h2 h3 ⟨trivial, h4⟩ h5 h6 h7 h8)
theorem q_sld (C : qCB X own cc n d mc ms) (S : qSc X b N xs) {i : Int32} (hi : vp_in i N) (hd : decode cc pc = .ok (.iaload, 1)) (k : qG X (pc + 1) lo (.int (xs i.toNatClampNeg) :: st) sh I L P cells slots) : qG X pc lo (.int i :: .retAddr b :: st) sh I L P cells slots := by
  obtain ⟨p, l, e, R, s, m, args, below, meth, c, nL, D, cA, A, H0, Q, ad0⟩ := X
  obtain ⟨hx, hb, ⟨hml, hnl⟩, hown, hts, hK, hA, hlk, hE, hR⟩ := C
  obtain ⟨s1, s2, s3⟩ := S
  intro ad H locs ls h1 h2 h3 h4 h5 h6 h7 h8
  exact va_sld hx hb s1 s2 s3 h8 hi hd (k ad H locs ls h1 h2 h3 ⟨trivial, h4.2.2⟩ h5 h6 h7 h8)
theorem q_slen (C : qCB X own cc n d mc ms) (S : qSc X b N xs) (hd : decode cc pc = .ok (.arraylength, 1)) (k : qG X (pc + 1) lo (.int (nI N) :: st) sh I L P cells slots) : qG X pc lo (.retAddr b :: st) sh I L P cells slots := by
  obtain ⟨p, l, e, R, s, m, args, below, meth, c, nL, D, cA, A, H0, Q, ad0⟩ := X
  obtain ⟨hx, hb, ⟨hml, hnl⟩, hown, hts, hK, hA, hlk, hE, hR⟩ := C
  obtain ⟨s1, s2, s3⟩ := S
  intro ad H locs ls h1 h2 h3 h4 h5 h6 h7 h8
  exact va_slen hx hb s1 s2 s3 h8 hd (k ad H locs ls h1 h2 h3 ⟨trivial, h4.2⟩ h5 h6 h7 h8)
/-- script[i + k] -/
theorem q_rd (C : qCB X own cc n d mc ms) (S : qSc X b N xs) (hN : N ≤ 2560) {i k : Nat} {z : Int} (hi : i + k < N) (d0 : decode cc pc = .ok (.aload_n 0, 1)) (d1 : decode cc (pc + 1) = .ok (.iload_n 3, 1)) (d2 : decode cc (pc + 2) = .ok (.iconst z, 1)) (d3 : decode cc (pc + 3) = .ok (.iadd, 1)) (d4 : decode cc (pc + 4) = .ok (.iaload, 1)) (hz : Int32.ofInt z = nI k) (kk : qG X (pc + 5) (loL b i) (.int (xs (i + k)) :: st) sh I L P cells slots) : qG X pc (loL b i) st sh I L P cells slots := by
  refine q_aloadS C (k := 0) d0 rfl ?_
  refine q_iload_n C (k := 3) d1 rfl ?_
  refine q_iconst (v := nI k) C d2 hz ?_
  refine q_iadd C d3 ?_
  rw [nI_add]
  refine q_sld C S (vin (i + k) rfl hi (by omega)) d4 ?_
  rw [clN (by omega)]
  exact kk
end QL
theorem FR.refl (I : qMI) (L : qML) : FR I I L L := fun _ _ => ⟨rfl, rfl⟩
/-- what the class's call gives, and the reference's behind it -/
abbrev f9I (I : qMI) (L : qML) (v : Int32) (W : Wd) : Int32 → qMI → qML → qMP → Prop := fun x I' L' P' => x = v ∧ XR I L I' L' P' W
abbrev f9L (I : qMI) (L : qML) (v : Int64) (W : Wd) : Int64 → qMI → qML → qMP → Prop := fun x I' L' P' => x = v ∧ XR I L I' L' P' W
abbrev f10I (I : qMI) (L : qML) (P : qMP) (v : Int32) (W : Wd) : Int32 → qMI → qML → qMP → Prop := fun x I' L' P' => x = v ∧ P' = P ∧ FR I I' L L' ∧ MR I' L' W
abbrev f10L (I : qMI) (L : qML) (P : qMP) (v : Int64) (W : Wd) : Int64 → qMI → qML → qMP → Prop := fun x I' L' P' => x = v ∧ P' = P ∧ FR I I' L L' ∧ MR I' L' W
theorem and31 (x : Int32) : ∃ z, z < 32 ∧ x &&& 31 = nI z := by
  refine ⟨(x &&& 31).toBitVec.toNat, ?_, ?_⟩
  · rw [Int32.toBitVec_and, BitVec.toNat_and]
    exact Nat.lt_of_le_of_lt Nat.and_le_right (by decide)
  · apply Int32.toBitVec.inj
    apply BitVec.eq_of_toNat_eq
    generalize hy : (x &&& 31).toBitVec = y
    show y.toNat = y.toNat % 2 ^ 32
    exact (Nat.mod_eq_of_lt y.isLt).symm
