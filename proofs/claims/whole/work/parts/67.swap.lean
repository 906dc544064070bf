section SP
variable {d : Nat} {J : qMI} {M : qML} {I : qMI} {L : qML} {P : qMP} {W : Wd}
/-- lawful blocks, all of them -/
def lawS (s : Sit) (g : Nat → Nat) : Prop := ∀ r b, r ≤ lastS (s 0 0) → b < TB (s 0 0) r → okB s r b (setR g r b)
noncomputable def swapV (s : Sit) (x y : Int32) : Int64 := if isP (s 0 0) x ∧ isP (s 0 0) y ∧ x ≠ y then (if s 7 0 = 1 then (if bo (lawS s (swF s x.toNatClampNeg y.toNatClampNeg)) = true then lN (rkS (mS s) (swF s x.toNatClampNeg y.toNatClampNeg) (lastS (s 0 0)) 0) else -2) else -5) else -1
theorem WD_mix {u s : Sit} (e : u 0 0 = s 0 0) (h : WD s) : WD (mixS u s) := by
  have e0 : mixS u s 0 0 = s 0 0 := (mix_lo u s 0 0 (by decide)).trans e
  have e9 : mixS u s 9 0 = s 9 0 := mix_hi u s 9 0 (by decide)
  have e11 : mixS u s 11 = s 11 := funext fun y => mix_hi u s 11 y (by decide)
  have e20 : mixS u s 20 = s 20 := funext fun y => mix_hi u s 20 y (by decide)
  have er : ∀ r, mixS u s (20 + r) = s (20 + r) := fun r => funext fun y => mix_hi u s _ y (by omega)
  unfold WD at h ⊢
  rw [e0, e9, e11, e20]
  simp only [er]
  exact h
theorem mix_mS {u s : Sit} (h : SameD u s) : mS (mixS u s) = mS s := by
  rw [← mS_same h]
  exact mS_cg fun x y hx => mix_lo u s x y (by omega)
theorem mix_sw {u s : Sit} (e : u 0 0 = s 0 0) (p o : Nat) : swF (mixS u s) p o = swF s p o := funext fun t => by
  unfold swF
  rw [mix_lo u s 0 0 (by decide), e, mix_hi u s 20 t (by decide)]
theorem law_mix {u s : Sit} (h : SameD u s) (g : Nat → Nat) : lawS (mixS u s) g ↔ lawS s g := by
  have em := mix_mS h
  have e0 : mixS u s 0 0 = s 0 0 := (mix_lo u s 0 0 (by decide)).trans h.1
  have eo : ∀ r b set, okB (mixS u s) r b set ↔ okB s r b set := fun r b set => by
    have q : mS (mixS u s) r b set = mS s r b set := by rw [em]
    constructor
    · intro z
      have : mS s r b set = true := by rw [← q]; exact bo_iff.mpr ⟨z, trivial⟩
      exact (bo_iff.mp this).1
    · intro z
      have : mS (mixS u s) r b set = true := by rw [q]; exact bo_iff.mpr ⟨z, trivial⟩
      exact (bo_iff.mp this).1
  unfold lawS
  rw [e0]
  simp only [eo]
theorem rk_small {s : Sit} {g : Nat → Nat} (hn : s 0 0 ≤ 10) (hg : FO (s 0 0) g) (hO : lawS s g) : ∀ r b, r ≤ lastS (s 0 0) → b < TB (s 0 0) r → rkS (mS s) g r b < gc (mS s) r b (setR g r b)
  | 0, b, h1, h2 => Nat.pos_of_ne_zero (all_pos hn hg hO 0 b h1 h2)
  | r + 1, b, h1, h2 => by
    have tb := TB_half hn h1
    have i1 := rk_small hn hg hO r (2 * b) (by omega) (by omega)
    have i2 := rk_small hn hg hO r (2 * b + 1) (by omega) (by omega)
    obtain ⟨k1, k2⟩ := setR_sub (r := r) (b := b) hg hn
    have hA : mS s (r + 1) b (setR g (r + 1) b) = true := bo_iff.mpr ⟨hO (r + 1) b h1 h2, trivial⟩
    have hm : setR g r (2 * b) ∈ subs (setR g (r + 1) b) := subs_mem.mpr ⟨p10 hn (setR_lt hg r _), k1⟩
    have e := pre_next (FA (mS s) r b (setR g (r + 1) b)) hm
    have e2 := pre_mono (set := setR g (r + 1) b) (FA (mS s) r b (setR g (r + 1) b)) (show setR g r (2 * b) + 1 ≤ 1024 from p10 hn (setR_lt hg r _))
    rw [pre_all, ← gc_FA hA] at e2
    have e3 : FA (mS s) r b (setR g (r + 1) b) (setR g r (2 * b)) = gc (mS s) r (2 * b) (setR g r (2 * b)) * gc (mS s) r (2 * b + 1) (setR g r (2 * b + 1)) := by unfold FA; rw [k2]
    show pre (setR g (r + 1) b) (FA (mS s) r b (setR g (r + 1) b)) (setR g r (2 * b)) + (rkS (mS s) g r (2 * b) * gc (mS s) r (2 * b + 1) (setR g r (2 * b + 1)) + rkS (mS s) g r (2 * b + 1)) < _
    have e4 := Nat.mul_le_mul_right (gc (mS s) r (2 * b + 1) (setR g r (2 * b + 1))) (show rkS (mS s) g r (2 * b) + 1 ≤ gc (mS s) r (2 * b) (setR g r (2 * b)) from i1)
    rw [Nat.succ_mul] at e4
    omega
theorem ok9_swapped {x y : Int32} {f : Int64 → qMI → qML → qMP → Prop} (h : XR J M I L P W) (k : ∀ I' L', XR J M I' L' P W → f (swapV W.1 x y) I' L' P) : Sq (d + 9) mX9_swapped SH0 [.ref 1, .int x, .int y] I L P (KL f) := by
  have hP := h.1.1
  obtain ⟨p1, p2, p3, p4, p5, p6, p7, p8, p9, -⟩ := now_P hP
  have hE := h.2.1.1
  have hn := h.2.2.1.1.1
  unfold swapV at k
  refine sp_X9_swapped ⟨by decide, by rw [p1]; decide, ?_⟩
  rw [p1, p2]
  refine ⟨by decide, ok_hasBoth hE ⟨fun c => ⟨by rw [p1]; decide, ?_⟩, fun c => ?_⟩⟩
  · have c := b01_n0.mp c
    rw [if_pos c] at k
    rw [p1, p3]
    refine ⟨by decide, ?_⟩
    rcases now_d h.2.1 h.2.2.1 with ⟨d1, d2⟩ | ⟨d1, d2, v, w⟩
    · rw [if_neg (by rw [d2]; decide)] at k
      exact ⟨fun q => absurd d1 q, fun _ => k I L h⟩
    · rw [if_pos d2] at k
      have hn2 := w.2.1
      obtain ⟨p, hp, rfl, hcp⟩ := cl_isP c.1 (by omega)
      obtain ⟨o, ho, rfl, hco⟩ := cl_isP c.2.1 (by omega)
      have hne : p ≠ o := fun q => c.2.2 (by rw [q])
      rw [hcp, hco] at k
      refine ⟨fun _ => ok9_all h hn2 fun I13 L13 hR hU => ⟨by rw [p1]; decide, by rw [p9]; decide, ?_⟩, fun q => absurd q d1⟩
      obtain ⟨u, u1, u2, u3, u4, u5⟩ := hU
      have em0 : mixS u W.1 0 0 = W.1 0 0 := (mix_lo u W.1 0 0 (by decide)).trans u1.1
      have v13 : DV I13 L13 P 5 W.1 := hR.2.1.2.2.2.2.2.2 d2
      have wM := WD_mix u1.1 w
      have hFO := swF_FO wM (show p < mixS u W.1 0 0 by rw [em0]; exact hp) (show o < mixS u W.1 0 0 by rw [em0]; exact ho) hne
      have hall := sw_all wM (show p < mixS u W.1 0 0 by rw [em0]; exact hp) (show o < mixS u W.1 0 0 by rw [em0]; exact ho) hne
      have hiff := AllJ_iff (s := mixS u W.1) (by rw [em0]; exact hn) (by rw [em0]; exact hn2) hFO hall
      have keep : ∀ I9 L9, (∀ q, q ≠ 137 → I9 q = I13 q) → (∀ q, q ≠ 138 → L9 q = L13 q) → XR J M I9 L9 P W := fun I9 L9 q1 q2 => hR.keep fun r hr => ⟨q1 r (by omega), q2 r (by omega)⟩
      have hlaw : bo (lawS W.1 (swF W.1 p o)) = true ↔ AllJ (xS (mixS u W.1)) (mixS u W.1 0 0) (swF (mixS u W.1) p o) := by
        rw [bo_iff, hiff, ← law_mix u1, mix_sw u1.1]
        exact Iff.rfl
      rw [p9, p7, p1, p3]
      refine ok_swapNo (s := mixS u W.1) hP (CR_cg u3 fun x y hx => mix_lo u W.1 x y hx) hR.2.1.2.1 (DV_mix u1.1 v13) (by rw [em0]; exact hp) (by rw [em0]; exact ho) hne (fun q I9 L9 f9 g9 => ⟨fun z => absurd rfl z, fun _ => ?_⟩) (fun q I9 L9 f9 g9 => ?_)
      · have kk := k I9 L9 (keep I9 L9 f9 g9)
        rw [if_neg (fun z => q (hlaw.mp z))] at kk
        exact kk
      · have kk := k I9 L9 (keep I9 L9 f9 g9)
        have hl := hlaw.mpr q
        rw [if_pos hl] at kk
        have hO := hiff.mp q
        have tl := TB_last _ (show mixS u W.1 0 0 ≤ 10 by rw [em0]; exact hn)
        have e1 := rk_same (s := mixS u W.1) (by rw [em0]; exact hn) (by rw [em0]; exact hn2) hFO hall hO (lastS (mixS u W.1 0 0)) 0 (Nat.le_refl _) (by rw [tl]; decide)
        have e2 := rk_small (s := mixS u W.1) (by rw [em0]; exact hn) hFO hO (lastS (mixS u W.1 0 0)) 0 (Nat.le_refl _) (by rw [tl]; decide)
        rw [hall] at e2
        have e3 : gc (mS (mixS u W.1)) (lastS (mixS u W.1 0 0)) 0 (2 ^ mixS u W.1 0 0 - 1) ≤ 1099511627776 := gcs (show mixS u W.1 0 0 ≤ 10 by rw [em0]; exact hn) (Nat.le_refl _) (all_lt _)
        rw [e1]
        rw [mix_mS u1, mix_sw u1.1, em0] at e2 ⊢
        rw [mix_mS u1, em0] at e3
        refine ⟨fun _ => kk, fun z => ?_⟩
        exfalso
        have t1 := congrArg Int64.toInt z
        rw [pk_lT (by omega)] at t1
        have : (-1 : Int64).toInt = -1 := by decide
        omega
  · rw [if_neg (b01_0.mp c)] at k
    exact k I L h
end SP
