section SP
variable {d : Nat} {J : qMI} {M : qML} {I : qMI} {L : qML} {P : qMP} {W : Wd}
/-- lawful blocks, all of them -/
def lawS (s : Sit) (g : Nat → Nat) : Prop := ∀ r b, r ≤ lastS (s 0 0) → b < TB (s 0 0) r → okB s r b (setR g r b)
noncomputable def swapV (s : Sit) (x y : Int32) : Int64 := if isP (s 0 0) x ∧ isP (s 0 0) y ∧ x ≠ y then (if s 7 0 = 1 then (if bo (lawS s (swF s x.toNatClampNeg y.toNatClampNeg)) = true then lN (rkS (mS s) (swF s x.toNatClampNeg y.toNatClampNeg) (lastS (s 0 0)) 0) else -2) else -5) else -1
theorem WD_mix {u s : Sit} (e : u 0 0 = s 0 0) (h : WD s) : WD (mixS u s) := by
  have e0 : mixS u s 0 0 = s 0 0 := (mix_lo u s 0 0 (by decide)).trans e
  have e9 : mixS u s 9 0 = s 9 0 := mix_hi u s 9 0 (by decide)
  have e11 : mixS u s 11 = s 11 := funext fun y => mix_hi u s 11 y (by decide)
  have e20 : mixS u s 20 = s 20 := funext fun y => mix_hi u s 20 y (by decide)
  have er : ∀ r, mixS u s (20 + r) = s (20 + r) := fun r => funext fun y => mix_hi u s _ y (by omega)
  unfold WD at h ⊢
  rw [e0, e9, e11, e20]
  simp only [er]
  exact h
theorem mix_mS {u s : Sit} (h : SameD u s) : mS (mixS u s) = mS s := by
  rw [← mS_same h]
  exact mS_cg fun x y hx => mix_lo u s x y (by omega)
theorem mix_sw {u s : Sit} (e : u 0 0 = s 0 0) (p o : Nat) : swF (mixS u s) p o = swF s p o := funext fun t => by
  unfold swF
  rw [mix_lo u s 0 0 (by decide), e, mix_hi u s 20 t (by decide)]
end SP
