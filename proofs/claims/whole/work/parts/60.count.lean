/-! ===== count ===== -/
theorem countV_0 (W : Wd) : countV W 0 = nI (W.1 0 0) := by
  unfold countV
  rw [if_pos rfl]
theorem countV_1 (W : Wd) : countV W 1 = (if 2 ≤ W.1 0 0 then nI (slotsS (W.1 0 0)) else 0) := by
  unfold countV
  rw [if_neg (by decide), if_pos rfl]
theorem countV_2 (W : Wd) : countV W 2 = (if 2 ≤ W.1 0 0 then nI (slotsS (W.1 0 0) - W.1 0 0) else 0) := by
  unfold countV
  rw [if_neg (by decide), if_neg (by decide), if_pos rfl]
theorem countV_3 (W : Wd) : countV W 3 = (if 2 ≤ W.1 0 0 then nI (lastS (W.1 0 0)) else 0) := by
  unfold countV
  rw [if_neg (by decide), if_neg (by decide), if_neg (by decide), if_pos rfl]
theorem countV_4 (W : Wd) : countV W 4 = nI (W.1 9 0) := by
  unfold countV
  rw [if_neg (by decide), if_neg (by decide), if_neg (by decide), if_neg (by decide), if_pos rfl]
theorem countV_5 (W : Wd) : countV W 5 = nI (W.1 5 0) := by
  unfold countV
  rw [if_neg (by decide), if_neg (by decide), if_neg (by decide), if_neg (by decide), if_neg (by decide), if_pos rfl]
theorem countV_6 (W : Wd) : countV W 6 = nI (W.1 6 0) := by
  unfold countV
  rw [if_neg (by decide), if_neg (by decide), if_neg (by decide), if_neg (by decide), if_neg (by decide), if_neg (by decide), if_pos rfl]
theorem countV_7 (W : Wd) : countV W 7 = nI W.2.2.2.2 := by
  unfold countV
  rw [if_neg (by decide), if_neg (by decide), if_neg (by decide), if_neg (by decide), if_neg (by decide), if_neg (by decide), if_neg (by decide), if_pos rfl]
theorem countV_8 (W : Wd) : countV W 8 = nI W.2.2.1.2.1 := by
  unfold countV
  rw [if_neg (by decide), if_neg (by decide), if_neg (by decide), if_neg (by decide), if_neg (by decide), if_neg (by decide), if_neg (by decide), if_neg (by decide), if_pos rfl]
theorem countV_9 (W : Wd) : countV W 9 = nI (W.2.2.1.2.2 - W.2.2.1.2.1) := by
  unfold countV
  rw [if_neg (by decide), if_neg (by decide), if_neg (by decide), if_neg (by decide), if_neg (by decide), if_neg (by decide), if_neg (by decide), if_neg (by decide), if_neg (by decide), if_pos rfl]
theorem countV_x (W : Wd) {x : Int32} (h0 : ¬ x = 0) (h1 : ¬ x = 1) (h2 : ¬ x = 2) (h3 : ¬ x = 3) (h4 : ¬ x = 4) (h5 : ¬ x = 5) (h6 : ¬ x = 6) (h7 : ¬ x = 7) (h8 : ¬ x = 8) (h9 : ¬ x = 9) : countV W x = -1 := by
  unfold countV
  rw [if_neg h0, if_neg h1, if_neg h2, if_neg h3, if_neg h4, if_neg h5, if_neg h6, if_neg h7, if_neg h8, if_neg h9]
section CO
variable {d : Nat} {J : qMI} {M : qML} {I : qMI} {L : qML} {P : qMP} {W : Wd}
theorem ok9_count {x : Int32} {f : Int32 → qMI → qML → qMP → Prop} (h : XR J M I L P W) (k : f (countV W x) I L P) : Sq (d + 3) mX9_count SH0 [.ref 1, .int x] I L P (KI f) := by
  obtain ⟨hQ, hN, hO, hA⟩ := id h
  have hP := hQ.1
  obtain ⟨p1, p2, p3, p4, p5, p6, -⟩ := now_P hP
  have hE := hN.1
  have hn := hO.1.1
  have hK := hQ.2.1
  have a1 := hK.2.2.1
  have a2 := hK.2.2.2.1
  have v0 : I 3 0 = nI (W.1 0 0) := hE.2.2.1
  have v1 : I 3 1 = nI (W.1 5 0) := hE.2.2.2.1
  have v2 : I 3 2 = nI (W.1 6 0) := hE.2.2.2.2.1
  have v4 : I 5 4 = nI (W.1 9 0) := hN.2.2.2.1
  have v7 : I 86 1 = nI W.2.2.2.2 := hQ.2.2.2.2.1.1
  have v8 : I 14 1 = nI W.2.2.1.2.1 := hK.1
  have v9 : I 14 2 = nI W.2.2.1.2.2 := hK.2.1
  have v99 : I 14 2 - I 14 1 = nI (W.2.2.1.2.2 - W.2.2.1.2.1) := by rw [v8, v9, pk_sub a1]
  have kk : ∀ v, v = countV W x → KI f (some (.int v)) I L P := fun v e => kI k e.symm
  refine sp_X9_count ⟨by decide, by rw [p1]; decide, ?_⟩
  rw [p1, p2, p3, p4, p5, p6]
  have e2 : I 3 0 < 2 ↔ W.1 0 0 < 2 := by rw [v0]; exact nI_ltI (b := 2) (by omega) (by decide)
  refine ⟨by decide, fun c => ?_, fun c => ?_⟩
  · have c := e2.mp c
    refine ⟨fun q => kk _ ?_, fun q => kk _ ?_, fun q => kk _ ?_, fun q => kk _ ?_, fun q => ⟨by decide, kk _ ?_⟩, fun q => kk _ ?_, fun q => kk _ ?_, fun q => ⟨by decide, by decide, kk _ ?_⟩, fun q => ⟨by decide, kk _ ?_⟩, fun q => ⟨by decide, kk _ ?_⟩, fun h0 h1 h2 h3 h4 h5 h6 h7 h8 h9 => kk _ (countV_x W h0 h1 h2 h3 h4 h5 h6 h7 h8 h9).symm⟩
    · rw [q, countV_0]; exact v0
    · rw [q, countV_1, if_neg (by omega)]
    · rw [q, countV_2, if_neg (by omega)]
    · rw [q, countV_3, if_neg (by omega)]
    · rw [q, countV_4]; exact v4
    · rw [q, countV_5]; exact v1
    · rw [q, countV_6]; exact v2
    · rw [q, countV_7]; exact v7
    · rw [q, countV_8]; exact v8
    · rw [q, countV_9]; exact v99
  · have c : ¬ W.1 0 0 < 2 := fun z => c (e2.mpr z)
    refine ⟨fun q => kk _ ?_, fun q => ok_slots hE.1 v0 hn (kk _ ?_), fun q => ok_byes hE (kk _ ?_), fun q => ok_rounds hE.1 v0 hn (kk _ ?_), fun q => ⟨by decide, kk _ ?_⟩, fun q => kk _ ?_, fun q => kk _ ?_, fun q => ⟨by decide, by decide, kk _ ?_⟩, fun q => ⟨by decide, kk _ ?_⟩, fun q => ⟨by decide, kk _ ?_⟩, fun h0 h1 h2 h3 h4 h5 h6 h7 h8 h9 => kk _ (countV_x W h0 h1 h2 h3 h4 h5 h6 h7 h8 h9).symm⟩
    · rw [q, countV_0]; exact v0
    · rw [q, countV_1, if_pos (by omega)]
    · rw [q, countV_2, if_pos (by omega)]
    · rw [q, countV_3, if_pos (by omega)]
    · rw [q, countV_4]; exact v4
    · rw [q, countV_5]; exact v1
    · rw [q, countV_6]; exact v2
    · rw [q, countV_7]; exact v7
    · rw [q, countV_8]; exact v8
    · rw [q, countV_9]; exact v99
end CO
