/-! ===== numbers ===== -/
theorem ti_bm (z : Int) : z.bmod (2 ^ 32) = (z + 2147483648) % 4294967296 - 2147483648 := by
  unfold Int.bmod
  simp only [show ((2 ^ 32 : Nat) : Int) = 4294967296 from rfl]
  split <;> omega
theorem ti_nI (n : Nat) : (nI n).toInt = ((n : Int) + 2147483648) % 4294967296 - 2147483648 := by
  show (BitVec.ofNat 32 n).toInt = _
  rw [BitVec.toInt_ofNat', ti_bm]
theorem ti_add (x y : Int32) : (x + y).toInt = (x.toInt + y.toInt + 2147483648) % 4294967296 - 2147483648 := by rw [Int32.toInt_add, ti_bm]
theorem ti_sub (x y : Int32) : (x - y).toInt = (x.toInt - y.toInt + 2147483648) % 4294967296 - 2147483648 := by rw [Int32.toInt_sub, ti_bm]
theorem ti_mul (x y : Int32) : (x * y).toInt = (x.toInt * y.toInt + 2147483648) % 4294967296 - 2147483648 := by rw [Int32.toInt_mul, ti_bm]
theorem ti_neg (x : Int32) : (-x).toInt = (-x.toInt + 2147483648) % 4294967296 - 2147483648 := by rw [Int32.toInt_neg, ti_bm]
theorem ti_0 : (0 : Int32).toInt = 0 := by decide
theorem ti_1 : (1 : Int32).toInt = 1 := by decide
theorem ti_2 : (2 : Int32).toInt = 2 := by decide
theorem ti_3 : (3 : Int32).toInt = 3 := by decide
theorem ti_4 : (4 : Int32).toInt = 4 := by decide
theorem ti_5 : (5 : Int32).toInt = 5 := by decide
theorem ti_6 : (6 : Int32).toInt = 6 := by decide
theorem ti_7 : (7 : Int32).toInt = 7 := by decide
theorem ti_8 : (8 : Int32).toInt = 8 := by decide
theorem ti_9 : (9 : Int32).toInt = 9 := by decide
theorem ti_10 : (10 : Int32).toInt = 10 := by decide
theorem ti_11 : (11 : Int32).toInt = 11 := by decide
theorem ti_12 : (12 : Int32).toInt = 12 := by decide
theorem ti_13 : (13 : Int32).toInt = 13 := by decide
theorem ti_14 : (14 : Int32).toInt = 14 := by decide
theorem ti_15 : (15 : Int32).toInt = 15 := by decide
theorem ti_16 : (16 : Int32).toInt = 16 := by decide
theorem ti_17 : (17 : Int32).toInt = 17 := by decide
theorem ti_18 : (18 : Int32).toInt = 18 := by decide
theorem ti_19 : (19 : Int32).toInt = 19 := by decide
theorem ti_20 : (20 : Int32).toInt = 20 := by decide
theorem ti_28 : (28 : Int32).toInt = 28 := by decide
theorem ti_30 : (30 : Int32).toInt = 30 := by decide
theorem ti_31 : (31 : Int32).toInt = 31 := by decide
theorem ti_32 : (32 : Int32).toInt = 32 := by decide
theorem ti_40 : (40 : Int32).toInt = 40 := by decide
theorem ti_45 : (45 : Int32).toInt = 45 := by decide
theorem ti_47 : (47 : Int32).toInt = 47 := by decide
theorem ti_48 : (48 : Int32).toInt = 48 := by decide
theorem ti_49 : (49 : Int32).toInt = 49 := by decide
theorem ti_57 : (57 : Int32).toInt = 57 := by decide
theorem ti_58 : (58 : Int32).toInt = 58 := by decide
theorem ti_59 : (59 : Int32).toInt = 59 := by decide
theorem ti_61 : (61 : Int32).toInt = 61 := by decide
theorem ti_76 : (76 : Int32).toInt = 76 := by decide
theorem ti_84 : (84 : Int32).toInt = 84 := by decide
theorem ti_96 : (96 : Int32).toInt = 96 := by decide
theorem ti_99 : (99 : Int32).toInt = 99 := by decide
theorem ti_100 : (100 : Int32).toInt = 100 := by decide
theorem ti_114 : (114 : Int32).toInt = 114 := by decide
theorem ti_115 : (115 : Int32).toInt = 115 := by decide
theorem ti_120 : (120 : Int32).toInt = 120 := by decide
theorem ti_126 : (126 : Int32).toInt = 126 := by decide
theorem ti_840 : (840 : Int32).toInt = 840 := by decide
theorem ti_1024 : (1024 : Int32).toInt = 1024 := by decide
def b01 (c : Prop) [Decidable c] : Int32 := if c then 1 else 0
theorem b01_t {c : Prop} [Decidable c] (h : c) : b01 c = 1 := if_pos h
theorem b01_f {c : Prop} [Decidable c] (h : ¬ c) : b01 c = 0 := if_neg h
theorem b01_0 {c : Prop} [Decidable c] : (b01 c = 0) ↔ ¬ c := by
  unfold b01
  by_cases h : c
  · rw [if_pos h]; exact ⟨fun q => absurd q (by decide), fun q => absurd h q⟩
  · rw [if_neg h]; exact ⟨fun _ => h, fun _ => rfl⟩
theorem b01_n0 {c : Prop} [Decidable c] : (¬ b01 c = 0) ↔ c := by
  rw [b01_0]
  exact Decidable.not_not
theorem b01_or {c : Prop} [Decidable c] : b01 c = 0 ∨ b01 c = 1 := by
  unfold b01
  by_cases h : c
  · rw [if_pos h]; exact Or.inr rfl
  · rw [if_neg h]; exact Or.inl rfl
/-- an int that is one of 0 .. n - 1 -/
abbrev isP (n : Nat) (x : Int32) : Prop := 0 ≤ x.toInt ∧ x.toInt < n
theorem isP_nI {n p : Nat} (h : p < n) (hn : n < 2147483648) : isP n (nI p) := by
  unfold isP
  rw [ti_nI]
  omega
theorem isP_ex {n : Nat} {x : Int32} (h : isP n x) : ∃ p, p < n ∧ x = nI p := by
  obtain ⟨h1, h2⟩ := h
  have hx := Int32.toInt_lt x
  refine ⟨x.toInt.toNat, by omega, Int32.toInt_inj.mp ?_⟩
  rw [ti_nI]
  omega
theorem vin {x : Int32} {n : Nat} (p : Nat) (h : x = nI p) (hp : p < n) (hn : n < 2147483648) : vp_in x n := by subst h; exact vp_in_nI hp hn
theorem clN {p : Nat} (h : p < 2147483648) : Int32.toNatClampNeg (nI p) = p := nI_clamp h
theorem kI {f : Int32 → qMI → qML → qMP → Prop} {x y : Int32} {I : qMI} {L : qML} {P : qMP} (k : f x I L P) (e : x = y) : KI f (some (.int y)) I L P := e ▸ k
theorem kL {f : Int64 → qMI → qML → qMP → Prop} {x y : Int64} {I : qMI} {L : qML} {P : qMP} (k : f x I L P) (e : x = y) : KL f (some (.long y)) I L P := e ▸ k
theorem nl (k : Nat) : (OfNat.ofNat k : Int32) = nI k := rfl
theorem nI_inj {a b : Nat} (ha : a < 2147483648) (hb : b < 2147483648) (h : nI a = nI b) : a = b := (nI_eq ha hb).mp h
