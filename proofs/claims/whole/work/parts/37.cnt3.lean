theorem nx_it (set i : Nat) : nx set (it set i) = it set (i + 1) := rfl
theorem pow10 {k : Nat} (h : k ≤ 10) : 2 ^ k ≤ 1024 := Nat.pow_le_pow_right (by decide) h
theorem lN0 : (0 : Int64) = lN 0 := rfl
section C3
variable {d : Nat} {I : qMI} {L : qML} {P : qMP} {a : Nat} {s : Sit} {pn : Nat → Prop} {sg : Nat → Nat} {w : Nat} {ap tg : Int32}
theorem ok_pairWays {b B set : Nat} {f : Int64 → qMI → qML → qMP → Prop} (hP : LAY P) (ha : isCnt a) (h : CB I P a s pn sg w ap tg) (hn : s 0 0 ≤ 10) (hb : b < TB (s 0 0) 1) (hB : B = TB (s 0 0) 1 + b) (hs : set < 2 ^ s 0 0) (k : f (lN (su (subs set) (fun h => gc (xA s pn sg w ap.toInt tg.toInt) 0 (2 * b) h * gc (xA s pn sg w ap.toInt tg.toInt) 0 (2 * b + 1) (set ^^^ h)))) I L P) : Sq (d + 3) mX0_pairWays SH0 [.ref a, .int (nI B), .int (nI set)] I L P (KL f) := by
  obtain ⟨k0, k1, k2, k3, k4, k5, k6, k7, k8⟩ := cnt_K ha
  have hl := lastS_le (s 0 0)
  have tb : TB (s 0 0) 0 = 2 * TB (s 0 0) 1 := TB_half (r := 0) hn hl.1
  have tt := TB_all _ hn 1 hl.1
  have hs10 := p10 hn hs
  have hpc := pc_le_n hn hs
  have hp10 := pow10 (k := pc set) (by omega)
  have hall := ps_all hs10 (fun h => gc (xA s pn sg w ap.toInt tg.toInt) 0 (2 * b) h * gc (xA s pn sg w ap.toInt tg.toInt) 0 (2 * b + 1) (set ^^^ h))
  have hstep := ps_succ set (fun h => gc (xA s pn sg w ap.toInt tg.toInt) 0 (2 * b) h * gc (xA s pn sg w ap.toInt tg.toInt) 0 (2 * b + 1) (set ^^^ h))
  have h00 := ps_0 set (fun h => gc (xA s pn sg w ap.toInt tg.toInt) 0 (2 * b) h * gc (xA s pn sg w ap.toInt tg.toInt) 0 (2 * b + 1) (set ^^^ h))
  generalize hF : ps set (fun h => gc (xA s pn sg w ap.toInt tg.toInt) 0 (2 * b) h * gc (xA s pn sg w ap.toInt tg.toInt) 0 (2 * b + 1) (set ^^^ h)) = F at *
  refine sp_X0_pairWays (fun x3 x4 l5 x7 I' L' P' => I' = I ∧ L' = L ∧ P' = P ∧ x3 = nI (2 ^ pc set) ∧ ∃ i, i ≤ 2 ^ pc set ∧ x4 = nI (it set i) ∧ l5 = lN (F i) ∧ x7 = nI i) (fun _ _ _ x _ _ _ => 2000 - x.toNatClampNeg) (ok_bc hs10 ⟨rfl, rfl, rfl, bitN (by omega), 0, Nat.zero_le _, rfl, by rw [h00]; rfl, rfl⟩) ?_
  rintro x3 x4 l5 x7 I' L' P' ⟨rfl, rfl, rfl, rfl, i, hi, rfl, rfl, rfl⟩
  refine ⟨fun c => ?_, fun c => ⟨by rw [k0], ?_⟩⟩
  · rw [nI_leI (by omega) (by omega)] at c
    have : i = 2 ^ pc set := by omega
    exact kL k (by rw [this, hall])
  · rw [nI_leI (by omega) (by omega)] at c
    obtain ⟨m1, m2⟩ := it_sub hs10 (show i < 2 ^ pc set by omega)
    have e2 : (2 : Int32) * nI B = nI (2 * B) := pk_mul 2 B
    rw [e2, nI_1, xorN, nxN hs10 m2, nx_it]
    refine ok_waysOf (r := 0) (b := 2 * b) hP ha h hn (Nat.zero_le _) (by omega) (by omega) (sub_lt m1 hs) (fun q => absurd q (by decide)) ?_
    refine ok_waysOf (r := 0) (b := 2 * b + 1) hP ha h hn (Nat.zero_le _) (by omega) (by omega) (xor_lt m1 hs) (fun q => absurd q (by decide)) ?_
    refine ⟨⟨rfl, rfl, rfl, rfl, i + 1, by omega, rfl, ?_, nI_1 i⟩, ?_⟩
    · rw [lN_mul, lN_add, hstep]
    · rw [nI_1, clN (by omega), clN (by omega)]; omega
theorem ok_halvesWays {r b B unp : Nat} {f : Int64 → qMI → qML → qMP → Prop} (hP : LAY P) (ha : isCnt a) (h : CB I P a s pn sg w ap tg) (hn : s 0 0 ≤ 10) (hr : 1 ≤ r) (hr2 : r + 1 ≤ lastS (s 0 0)) (hb : b < TB (s 0 0) (r + 1)) (hB : B = TB (s 0 0) (r + 1) + b) (hu : unp < 2 ^ s 0 0) (hd : unp &&& pmS (s 0 0) pn = 0) (hR1 : RF L a (xA s pn sg w ap.toInt tg.toInt) (s 0 0) pn sg r (2 * b)) (hR2 : RF L a (xA s pn sg w ap.toInt tg.toInt) (s 0 0) pn sg r (2 * b + 1)) (k : f (lN (su (subs (mu (s 0 0) pn sg (r + 1) b ||| unp)) (fun h => gc (xA s pn sg w ap.toInt tg.toInt) r (2 * b) h * gc (xA s pn sg w ap.toInt tg.toInt) r (2 * b + 1) ((mu (s 0 0) pn sg (r + 1) b ||| unp) ^^^ h)))) I L P) : Sq (d + 2) mX0_halvesWays SH0 [.ref a, .int (nI B), .int (nI unp)] I L P (KL f) := by
  obtain ⟨p0, p1, p2, p3, p4, p5, p6, p7⟩ := cnt_P hP ha
  obtain ⟨k0, k1, k2, k3, k4, k5, k6, k7, k8⟩ := cnt_K ha
  obtain ⟨a1, a2, a3, a4, a5, a6, a7, a8, a9⟩ := id h
  have tb := TB_half hn hr2
  have tt := TB_all _ hn r (by omega)
  have t8 := tt.2.2.2.2 hr
  have hu10 := p10 hn hu
  have hpc := pc_le_n hn hu
  have hp10 := pow10 (k := pc unp) (by omega)
  rw [su_halves hn hu hd] at k
  have hm1 := mu_lt (n := s 0 0) (pn := pn) (sg := sg) (r := r) (b := 2 * b)
  have hm2 := mu_lt (n := s 0 0) (pn := pn) (sg := sg) (r := r) (b := 2 * b + 1)
  have mp1 := fun i => mu_pm (n := s 0 0) (pn := pn) (sg := sg) (r := r) (b := 2 * b) (i := i)
  have mp2 := fun i => mu_pm (n := s 0 0) (pn := pn) (sg := sg) (r := r) (b := 2 * b + 1) (i := i)
  have e7 := a7 r (2 * b) (by omega) (by omega)
  have e8 := a7 r (2 * b + 1) (by omega) (by omega)
  have q1 : ∀ x, x < 2 ^ s 0 0 → x &&& pmS (s 0 0) pn = 0 → (mu (s 0 0) pn sg r (2 * b) ||| x) < 2 ^ s 0 0 ∧ (mu (s 0 0) pn sg r (2 * b) ||| x) &&& pmS (s 0 0) pn = mu (s 0 0) pn sg r (2 * b) := fun x hx hz => ⟨Nat.or_lt_two_pow hm1 hx, bits_eq fun i => by
    rw [and_bit, or_bit]
    have m2 := mp1 i
    have m4 := dis_bit (i := i) hz
    rcases bit_cases (x := mu (s 0 0) pn sg r (2 * b)) i with q2 | q2 <;> rcases bit_cases (x := x) i with q4 | q4 <;> simp_all⟩
  have q2 : ∀ x, x < 2 ^ s 0 0 → x &&& pmS (s 0 0) pn = 0 → (mu (s 0 0) pn sg r (2 * b + 1) ||| x) < 2 ^ s 0 0 ∧ (mu (s 0 0) pn sg r (2 * b + 1) ||| x) &&& pmS (s 0 0) pn = mu (s 0 0) pn sg r (2 * b + 1) := fun x hx hz => ⟨Nat.or_lt_two_pow hm2 hx, bits_eq fun i => by
    rw [and_bit, or_bit]
    have m2 := mp2 i
    have m4 := dis_bit (i := i) hz
    rcases bit_cases (x := mu (s 0 0) pn sg r (2 * b + 1)) i with q2 | q2 <;> rcases bit_cases (x := x) i with q4 | q4 <;> simp_all⟩
  have subz : ∀ x, subB unp x = true → x &&& pmS (s 0 0) pn = 0 := fun x hx => bits_eq fun i => by
    rw [and_bit, Nat.zero_testBit]
    have m4 := dis_bit (i := i) hd
    have m5 := subB_iff.mp hx i
    constructor
    · rintro ⟨y1, y2⟩; exact absurd y2 (m4 (m5 y1))
    · intro y; cases y
  have hall := ps_all hu10 (fun part => gc (xA s pn sg w ap.toInt tg.toInt) r (2 * b) (mu (s 0 0) pn sg r (2 * b) ||| part) * gc (xA s pn sg w ap.toInt tg.toInt) r (2 * b + 1) (mu (s 0 0) pn sg r (2 * b + 1) ||| (unp ^^^ part)))
  have hstep := ps_succ unp (fun part => gc (xA s pn sg w ap.toInt tg.toInt) r (2 * b) (mu (s 0 0) pn sg r (2 * b) ||| part) * gc (xA s pn sg w ap.toInt tg.toInt) r (2 * b + 1) (mu (s 0 0) pn sg r (2 * b + 1) ||| (unp ^^^ part)))
  have h00 := ps_0 unp (fun part => gc (xA s pn sg w ap.toInt tg.toInt) r (2 * b) (mu (s 0 0) pn sg r (2 * b) ||| part) * gc (xA s pn sg w ap.toInt tg.toInt) r (2 * b + 1) (mu (s 0 0) pn sg r (2 * b + 1) ||| (unp ^^^ part)))
  generalize hF : ps unp (fun part => gc (xA s pn sg w ap.toInt tg.toInt) r (2 * b) (mu (s 0 0) pn sg r (2 * b) ||| part) * gc (xA s pn sg w ap.toInt tg.toInt) r (2 * b + 1) (mu (s 0 0) pn sg r (2 * b + 1) ||| (unp ^^^ part))) = F at *
  have e2 : (2 : Int32) * nI B = nI (2 * B) := pk_mul 2 B
  have b1 : 2 * B = TB (s 0 0) r + 2 * b := by omega
  have b2 : 2 * B + 1 = TB (s 0 0) r + (2 * b + 1) := by omega
  have b16 : 2 * B + 1 < 16 := by omega
  refine sp_X0_halvesWays (fun a3 a4 x5 x6 x7 x8 l9 x11 I' L' P' => I' = I ∧ L' = L ∧ P' = P ∧ a3 = a + 8 + 2 * B ∧ a4 = a + 8 + (2 * B + 1) ∧ x5 = nI (mu (s 0 0) pn sg r (2 * b)) ∧ x6 = nI (mu (s 0 0) pn sg r (2 * b + 1)) ∧ x7 = nI (2 ^ pc unp) ∧ ∃ i, i ≤ 2 ^ pc unp ∧ x8 = nI (it unp i) ∧ l9 = lN (F i) ∧ x11 = nI i) (fun _ _ _ _ _ _ _ x _ _ _ => 2000 - x.toNatClampNeg) ⟨fun c => absurd c (nI_nlt (a := B) (b := 1) (by omega) (by omega)), fun _ => ⟨by rw [k0], ?_⟩⟩ ?_
  · rw [p6, k7, e2, nI_1]
    refine ⟨rfl, fun c => ⟨vin _ rfl (show 2 * B < 16 by omega) (by decide), vin _ rfl b16 (by decide), ?_⟩, fun c => absurd (nI_lt (a := 2 * B + 1) (b := 16) b16 (by decide)) c⟩
    rw [p5, k6, clN (by omega), clN (by omega), p7 _ (by omega), p7 _ b16]
    refine ⟨rfl, vin _ rfl (show 2 * B < 32 by omega) (by decide), vin _ rfl (show 2 * B + 1 < 32 by omega) (by decide), ok_bc hu10 ⟨rfl, rfl, rfl, rfl, rfl, ?_, ?_, bitN (by omega), 0, Nat.zero_le _, rfl, by rw [h00]; rfl, rfl⟩⟩
    · rw [b1]; exact e7
    · rw [b2]; exact e8
  · rintro a3 a4 x5 x6 x7 x8 l9 x11 I' L' P' ⟨rfl, rfl, rfl, rfl, rfl, rfl, rfl, rfl, i, hi, rfl, rfl, rfl⟩
    refine ⟨fun c => ?_, fun c => ?_⟩
    · rw [nI_leI (by omega) (by omega)] at c
      have : i = 2 ^ pc unp := by omega
      exact kL k (by rw [this, hall])
    · rw [nI_leI (by omega) (by omega)] at c
      obtain ⟨m1, m2⟩ := it_sub hu10 (show i < 2 ^ pc unp by omega)
      have v1 := q1 _ (sub_lt m1 hu) (subz _ m1)
      have v2 := q2 _ (xor_lt m1 hu) (subz _ (sub_xor m1))
      have r1 := hR1 _ v1.1 v1.2
      have r2 := hR2 _ v2.1 v2.2
      rw [← b1] at r1
      rw [← b2] at r2
      have hst := hstep i
      have hm : 2000 - (nI i + 1).toNatClampNeg < 2000 - (nI i).toNatClampNeg := by
        rw [nI_1, clN (by omega), clN (by omega)]; omega
      rw [k8 _ (by omega), k8 _ b16, orN, xorN, orN, a1023 (p10 hn v1.1), a1023 (p10 hn v2.1), clN (Nat.lt_of_lt_of_le (p10 hn v1.1) (by decide)), clN (Nat.lt_of_lt_of_le (p10 hn v2.1) (by decide)), r1, r2, nxN hu10 m2, nx_it, lN_mul, lN_add]
      refine ⟨rfl, vin _ rfl (p10 hn v1.1) (by decide), fun c1 => ?_, fun c1 => ⟨rfl, vin _ rfl (p10 hn v2.1) (by decide), ?_⟩⟩
      · refine ⟨⟨rfl, rfl, rfl, rfl, rfl, rfl, rfl, rfl, i + 1, by omega, rfl, ?_, nI_1 i⟩, hm⟩
        rw [hst, ← lN_add, ← lN_mul, c1]
        simp
      · exact ⟨⟨rfl, rfl, rfl, rfl, rfl, rfl, rfl, rfl, i + 1, by omega, rfl, by rw [hst], nI_1 i⟩, hm⟩
theorem ok_twinOf {r b B : Nat} {f : Int32 → qMI → qML → qMP → Prop} (hP : LAY P) (ha : isCnt a) (h : CB I P a s pn sg w ap tg) (hn : s 0 0 ≤ 10) (hr : 1 ≤ r) (hr2 : r ≤ lastS (s 0 0)) (hb : b < TB (s 0 0) r) (hB : B = TB (s 0 0) r + b) (k0 : f (-1) I L P) (k1 : ∀ c, c < b → mu (s 0 0) pn sg r b = 0 → mu (s 0 0) pn sg r c = 0 → f (nI (TB (s 0 0) r + c)) I L P) : Sq (d + 1) mX0_twinOf SH0 [.ref a, .int (nI B), .int (nI r)] I L P (KI f) := by
  obtain ⟨p0, p1, p2, p3, p4, p5, p6, p7⟩ := cnt_P hP ha
  obtain ⟨j0, j1, j2, j3, j4, j5, j6, j7, j8⟩ := cnt_K ha
  obtain ⟨a1, a2, a3, a4, a5, a6, a7, a8, a9⟩ := id h
  have tt := TB_all _ hn r hr2
  have t8 := tt.2.2.2.2 hr
  have hl := lastS_le (s 0 0)
  have hs := slotsS_in (s 0 0)
  have em : ∀ c, c < TB (s 0 0) r → (I (a + 6) (TB (s 0 0) r + c) = 0 ↔ mu (s 0 0) pn sg r c = 0) := fun c hc => by
    rw [a7 r c hr2 hc]
    have hm := p10 hn (mu_lt (n := s 0 0) (pn := pn) (sg := sg) (r := r) (b := c))
    exact nI_eq (by omega) (by decide)
  refine sp_X0_twinOf (fun x I' L' P' => I' = I ∧ L' = L ∧ P' = P ∧ ∃ c, c ≤ b ∧ x = nI (TB (s 0 0) r + c)) (fun x _ _ _ => 100 - x.toNatClampNeg) ⟨by rw [j0], rfl, rfl, rfl, 0, Nat.zero_le _, ?_⟩ ?_
  · rw [a4, shrN (by omega) (by omega)]; rfl
  · rintro x I' L' P' ⟨rfl, rfl, rfl, c, hc, rfl⟩
    refine ⟨by rw [j0], ?_⟩
    rw [p5, j6, clN (by omega), clN (by omega)]
    refine ⟨rfl, vin B rfl (show B < 32 by omega) (by decide), fun _ => k0, fun c1 => ⟨fun _ => k0, fun c2 => ⟨vin _ rfl (show TB (s 0 0) r + c < 32 by omega) (by decide), fun c3 => ?_, fun c3 => ?_⟩⟩⟩
    · rw [nI_leI (by omega) (by omega)] at c2
      refine ⟨⟨rfl, rfl, rfl, c + 1, by omega, nI_1 _⟩, ?_⟩
      rw [nI_1, clN (by omega)]; omega
    · rw [nI_leI (by omega) (by omega)] at c2
      rw [hB] at c1
      exact k1 c (by omega) ((em b hb).mp c1) ((em c (by omega)).mp c3)
end C3
