/-! floats: what the odds, their sum and their mean are -/
section FLT
theorem b_tails : FP.Core.b32.tails = 8388608 := by decide +kernel
theorem b_exps : FP.Core.b32.exps = 256 := by decide +kernel
theorem b_qmin : FP.Core.b32.qmin = -149 := by decide +kernel
theorem b_qmax : FP.Core.b32.qmax = 104 := by decide +kernel
/-- what rounding gives: an infinity, or a number of the format -/
def okD (d : FP.Core.Datum) : Prop := (∃ s, d = .inf s) ∨ ∃ (s : Bool) (c : Nat) (q : Int), d = .fin s c q ∧ c < 2 ^ 24 ∧ -149 ≤ q ∧ q ≤ 104
theorem ok_bound {s : Bool} {c : Nat} {q : Int} (hc : c < 2 ^ 24) (hq : -149 ≤ q) : okD (FP.Core.bound FP.Core.b32 s c q) := by
  unfold FP.Core.bound
  rw [b_qmax]
  split
  · exact Or.inr ⟨s, c, q, rfl, hc, hq, by assumption⟩
  · exact Or.inl ⟨s, rfl⟩
theorem ok_round {s : Bool} {num den : Nat} {e : Int} : okD (FP.Core.roundRatio FP.Core.b32 s num den e) := by
  unfold FP.Core.roundRatio
  split
  · exact Or.inr ⟨s, 0, _, rfl, by decide, by rw [b_qmin]; decide, by rw [b_qmin]; decide⟩
  · unfold FP.Core.roundAt FP.Core.settle
    have hq : -149 ≤ FP.Core.quantum FP.Core.b32 num den e := by
      unfold FP.Core.quantum
      rw [b_qmin]
      exact Int.le_max_left _ _
    rw [show (2 : Nat) ^ FP.Core.b32.p = 2 ^ 24 from rfl]
    split
    · exact ok_bound (by assumption) hq
    · exact ok_bound (by rw [b_tails]; decide) (by omega)
theorem ok_rnd {d : FP.Core.Datum} (h : d ≠ .nan) : okD (FP.Core.round FP.Core.b32 d) := by
  cases d with
  | nan => exact absurd rfl h
  | inf s => exact Or.inl ⟨s, rfl⟩
  | fin s c q => exact ok_round
theorem b_enc (s : Bool) (c : Nat) (q : Int) : FP.Core.encode FP.Core.b32 (.fin s c q) = if c < 8388608 then (s.toNat * 256 + 0) * 8388608 + c else (s.toNat * 256 + ((q + 149).toNat + 1)) * 8388608 + (c - 8388608) := by
  show (if c < FP.Core.b32.tails then FP.Core.assemble FP.Core.b32 s 0 c else FP.Core.assemble FP.Core.b32 s ((q - FP.Core.b32.qmin).toNat + 1) (c - FP.Core.b32.tails)) = _
  unfold FP.Core.assemble
  rw [b_exps, b_tails, b_qmin, show q - -149 = q + 149 by omega]
/-- an encoding, by its fields -/
theorem enc_of {d : FP.Core.Datum} (h : okD d) : ∃ (s : Bool) (E t : Nat), FP.Core.encode FP.Core.b32 d = (s.toNat * 256 + E) * 8388608 + t ∧ t < 8388608 ∧ (E ≤ 254 ∨ (E = 255 ∧ t = 0)) := by
  rcases h with ⟨s, rfl⟩ | ⟨s, c, q, rfl, hc, h1, h2⟩
  · refine ⟨s, 255, 0, ?_, by decide, Or.inr ⟨rfl, rfl⟩⟩
    show (s.toNat * FP.Core.b32.exps + (FP.Core.b32.exps - 1)) * FP.Core.b32.tails + 0 = _
    rw [b_exps, b_tails]
  · rw [b_enc]
    by_cases z : c < 8388608
    · rw [if_pos z]
      exact ⟨s, 0, c, rfl, z, Or.inl (by omega)⟩
    · rw [if_neg z]
      refine ⟨s, (q + 149).toNat + 1, c - 8388608, rfl, ?_, Or.inl ?_⟩
      · have : (2 : Nat) ^ 24 = 16777216 := by decide
        omega
      · omega
theorem u32_of {n : Nat} (h : n < 4294967296) : (UInt32.ofNat n).toNat = n := by
  rw [UInt32.toNat_ofNat']
  exact Nat.mod_eq_of_lt h
theorem enc_small {s : Bool} {E t : Nat} (ht : t < 8388608) (hE : E ≤ 255) : (s.toNat * 256 + E) * 8388608 + t < 4294967296 := by
  cases s
  · show (0 * 256 + E) * 8388608 + t < _; omega
  · show (1 * 256 + E) * 8388608 + t < _; omega
theorem nn_of {d : FP.Core.Datum} (h : okD d) : vf_n32 (UInt32.ofNat (FP.Core.encode FP.Core.b32 d)) := by
  obtain ⟨s, E, t, e, ht, hE⟩ := enc_of h
  unfold vf_n32
  rw [UInt32.le_iff_toNat_le, UInt32.toNat_and, e, u32_of (enc_small ht (by omega))]
  rw [show (2147483647 : UInt32).toNat = 2 ^ 31 - 1 from rfl, Nat.and_two_pow_sub_one_eq_mod]
  show _ ≤ 2139095040
  cases s
  · show ((0 * 256 + E) * 8388608 + t) % 2 ^ 31 ≤ _; omega
  · show ((1 * 256 + E) * 8388608 + t) % 2 ^ 31 ≤ _; omega
/-- a number goes through its encoding -/
theorem dec_enc {c : Nat} {q : Int} (hc : c < 2 ^ 24) (h1 : -149 ≤ q) (h2 : q ≤ 104) (h3 : q = -149 ∨ 2 ^ 23 ≤ c) : FP.Core.decode FP.Core.b32 (UInt32.ofNat (FP.Core.encode FP.Core.b32 (.fin false c q))).toNat = .fin false c q := by
  have h24 : (2 : Nat) ^ 24 = 16777216 := by decide
  have h23 : (2 : Nat) ^ 23 = 8388608 := by decide
  rw [h24] at hc
  rw [h23] at h3
  by_cases z : c < 8388608
  · have hq : q = -149 := by omega
    subst hq
    have e : FP.Core.encode FP.Core.b32 (.fin false c (-149)) = c := by
      rw [b_enc, if_pos z]
      show (0 * 256 + 0) * 8388608 + c = c
      omega
    rw [e, u32_of (by omega)]
    unfold FP.Core.decode FP.Core.fieldE FP.Core.fieldT FP.Core.fieldS
    rw [b_exps, b_tails, b_qmin, show c / 8388608 = 0 by omega, show c % 8388608 = c by omega]
    rfl
  · have e : FP.Core.encode FP.Core.b32 (.fin false c q) = ((q + 149).toNat + 1) * 8388608 + (c - 8388608) := by
      rw [b_enc, if_neg z]
      show (0 * 256 + ((q + 149).toNat + 1)) * 8388608 + (c - 8388608) = _
      omega
    rw [e, u32_of (by omega)]
    unfold FP.Core.decode FP.Core.fieldE FP.Core.fieldT FP.Core.fieldS
    rw [b_exps, b_tails, b_qmin]
    rw [show (((q + 149).toNat + 1) * 8388608 + (c - 8388608)) / 8388608 = (q + 149).toNat + 1 by omega, show (((q + 149).toNat + 1) * 8388608 + (c - 8388608)) % 8388608 = c - 8388608 by omega]
    rw [show ((q + 149).toNat + 1) % 256 = (q + 149).toNat + 1 by omega, if_neg (by omega), if_neg (by omega), show ((q + 149).toNat + 1) / 256 = 0 by omega]
    rw [show 8388608 + (c - 8388608) = c by omega, show (-149 : Int) + ((((q + 149).toNat + 1 : Nat) : Int) - 1) = q by omega]
    rfl
theorem vf1_enc {c : Nat} {q : Int} {lo hi : Nat} (hc : c < 2 ^ 24) (h1 : -149 ≤ q) (h2 : q ≤ 104) (h3 : q = -149 ∨ 2 ^ 23 ≤ c) (hl : lo * 2 ^ 149 ≤ c * 2 ^ (q + 149).toNat) (hh : c * 2 ^ (q + 149).toNat ≤ hi * 2 ^ 149) : vf1 (UInt32.ofNat (FP.Core.encode FP.Core.b32 (.fin false c q))) lo hi := ⟨c, q, dec_enc hc h1 h2 h3, h1, h2, hc, h3, hl, hh⟩
-- no NaN
theorem nn_add {x y : UInt32} {s t : Bool} {c d : Nat} {q r : Int} (hx : FP.Core.decode FP.Core.b32 x.toNat = .fin s c q) (hy : FP.Core.decode FP.Core.b32 y.toNat = .fin t d r) : vf_n32 (FP.fadd x y) := by
  show vf_n32 (UInt32.ofNat (FP.Core.encode FP.Core.b32 (FP.Core.round FP.Core.b32 (FP.Core.exactSum (FP.Core.decode FP.Core.b32 x.toNat) (FP.Core.decode FP.Core.b32 y.toNat)))))
  rw [hx, hy]
  exact nn_of ok_round
theorem nn_div {x y : UInt32} {s t : Bool} {c d : Nat} {q r : Int} (hx : FP.Core.decode FP.Core.b32 x.toNat = .fin s c q) (hy : FP.Core.decode FP.Core.b32 y.toNat = .fin t d r) (hd : d ≠ 0) : vf_n32 (FP.fdiv x y) := by
  show vf_n32 (UInt32.ofNat (FP.Core.encode FP.Core.b32 (FP.Core.quotient FP.Core.b32 (FP.Core.decode FP.Core.b32 x.toNat) (FP.Core.decode FP.Core.b32 y.toNat))))
  rw [hx, hy]
  show vf_n32 (UInt32.ofNat (FP.Core.encode FP.Core.b32 (if d = 0 then _ else _)))
  rw [if_neg hd]
  exact nn_of ok_round
theorem dec_nn_ok {d : FP.Core.Datum} (h : okD d) : FP.Core.decode FP.Core.b32 (UInt32.ofNat (FP.Core.encode FP.Core.b32 d)).toNat ≠ .nan := by
  obtain ⟨s, E, t, e, ht, hE⟩ := enc_of h
  rw [e, u32_of (enc_small ht (by omega))]
  unfold FP.Core.decode FP.Core.fieldE FP.Core.fieldT
  rw [b_exps, b_tails]
  have h1 : ((s.toNat * 256 + E) * 8388608 + t) / 8388608 % 256 = E := by
    cases s
    · show ((0 * 256 + E) * 8388608 + t) / 8388608 % 256 = E; omega
    · show ((1 * 256 + E) * 8388608 + t) / 8388608 % 256 = E; omega
  have h2 : ((s.toNat * 256 + E) * 8388608 + t) % 8388608 = t := by
    cases s
    · show ((0 * 256 + E) * 8388608 + t) % 8388608 = t; omega
    · show ((1 * 256 + E) * 8388608 + t) % 8388608 = t; omega
  rw [h1, h2]
  split
  · rw [if_pos (by omega)]
    exact fun z => by cases z
  · split <;> exact fun z => by cases z
theorem nn_mul {x y : UInt32} {t : Bool} {d : Nat} {r : Int} (hx : FP.Core.decode FP.Core.b32 x.toNat ≠ .nan) (hy : FP.Core.decode FP.Core.b32 y.toNat = .fin t d r) (hd : d ≠ 0) : vf_n32 (FP.fmul x y) := by
  show vf_n32 (UInt32.ofNat (FP.Core.encode FP.Core.b32 (FP.Core.round FP.Core.b32 (FP.Core.exactProduct (FP.Core.decode FP.Core.b32 x.toNat) (FP.Core.decode FP.Core.b32 y.toNat)))))
  rw [hy]
  refine nn_of (ok_rnd ?_)
  cases hz : FP.Core.decode FP.Core.b32 x.toNat with
  | nan => exact absurd hz hx
  | inf s =>
    show (if d = 0 then FP.Core.Datum.nan else _) ≠ _
    rw [if_neg hd]
    exact fun z => by cases z
  | fin s c q => exact fun z => by cases z
theorem i2f_nn (a : Int32) : FP.Core.decode FP.Core.b32 (FP.i2f a).toNat ≠ .nan := dec_nn_ok (d := FP.Core.round FP.Core.b32 (FP.Core.ofInt a.toInt)) (ok_rnd (fun z => by cases z))
theorem vf1_pos {x : UInt32} {lo hi : Nat} (h : vf1 x lo hi) (hl : 0 < lo) : ∃ (c : Nat) (q : Int), FP.Core.decode FP.Core.b32 x.toNat = .fin false c q ∧ c ≠ 0 := by
  obtain ⟨c, q, h1, -, -, -, -, h2, -⟩ := h
  refine ⟨c, q, h1, fun z => ?_⟩
  subst z
  have : 0 < lo * 2 ^ 149 := Nat.mul_pos hl (Nat.two_pow_pos _)
  omega
theorem nan_pay {a : Int32} {x : UInt32} {hi : Nat} (h : vf1 x 1 hi) : vf_n32 (FP.fmul (FP.i2f a) x) := by
  obtain ⟨c, q, h1, h2⟩ := vf1_pos h (by decide)
  exact nn_mul (i2f_nn a) h1 h2
-- the leading digit, and rounding between whole bounds
theorem p2 (a b : Nat) : 2 ^ (a + b) = 2 ^ a * 2 ^ b := Nat.pow_add 2 a b
theorem lead_ok {num den : Nat} (hn : 0 < num) (hd : 0 < den) (hn2 : num < 2 ^ 600) (hd2 : den < 2 ^ 600) :
    ∃ L : Int, FP.Core.leading num den = L ∧ -700 ≤ L ∧ L ≤ 700 ∧ den * 2 ^ (2000 + L).toNat ≤ num * 2 ^ 2000 ∧ num * 2 ^ 2000 < den * 2 ^ (2001 + L).toNat := by
  obtain ⟨a, ha⟩ : ∃ a, a = num.log2 := ⟨_, rfl⟩
  obtain ⟨b, hb⟩ : ∃ b, b = den.log2 := ⟨_, rfl⟩
  have a1 : 2 ^ a ≤ num := by rw [ha]; exact Nat.log2_self_le (by omega)
  have a2 : num < 2 ^ (a + 1) := by rw [ha]; exact Nat.lt_log2_self
  have b1 : 2 ^ b ≤ den := by rw [hb]; exact Nat.log2_self_le (by omega)
  have b2 : den < 2 ^ (b + 1) := by rw [hb]; exact Nat.lt_log2_self
  have a3 : a < 600 := (Nat.pow_lt_pow_iff_right (by decide)).mp (Nat.lt_of_le_of_lt a1 hn2)
  have b3 : b < 600 := (Nat.pow_lt_pow_iff_right (by decide)).mp (Nat.lt_of_le_of_lt b1 hd2)
  unfold FP.Core.leading
  rw [← ha, ← hb]
  dsimp only
  rcases Nat.le_total b a with hab | hab
  · obtain ⟨k, rfl⟩ : ∃ k, a = b + k := ⟨a - b, by omega⟩
    rw [show ((b + k : Nat) : Int) - (b : Int) = (k : Int) by omega, show (-(k : Int)).toNat = 0 by omega, show ((k : Int)).toNat = k by omega, Nat.pow_zero, Nat.mul_one]
    split
    · rename_i h
      refine ⟨k, rfl, by omega, by omega, ?_, ?_⟩
      · rw [show (2000 + (k : Int)).toNat = k + 2000 by omega, p2, ← Nat.mul_assoc]
        exact Nat.mul_le_mul_right _ h
      · rw [show (2001 + (k : Int)).toNat = (1 + k) + 2000 by omega, p2, ← Nat.mul_assoc]
        refine Nat.mul_lt_mul_of_pos_right ?_ (Nat.two_pow_pos _)
        refine Nat.lt_of_lt_of_le a2 ?_
        rw [show b + k + 1 = b + (1 + k) by omega, p2]
        exact Nat.mul_le_mul_right _ b1
    · rename_i h
      refine ⟨(k : Int) - 1, rfl, by omega, by omega, ?_, ?_⟩
      · rw [show (2000 + ((k : Int) - 1)).toNat = k + 1999 by omega]
        refine Nat.le_trans (Nat.mul_le_mul_right _ (Nat.le_of_lt b2)) ?_
        rw [← p2, show b + 1 + (k + 1999) = (b + k) + 2000 by omega, p2]
        exact Nat.mul_le_mul_right _ a1
      · rw [show (2001 + ((k : Int) - 1)).toNat = k + 2000 by omega, p2, ← Nat.mul_assoc]
        exact Nat.mul_lt_mul_of_pos_right (Nat.not_le.mp h) (Nat.two_pow_pos _)
  · obtain ⟨k, rfl⟩ : ∃ k, b = a + k := ⟨b - a, by omega⟩
    rw [show ((a : Nat) : Int) - ((a + k : Nat) : Int) = -(k : Int) by omega, show (-(k : Int)).toNat = 0 by omega, show (- -(k : Int)).toNat = k by omega, Nat.pow_zero, Nat.mul_one]
    split
    · rename_i h
      refine ⟨-(k : Int), rfl, by omega, by omega, ?_, ?_⟩
      · rw [show (2000 + -(k : Int)).toNat = 2000 - k by omega]
        refine Nat.le_trans (Nat.mul_le_mul_right _ h) ?_
        rw [Nat.mul_assoc, ← p2, show k + (2000 - k) = 2000 by omega]
        exact Nat.le_refl _
      · rw [show (2001 + -(k : Int)).toNat = 2001 - k by omega]
        refine Nat.lt_of_lt_of_le (Nat.mul_lt_mul_of_pos_right a2 (Nat.two_pow_pos 2000)) ?_
        refine Nat.le_trans ?_ (Nat.mul_le_mul_right _ b1)
        rw [← p2, ← p2, show a + 1 + 2000 = a + k + (2001 - k) by omega]
        exact Nat.le_refl _
    · rename_i h
      refine ⟨-(k : Int) - 1, rfl, by omega, by omega, ?_, ?_⟩
      · rw [show (2000 + (-(k : Int) - 1)).toNat = 1999 - k by omega]
        refine Nat.le_trans (Nat.mul_le_mul_right _ (Nat.le_of_lt b2)) ?_
        rw [← p2, show a + k + 1 + (1999 - k) = a + 2000 by omega, p2]
        exact Nat.mul_le_mul_right _ a1
      · rw [show (2001 + (-(k : Int) - 1)).toNat = 2000 - k by omega]
        have h := Nat.not_le.mp h
        refine Nat.lt_of_mul_lt_mul_right (a := 2 ^ k) ?_
        rw [Nat.mul_assoc, Nat.mul_comm (2 ^ 2000), ← Nat.mul_assoc, Nat.mul_assoc den, ← p2, show 2000 - k + k = 2000 by omega]
        exact Nat.mul_lt_mul_of_pos_right h (Nat.two_pow_pos _)
theorem near_ge {U w a : Nat} (hw : 0 < w) (h : a * w ≤ U) : a ≤ FP.Core.nearest U w := by
  have h1 : a ≤ U / w := (Nat.le_div_iff_mul_le hw).mpr h
  unfold FP.Core.nearest
  split
  · exact h1
  · split <;> omega
theorem near_le {U w a : Nat} (hw : 0 < w) (h : U ≤ a * w) : FP.Core.nearest U w ≤ a := by
  have h1 : U / w ≤ a := by
    refine Nat.le_of_lt_succ ((Nat.div_lt_iff_lt_mul hw).mpr ?_)
    rw [Nat.succ_mul]
    omega
  have h2 := Nat.div_add_mod U w
  unfold FP.Core.nearest
  by_cases e : U / w = a
  · have : U % w = 0 := by
      rw [e, Nat.mul_comm] at h2
      omega
    rw [this, if_pos (by omega)]
    exact h1
  · split
    · exact h1
    · split
      · omega
      · have : U / w % 2 ≤ 1 := by omega
        omega
theorem near_eq {w a : Nat} (hw : 0 < w) : FP.Core.nearest (a * w) w = a := Nat.le_antisymm (near_le hw (Nat.le_refl _)) (near_ge hw (Nat.le_refl _))
end FLT
