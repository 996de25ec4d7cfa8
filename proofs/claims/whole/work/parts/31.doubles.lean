/-! doubles: what the odds become -/
theorem b_tails6 : FP.Core.b64.tails = 4503599627370496 := by decide +kernel
theorem b_exps6 : FP.Core.b64.exps = 2048 := by decide +kernel
theorem b_qmin6 : FP.Core.b64.qmin = -1074 := by decide +kernel
theorem b_qmax6 : FP.Core.b64.qmax = 971 := by decide +kernel
/-- what rounding gives: an infinity, or a number of the format -/
def okD6 (d : FP.Core.Datum) : Prop := (∃ s, d = .inf s) ∨ ∃ (s : Bool) (c : Nat) (q : Int), d = .fin s c q ∧ c < 2 ^ 53 ∧ -1074 ≤ q ∧ q ≤ 971
theorem ok_bound6 {s : Bool} {c : Nat} {q : Int} (hc : c < 2 ^ 53) (hq : -1074 ≤ q) : okD6 (FP.Core.bound FP.Core.b64 s c q) := by
  unfold FP.Core.bound
  rw [b_qmax6]
  split
  · exact Or.inr ⟨s, c, q, rfl, hc, hq, by assumption⟩
  · exact Or.inl ⟨s, rfl⟩
theorem ok_round6 {s : Bool} {num den : Nat} {e : Int} : okD6 (FP.Core.roundRatio FP.Core.b64 s num den e) := by
  unfold FP.Core.roundRatio
  split
  · exact Or.inr ⟨s, 0, _, rfl, by decide, by rw [b_qmin6]; decide, by rw [b_qmin6]; decide⟩
  · unfold FP.Core.roundAt FP.Core.settle
    have hq : -1074 ≤ FP.Core.quantum FP.Core.b64 num den e := by
      unfold FP.Core.quantum
      rw [b_qmin6]
      exact Int.le_max_left _ _
    rw [show (2 : Nat) ^ FP.Core.b64.p = 2 ^ 53 from rfl]
    split
    · exact ok_bound6 (by assumption) hq
    · exact ok_bound6 (by rw [b_tails6]; decide) (by omega)
theorem ok_rnd6 {d : FP.Core.Datum} (h : d ≠ .nan) : okD6 (FP.Core.round FP.Core.b64 d) := by
  cases d with
  | nan => exact absurd rfl h
  | inf s => exact Or.inl ⟨s, rfl⟩
  | fin s c q => exact ok_round6
theorem b_enc6 (s : Bool) (c : Nat) (q : Int) : FP.Core.encode FP.Core.b64 (.fin s c q) = if c < 4503599627370496 then (s.toNat * 2048 + 0) * 4503599627370496 + c else (s.toNat * 2048 + ((q + 1074).toNat + 1)) * 4503599627370496 + (c - 4503599627370496) := by
  show (if c < FP.Core.b64.tails then FP.Core.assemble FP.Core.b64 s 0 c else FP.Core.assemble FP.Core.b64 s ((q - FP.Core.b64.qmin).toNat + 1) (c - FP.Core.b64.tails)) = _
  unfold FP.Core.assemble
  rw [b_exps6, b_tails6, b_qmin6, show q - -1074 = q + 1074 by omega]
/-- an encoding, by its fields -/
theorem enc_of6 {d : FP.Core.Datum} (h : okD6 d) : ∃ (s : Bool) (E t : Nat), FP.Core.encode FP.Core.b64 d = (s.toNat * 2048 + E) * 4503599627370496 + t ∧ t < 4503599627370496 ∧ (E ≤ 2046 ∨ (E = 2047 ∧ t = 0)) := by
  rcases h with ⟨s, rfl⟩ | ⟨s, c, q, rfl, hc, h1, h2⟩
  · refine ⟨s, 2047, 0, ?_, by decide, Or.inr ⟨rfl, rfl⟩⟩
    show (s.toNat * FP.Core.b64.exps + (FP.Core.b64.exps - 1)) * FP.Core.b64.tails + 0 = _
    rw [b_exps6, b_tails6]
  · rw [b_enc6]
    by_cases z : c < 4503599627370496
    · rw [if_pos z]
      exact ⟨s, 0, c, rfl, z, Or.inl (by omega)⟩
    · rw [if_neg z]
      refine ⟨s, (q + 1074).toNat + 1, c - 4503599627370496, rfl, ?_, Or.inl ?_⟩
      · have : (2 : Nat) ^ 53 = 9007199254740992 := by decide
        omega
      · omega
theorem u64_of {n : Nat} (h : n < 18446744073709551616) : (UInt64.ofNat n).toNat = n := by
  rw [UInt64.toNat_ofNat']
  exact Nat.mod_eq_of_lt h
theorem enc_small6 {s : Bool} {E t : Nat} (ht : t < 4503599627370496) (hE : E ≤ 2047) : (s.toNat * 2048 + E) * 4503599627370496 + t < 18446744073709551616 := by
  cases s
  · show (0 * 2048 + E) * 4503599627370496 + t < _; omega
  · show (1 * 2048 + E) * 4503599627370496 + t < _; omega
theorem nn_of6 {d : FP.Core.Datum} (h : okD6 d) : vf_n64 (UInt64.ofNat (FP.Core.encode FP.Core.b64 d)) := by
  obtain ⟨s, E, t, e, ht, hE⟩ := enc_of6 h
  unfold vf_n64
  rw [UInt64.le_iff_toNat_le, UInt64.toNat_and, e, u64_of (enc_small6 ht (by omega))]
  rw [show (9223372036854775807 : UInt64).toNat = 2 ^ 63 - 1 from rfl, Nat.and_two_pow_sub_one_eq_mod]
  show _ ≤ 9218868437227405312
  cases s
  · show ((0 * 2048 + E) * 4503599627370496 + t) % 2 ^ 63 ≤ _; omega
  · show ((1 * 2048 + E) * 4503599627370496 + t) % 2 ^ 63 ≤ _; omega
/-- a number goes through its encoding -/
theorem dec_nn_ok6 {d : FP.Core.Datum} (h : okD6 d) : FP.Core.decode FP.Core.b64 (UInt64.ofNat (FP.Core.encode FP.Core.b64 d)).toNat ≠ .nan := by
  obtain ⟨s, E, t, e, ht, hE⟩ := enc_of6 h
  rw [e, u64_of (enc_small6 ht (by omega))]
  unfold FP.Core.decode FP.Core.fieldE FP.Core.fieldT
  rw [b_exps6, b_tails6]
  have h1 : ((s.toNat * 2048 + E) * 4503599627370496 + t) / 4503599627370496 % 2048 = E := by
    cases s
    · show ((0 * 2048 + E) * 4503599627370496 + t) / 4503599627370496 % 2048 = E; omega
    · show ((1 * 2048 + E) * 4503599627370496 + t) / 4503599627370496 % 2048 = E; omega
  have h2 : ((s.toNat * 2048 + E) * 4503599627370496 + t) % 4503599627370496 = t := by
    cases s
    · show ((0 * 2048 + E) * 4503599627370496 + t) % 4503599627370496 = t; omega
    · show ((1 * 2048 + E) * 4503599627370496 + t) % 4503599627370496 = t; omega
  rw [h1, h2]
  split
  · rw [if_pos (by omega)]
    exact fun z => by cases z
  · split <;> exact fun z => by cases z
theorem dcmp_self {x : UInt64} (h : FP.Core.decode FP.Core.b64 x.toNat ≠ .nan) : FP.dcmp x x = some .eq := by
  show FP.Core.order (FP.Core.decode FP.Core.b64 x.toNat) (FP.Core.decode FP.Core.b64 x.toNat) = some .eq
  cases hd : FP.Core.decode FP.Core.b64 x.toNat with
  | nan => exact absurd hd h
  | inf s => show some (compare _ _) = _; simp [compare, compareOfLessAndEq]
  | fin s c q => show some (compare _ _) = _; simp [compare, compareOfLessAndEq]
theorem f2d_ok {x : UInt32} (h : FP.Core.decode FP.Core.b32 x.toNat ≠ .nan) : vf_n64 (FP.f2d x) ∧ FP.dcmp (FP.f2d x) (FP.f2d x) = some .eq := by
  have e : FP.f2d x = UInt64.ofNat (FP.Core.encode FP.Core.b64 (FP.Core.round FP.Core.b64 (FP.Core.decode FP.Core.b32 x.toNat))) := by
    show (if FP.Core.fIsNaN x = true then _ else FP.Core.f2d x) = _
    rw [if_neg (show ¬ FP.Core.fIsNaN x = true from fun z => h (of_decide_eq_true z))]
    rfl
  rw [e]
  exact ⟨nn_of6 (ok_rnd6 h), dcmp_self (dec_nn_ok6 (ok_rnd6 h))⟩
theorem oddsQ_nn {k : Nat} {O : Nat → UInt32} {x : Int32} (hk : k ≤ 10) (hO : OOK k O) : FP.Core.decode FP.Core.b32 (oddsQ k O x).toNat ≠ .nan := by
  by_cases hx : inB x k = true
  · obtain ⟨a, ha, rfl⟩ := inB_ex hx (by omega)
    rw [← oddsQ_in (O := O) ha (by omega)]
    obtain ⟨c, q, h, _⟩ := hO a ha
    rw [h]
    exact fun z => by cases z
  · have e : inB x k = false := by revert hx; cases inB x k <;> simp
    rw [← oddsQ_f e]
    decide +kernel
