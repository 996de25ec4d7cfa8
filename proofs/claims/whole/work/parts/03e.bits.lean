/-! the sum of the odds, their mean, and its bits -/
section BITS
theorem add_ok {x y : UInt32} {a b : Nat} (hx : vf1 x a b) (hy : vf1 y 1 20) (hb : b + 20 < 2 ^ 20) : vf1 (FP.fadd x y) (a + 1) (b + 20) ∧ vf_n32 (FP.fadd x y) := by
  obtain ⟨c, q, dx, q1, q2, c1, c2, l1, u1⟩ := hx
  obtain ⟨d, r, dy, r1, r2, d1, d2, l2, u2⟩ := hy
  refine ⟨?_, nn_add dx dy⟩
  have d0 : 0 < d := by
    refine Nat.pos_of_ne_zero (fun z => ?_)
    rw [z, Nat.zero_mul] at l2
    exact absurd l2 (by decide)
  obtain ⟨e, he⟩ : ∃ e : Int, e = min q r := ⟨_, rfl⟩
  obtain ⟨M, hM⟩ : ∃ M, M = c * 2 ^ (q - e).toNat + d * 2 ^ (r - e).toNat := ⟨_, rfl⟩
  have hM0 : 0 < M := by
    rw [hM]
    exact Nat.add_pos_right _ (Nat.mul_pos d0 (Nat.two_pow_pos _))
  have hs : FP.Core.exactSum (.fin false c q) (.fin false d r) = .fin false M e := by
    have hu : FP.Core.sumUnits false c q false d r e = (M : Int) := by
      unfold FP.Core.sumUnits FP.Core.signed FP.Core.inUnits
      rw [hM]
      exact (Int.natCast_add _ _).symm
    show FP.Core.Datum.fin (FP.Core.sumSign false false (FP.Core.sumUnits false c q false d r (min q r))) (FP.Core.sumUnits false c q false d r (min q r)).natAbs (min q r) = _
    rw [← he, hu, Int.natAbs_natCast]
    unfold FP.Core.sumSign
    rw [if_neg (by omega), decide_eq_false (by omega)]
  have hV : M * 2 ^ (e + 149).toNat = c * 2 ^ (q + 149).toNat + d * 2 ^ (r + 149).toNat := by
    rw [hM, Nat.add_mul, Nat.mul_assoc, Nat.mul_assoc, ← p2, ← p2, show (q - e).toNat + (e + 149).toNat = (q + 149).toNat by omega, show (r - e).toNat + (e + 149).toNat = (r + 149).toNat by omega]
  have hlt : M < 2 ^ 600 := by
    have h1 : M * 1 ≤ M * 2 ^ (e + 149).toNat := Nat.mul_le_mul_left _ (Nat.two_pow_pos _)
    have h2 : c * 2 ^ (q + 149).toNat ≤ 2 ^ 24 * 2 ^ 253 := Nat.mul_le_mul (Nat.le_of_lt c1) (Nat.pow_le_pow_right (by decide) (by omega))
    have h3 : d * 2 ^ (r + 149).toNat ≤ 2 ^ 24 * 2 ^ 253 := Nat.mul_le_mul (Nat.le_of_lt d1) (Nat.pow_le_pow_right (by decide) (by omega))
    have h4 : (2 : Nat) ^ 24 * 2 ^ 253 + 2 ^ 24 * 2 ^ 253 < 2 ^ 600 := by decide +kernel
    omega
  have hA : (2 : Nat) ^ (2000 - e).toNat = 2 ^ 149 * 2 ^ (1851 - e).toNat := by rw [← p2]; congr 1; omega
  have hB : (2 : Nat) ^ 2000 = 2 ^ (e + 149).toNat * 2 ^ (1851 - e).toNat := by rw [← p2]; congr 1; omega
  obtain ⟨c3, q3, e1, e2, e3, e4, e5, e6, e7⟩ := round_in (lo := a + 1) (hi := b + 20) (e := e) hM0 (show 0 < 1 by decide) hlt (by decide +kernel) (by omega) (by omega) hb
    (by
      rw [hA, hB, Nat.mul_one, ← Nat.mul_assoc, ← Nat.mul_assoc]
      refine Nat.mul_le_mul_right _ ?_
      rw [hV, Nat.add_mul]
      exact Nat.add_le_add l1 l2)
    (by
      rw [hA, hB, Nat.mul_one, ← Nat.mul_assoc, ← Nat.mul_assoc]
      refine Nat.mul_le_mul_right _ ?_
      rw [hV, Nat.add_mul]
      exact Nat.add_le_add u1 u2)
  have hf : FP.fadd x y = UInt32.ofNat (FP.Core.encode FP.Core.b32 (.fin false c3 q3)) := by
    show UInt32.ofNat (FP.Core.encode FP.Core.b32 (FP.Core.round FP.Core.b32 (FP.Core.exactSum (FP.Core.decode FP.Core.b32 x.toNat) (FP.Core.decode FP.Core.b32 y.toNat)))) = _
    rw [dx, dy, hs]
    show UInt32.ofNat (FP.Core.encode FP.Core.b32 (FP.Core.roundRatio FP.Core.b32 false M 1 e)) = _
    rw [e1]
  rw [hf]
  exact vf1_enc e2 e3 e4 e5 e6 e7
theorem so_ok {k : Nat} {O : Nat → UInt32} (hO : OOK k O) (hk : k ≤ 10) : ∀ i, i ≤ k → vf1 (so O i) i (20 * i)
  | 0, _ => (vfB_ok (by decide +kernel) : vf1 FP.fconst0 0 0)
  | i + 1, h => (add_ok (so_ok hO hk i (by omega)) (hO i (by omega)) (by omega)).1
theorem nan_so {k i : Nat} {O : Nat → UInt32} (hO : OOK k O) (hk : k ≤ 10) (hi : i < k) : vf_n32 (FP.fadd (so O i) (O i)) := (add_ok (so_ok hO hk i (by omega)) (hO i hi) (by omega)).2
theorem i2f_k : ∀ k, k < 11 → vfB (FP.i2f (nI k)) k k = true := by decide +kernel
theorem div_ok {x : UInt32} {k : Nat} (hx : vf1 x k (20 * k)) (h0 : 0 < k) (hk : k ≤ 10) : vf1 (FP.fdiv x (FP.i2f (nI k))) 1 20 ∧ vf_n32 (FP.fdiv x (FP.i2f (nI k))) := by
  obtain ⟨c, q, dx, q1, q2, c1, c2, l1, u1⟩ := hx
  obtain ⟨d, r, dy, r1, r2, d1, d2, l2, u2⟩ := vfB_ok (i2f_k k (by omega))
  have hk2 : 0 < k * 2 ^ 149 := Nat.mul_pos h0 (Nat.two_pow_pos _)
  have d0 : 0 < d := by
    refine Nat.pos_of_ne_zero (fun z => ?_)
    rw [z, Nat.zero_mul] at l2
    omega
  have c0 : 0 < c := by
    refine Nat.pos_of_ne_zero (fun z => ?_)
    rw [z, Nat.zero_mul] at l1
    omega
  refine ⟨?_, nn_div dx dy (by omega)⟩
  have ed : d * 2 ^ (r + 149).toNat = k * 2 ^ 149 := Nat.le_antisymm u2 l2
  have h24 : (2 : Nat) ^ 24 < 2 ^ 600 := by decide +kernel
  have hA : (2 : Nat) ^ (2000 - (q - r)).toNat = 2 ^ (r + 149).toNat * 2 ^ (1851 - q).toNat := by rw [← p2]; congr 1; omega
  have hB : (2 : Nat) ^ 2000 = 2 ^ (q + 149).toNat * 2 ^ (1851 - q).toNat := by rw [← p2]; congr 1; omega
  obtain ⟨c3, q3, e1, e2, e3, e4, e5, e6, e7⟩ := round_in (lo := 1) (hi := 20) (e := q - r) c0 d0 (Nat.lt_trans c1 h24) (Nat.lt_trans d1 h24) (by omega) (by omega) (by decide)
    (by
      rw [hA, hB, Nat.one_mul, ← Nat.mul_assoc, ← Nat.mul_assoc]
      refine Nat.mul_le_mul_right _ ?_
      rw [ed]
      exact l1)
    (by
      rw [hA, hB, Nat.mul_assoc 20, ← Nat.mul_assoc, ← Nat.mul_assoc d, ← Nat.mul_assoc 20]
      refine Nat.mul_le_mul_right _ ?_
      rw [ed]
      omega)
  have hf : FP.fdiv x (FP.i2f (nI k)) = UInt32.ofNat (FP.Core.encode FP.Core.b32 (.fin false c3 q3)) := by
    show UInt32.ofNat (FP.Core.encode FP.Core.b32 (FP.Core.quotient FP.Core.b32 (FP.Core.decode FP.Core.b32 x.toNat) (FP.Core.decode FP.Core.b32 (FP.i2f (nI k)).toNat))) = _
    rw [dx, dy]
    show UInt32.ofNat (FP.Core.encode FP.Core.b32 (if d = 0 then _ else FP.Core.roundRatio FP.Core.b32 false c d (q - r))) = _
    rw [if_neg (by omega), e1]
  rw [hf]
  exact vf1_enc e2 e3 e4 e5 e6 e7
theorem unitsI {num den : Nat} {e q : Int} (h1 : -1000 ≤ q - e) (h2 : q - e ≤ 1000) : FP.Core.unitsNum num e q * (den * 2 ^ (2000 + q - e).toNat) = num * 2 ^ 2000 * FP.Core.unitsDen den e q := by
  unfold FP.Core.unitsNum FP.Core.unitsDen
  rcases Int.le_total e q with h | h
  · obtain ⟨d, hd9⟩ : ∃ d : Nat, q = e + d := ⟨(q - e).toNat, by omega⟩
    rw [show (e - q).toNat = 0 by omega, show (q - e).toNat = d by omega, show (2000 + q - e).toNat = d + 2000 by omega, p2]
    rw [Nat.pow_zero, Nat.mul_one]
    simp only [Nat.mul_assoc, Nat.mul_left_comm, Nat.mul_comm]
  · obtain ⟨d, hd9⟩ : ∃ d : Nat, e = q + d := ⟨(e - q).toNat, by omega⟩
    rw [show (e - q).toNat = d by omega, show (q - e).toNat = 0 by omega, show (2000 + q - e).toNat = 2000 - d by omega]
    rw [Nat.pow_zero, Nat.mul_one, show (2 : Nat) ^ 2000 = 2 ^ d * 2 ^ (2000 - d) by rw [← p2]; congr 1; omega]
    simp only [Nat.mul_assoc, Nat.mul_left_comm, Nat.mul_comm]
/-- what the format has is not rounded -/
theorem round_eq {num den c : Nat} {e q : Int} (hd : 0 < den) (hn2 : num < 2 ^ 600) (hd2 : den < 2 ^ 600) (c1 : 2 ^ 23 ≤ c) (c2 : c < 2 ^ 24) (q1 : -149 ≤ q) (q2 : q ≤ 104) (e1 : -300 ≤ e) (e2 : e ≤ 300)
    (h : num * 2 ^ 2000 = c * den * 2 ^ (2000 + q - e).toNat) : FP.Core.roundRatio FP.Core.b32 false num den e = .fin false c q := by
  have c0 : 0 < c := Nat.lt_of_lt_of_le (Nat.two_pow_pos 23) c1
  have hn : 0 < num := by
    refine Nat.pos_of_ne_zero (fun z => ?_)
    rw [z, Nat.zero_mul] at h
    have := Nat.mul_pos (Nat.mul_pos c0 hd) (Nat.two_pow_pos (2000 + q - e).toNat)
    omega
  obtain ⟨L, hL, L1, L2, L3, L4⟩ := lead_ok hn hd hn2 hd2
  rw [h, Nat.mul_comm c den, Nat.mul_assoc] at L3 L4
  have L3 := Nat.le_of_mul_le_mul_left L3 hd
  have L4 := Nat.lt_of_mul_lt_mul_left L4
  have hLv : L = 23 + q - e := by
    have g1 : 2 ^ (2000 + L).toNat < 2 ^ (24 + (2000 + q - e).toNat) := by
      refine Nat.lt_of_le_of_lt L3 ?_
      rw [p2]
      exact Nat.mul_lt_mul_of_pos_right c2 (Nat.two_pow_pos _)
    have g2 : 2 ^ (23 + (2000 + q - e).toNat) < 2 ^ (2001 + L).toNat := by
      refine Nat.lt_of_le_of_lt ?_ L4
      rw [p2]
      exact Nat.mul_le_mul_right _ c1
    have g1 := (Nat.pow_lt_pow_iff_right (by decide)).mp g1
    have g2 := (Nat.pow_lt_pow_iff_right (by decide)).mp g2
    omega
  have hquant : FP.Core.quantum FP.Core.b32 num den e = q := by
    unfold FP.Core.quantum
    rw [b_qmin, hL, show ((FP.Core.b32.p : Nat) : Int) - 1 = 23 from rfl]
    omega
  have hI := unitsI (num := num) (den := den) (e := e) (q := q) (by omega) (by omega)
  have w0 : 0 < FP.Core.unitsDen den e q := Nat.mul_pos hd (Nat.two_pow_pos _)
  have hU : FP.Core.unitsNum num e q = c * FP.Core.unitsDen den e q := by
    refine Nat.eq_of_mul_eq_mul_right (Nat.mul_pos hd (Nat.two_pow_pos (2000 + q - e).toNat)) ?_
    rw [hI, h]
    simp only [Nat.mul_assoc, Nat.mul_left_comm, Nat.mul_comm]
  unfold FP.Core.roundRatio FP.Core.roundAt FP.Core.settle FP.Core.bound
  rw [if_neg (by omega), hquant, hU, near_eq w0, show (2 : Nat) ^ FP.Core.b32.p = 2 ^ 24 from rfl, b_qmax, if_pos c2, if_pos q2]
abbrev fHalf : UInt32 := 1056964608
theorem d_two : FP.Core.decode FP.Core.b32 (FP.fconst2 : UInt32).toNat = .fin false 8388608 (-22) := by decide +kernel
theorem d_half : FP.Core.decode FP.Core.b32 fHalf.toNat = .fin false 8388608 (-24) := by decide +kernel
theorem d_one : FP.Core.decode FP.Core.b32 (FP.fconst1 : UInt32).toNat = .fin false 8388608 (-23) := by decide +kernel
theorem d_big : FP.Core.decode FP.Core.b32 (1258291200 : UInt32).toNat = .fin false 8388608 0 := by decide +kernel
theorem lt600 {c : Nat} (h : c < 2 ^ 24) : c * 8388608 < 2 ^ 600 := by
  have : (2 : Nat) ^ 24 * 8388608 < 2 ^ 600 := by decide +kernel
  exact Nat.lt_of_le_of_lt (Nat.mul_le_mul_right _ (Nat.le_of_lt h)) this
/-- halving, by either way -/
theorem half_ok {x : UInt32} {c : Nat} {q : Int} (dx : FP.Core.decode FP.Core.b32 x.toNat = .fin false c q) (c1 : 2 ^ 23 ≤ c) (c2 : c < 2 ^ 24) (q1 : -148 ≤ q) (q2 : q ≤ 104) :
    FP.fdiv x FP.fconst2 = FP.fmul x fHalf ∧ FP.Core.decode FP.Core.b32 (FP.fmul x fHalf).toNat = .fin false c (q - 1) ∧ vf_n32 (FP.fmul x fHalf) := by
  have m1 : FP.fmul x fHalf = UInt32.ofNat (FP.Core.encode FP.Core.b32 (.fin false c (q - 1))) := by
    show UInt32.ofNat (FP.Core.encode FP.Core.b32 (FP.Core.round FP.Core.b32 (FP.Core.exactProduct (FP.Core.decode FP.Core.b32 x.toNat) (FP.Core.decode FP.Core.b32 fHalf.toNat)))) = _
    rw [dx, d_half]
    show UInt32.ofNat (FP.Core.encode FP.Core.b32 (FP.Core.roundRatio FP.Core.b32 false (c * 8388608) 1 (q + -24))) = _
    rw [round_eq (c := c) (q := q - 1) (by decide) (lt600 c2) (by decide +kernel) c1 c2 (by omega) (by omega) (by omega) (by omega)]
    rw [show (2000 + (q - 1) - (q + -24)).toNat = 23 + 2000 by omega, p2, Nat.mul_one, ← Nat.mul_assoc]
  have m2 : FP.fdiv x FP.fconst2 = UInt32.ofNat (FP.Core.encode FP.Core.b32 (.fin false c (q - 1))) := by
    show UInt32.ofNat (FP.Core.encode FP.Core.b32 (FP.Core.quotient FP.Core.b32 (FP.Core.decode FP.Core.b32 x.toNat) (FP.Core.decode FP.Core.b32 (FP.fconst2 : UInt32).toNat))) = _
    rw [dx, d_two]
    show UInt32.ofNat (FP.Core.encode FP.Core.b32 (FP.Core.roundRatio FP.Core.b32 false c 8388608 (q - -22))) = _
    rw [round_eq (c := c) (q := q - 1) (by decide) (Nat.lt_trans c2 (by decide +kernel)) (by decide +kernel) c1 c2 (by omega) (by omega) (by omega) (by omega)]
    rw [show (2000 + (q - 1) - (q - -22)).toNat = 1977 by omega, Nat.mul_assoc]
    have e2 : (2 : Nat) ^ 23 = 8388608 := by decide
    rw [← e2, ← p2]
  refine ⟨m2.trans m1.symm, ?_, ?_⟩
  · rw [m1]
    exact dec_enc c2 (by omega) (by omega) (Or.inr c1)
  · rw [m1]
    exact nn_of (Or.inr ⟨false, c, q - 1, rfl, c2, by omega, by omega⟩)
theorem f2i_fin {x : UInt32} {c m j : Nat} (dx : FP.Core.decode FP.Core.b32 x.toNat = .fin false c (-(j : Int))) (h : c = m * 2 ^ j) (hm : m < 2 ^ 23) : FP.f2i x = nI m := by
  show FP.Core.toI (FP.Core.decode FP.Core.b32 x.toNat) = _
  rw [dx]
  have e : FP.Core.truncate false c (-(j : Int)) = (m : Int) := by
    show ((c * 2 ^ (-(j : Int)).toNat / 2 ^ (- -(j : Int)).toNat : Nat) : Int) = _
    rw [show (-(j : Int)).toNat = 0 by omega, show (- -(j : Int)).toNat = j by omega, Nat.pow_zero, Nat.mul_one, h, Nat.mul_div_cancel _ (Nat.two_pow_pos j)]
  show Int32.ofInt (max (-2 ^ 31) (min (2 ^ 31 - 1) (FP.Core.truncate false c (-(j : Int))))) = _
  rw [e, show (max (-2 ^ 31) (min (2 ^ 31 - 1) (m : Int)) : Int) = (m : Int) by
    have h2 : (2 : Nat) ^ 23 = 8388608 := by decide
    rw [h2] at hm
    omega]
  exact Int32.ofInt_eq_ofNat
/-- the fraction of a number from 1 to 2 -/
theorem frac_ok {x : UInt32} {c : Nat} (dx : FP.Core.decode FP.Core.b32 x.toNat = .fin false c (-23)) (c1 : 2 ^ 23 ≤ c) (c2 : c < 2 ^ 24) :
    vf_n32 (FP.fsub x FP.fconst1) ∧ vf_n32 (FP.fmul (FP.fsub x FP.fconst1) 1258291200) ∧ FP.f2i (FP.fmul (FP.fsub x FP.fconst1) 1258291200) = nI (c - 2 ^ 23) := by
  obtain ⟨m, hm⟩ : ∃ m, m = c - 2 ^ 23 := ⟨_, rfl⟩
  have h23 : (2 : Nat) ^ 23 = 8388608 := by decide
  have h24 : (2 : Nat) ^ 24 = 16777216 := by decide
  have hs : FP.fsub x FP.fconst1 = UInt32.ofNat (FP.Core.encode FP.Core.b32 (FP.Core.roundRatio FP.Core.b32 false m 1 (-23))) := by
    show UInt32.ofNat (FP.Core.encode FP.Core.b32 (FP.Core.round FP.Core.b32 (FP.Core.exactSum (FP.Core.decode FP.Core.b32 x.toNat) (FP.Core.negate (FP.Core.decode FP.Core.b32 (FP.fconst1 : UInt32).toNat))))) = _
    rw [dx, d_one]
    have hu : FP.Core.sumUnits false c (-23) true 8388608 (-23) (min (-23) (-23)) = (m : Int) := by
      show ((c * 2 ^ 0 : Nat) : Int) + -((8388608 * 2 ^ 0 : Nat) : Int) = _
      rw [hm]
      omega
    show UInt32.ofNat (FP.Core.encode FP.Core.b32 (FP.Core.round FP.Core.b32 (.fin (FP.Core.sumSign false true (FP.Core.sumUnits false c (-23) true 8388608 (-23) (min (-23) (-23)))) (FP.Core.sumUnits false c (-23) true 8388608 (-23) (min (-23) (-23))).natAbs (min (-23) (-23))))) = _
    rw [hu, Int.natAbs_natCast]
    have hsg : FP.Core.sumSign false true (m : Int) = false := by
      unfold FP.Core.sumSign
      split
      · rfl
      · exact decide_eq_false (by omega)
    rw [hsg]
    rfl
  have ds : ∃ (c' j : Nat), FP.Core.decode FP.Core.b32 (FP.fsub x FP.fconst1).toNat = .fin false c' (-23 - (j : Int)) ∧ c' = m * 2 ^ j ∧ (m = 0 ∨ (2 ^ 23 ≤ c' ∧ c' < 2 ^ 24)) ∧ j ≤ 126 := by
    rw [hs]
    by_cases z : m = 0
    · refine ⟨0, 126, ?_, by rw [z, Nat.zero_mul], Or.inl z, by decide⟩
      unfold FP.Core.roundRatio
      rw [if_pos z, b_qmin]
      decide +kernel
    · have lg : m.log2 < 23 := (Nat.log2_lt z).mpr (by omega)
      have g1 : 2 ^ m.log2 ≤ m := Nat.log2_self_le z
      have g2 : m < 2 ^ (m.log2 + 1) := Nat.lt_log2_self
      obtain ⟨j, hj⟩ : ∃ j, j = 23 - m.log2 := ⟨_, rfl⟩
      have k1 : 2 ^ 23 ≤ m * 2 ^ j := by
        rw [show 23 = m.log2 + j by omega, p2]
        exact Nat.mul_le_mul_right _ g1
      have k2 : m * 2 ^ j < 2 ^ 24 := by
        rw [show 24 = m.log2 + 1 + j by omega, p2]
        exact Nat.mul_lt_mul_of_pos_right g2 (Nat.two_pow_pos _)
      refine ⟨m * 2 ^ j, j, ?_, rfl, Or.inr ⟨k1, k2⟩, by omega⟩
      rw [round_eq (c := m * 2 ^ j) (q := -23 - (j : Int)) (by decide) (Nat.lt_trans (show m < 2 ^ 24 by omega) (by decide +kernel)) (by decide +kernel) k1 k2 (by omega) (by omega) (by omega) (by omega)
        (by rw [show (2000 + (-23 - (j : Int)) - -23).toNat = 2000 - j by omega, Nat.mul_one, Nat.mul_assoc, ← p2]; congr 2; omega)]
      exact dec_enc k2 (by omega) (by omega) (Or.inr k1)
  obtain ⟨c', j, d1, hc', hz, hj⟩ := ds
  refine ⟨?_, ?_, ?_⟩
  · rw [hs]
    exact nn_of ok_round
  · exact nn_mul (by rw [d1]; exact fun z => by cases z) d_big (by decide)
  · have hp : FP.fmul (FP.fsub x FP.fconst1) 1258291200 = UInt32.ofNat (FP.Core.encode FP.Core.b32 (FP.Core.roundRatio FP.Core.b32 false (c' * 8388608) 1 (-23 - (j : Int)))) := by
      show UInt32.ofNat (FP.Core.encode FP.Core.b32 (FP.Core.round FP.Core.b32 (FP.Core.exactProduct (FP.Core.decode FP.Core.b32 (FP.fsub x FP.fconst1).toNat) (FP.Core.decode FP.Core.b32 (1258291200 : UInt32).toNat)))) = _
      rw [d1, d_big]
      show UInt32.ofNat (FP.Core.encode FP.Core.b32 (FP.Core.roundRatio FP.Core.b32 false (c' * 8388608) 1 (-23 - (j : Int) + 0))) = _
      rw [Int.add_zero]
    rw [hp, ← hm]
    rcases hz with z | ⟨k1, k2⟩
    · rw [hc', z, Nat.zero_mul, Nat.zero_mul]
      unfold FP.Core.roundRatio
      rw [if_pos rfl, b_qmin]
      decide +kernel
    · rw [round_eq (c := c') (q := -(j : Int)) (by decide) (lt600 k2) (by decide +kernel) k1 k2 (by omega) (by omega) (by omega) (by omega)
        (by rw [show (2000 + -(j : Int) - (-23 - (j : Int))).toNat = 23 + 2000 by omega, p2, Nat.mul_one, ← Nat.mul_assoc])]
      exact f2i_fin (dec_enc k2 (by omega) (by omega) (Or.inr k1)) hc' (by omega)
-- the loop of halvings
def hv (x : UInt32) : Nat → UInt32
  | 0 => x
  | i + 1 => FP.fmul (hv x i) fHalf
def pw (x : UInt32) : Nat := match FP.Core.decode FP.Core.b32 x.toNat with
  | .fin _ _ q => (q + 23).toNat
  | _ => 0
def mt (x : UInt32) : Nat := match FP.Core.decode FP.Core.b32 x.toNat with
  | .fin _ c _ => c
  | _ => 0
def bitsF (x : UInt32) : Int32 := nI ((127 + pw x) * 8388608 + (mt x - 8388608))
theorem vf1_nm {x : UInt32} (h : vf1 x 1 20) : FP.Core.decode FP.Core.b32 x.toNat = .fin false (mt x) ((pw x : Int) - 23) ∧ 2 ^ 23 ≤ mt x ∧ mt x < 2 ^ 24 ∧ pw x ≤ 4 := by
  obtain ⟨c, q, dx, q1, q2, c1, c2, l1, u1⟩ := h
  have e1 : mt x = c := by unfold mt; rw [dx]
  have e2 : pw x = (q + 23).toNat := by unfold pw; rw [dx]
  -- from the lower bound the exponent is at least -23
  have g1 : -23 ≤ q := by
    have h2 : (2 : Nat) ^ 149 < 2 ^ (24 + (q + 149).toNat) := by
      rw [p2]
      rw [Nat.one_mul] at l1
      exact Nat.lt_of_le_of_lt l1 (Nat.mul_lt_mul_of_pos_right c1 (Nat.two_pow_pos _))
    have h3 := (Nat.pow_lt_pow_iff_right (by decide)).mp h2
    omega
  have c3 : 2 ^ 23 ≤ c := by
    rcases c2 with h | h
    · omega
    · exact h
  have g2 : q ≤ -19 := by
    have h2 : (2 : Nat) ^ (23 + (q + 149).toNat) < 2 ^ (5 + 149) := by
      rw [p2, p2]
      refine Nat.lt_of_le_of_lt (Nat.le_trans (Nat.mul_le_mul_right _ c3) u1) ?_
      exact Nat.mul_lt_mul_of_pos_right (by decide) (Nat.two_pow_pos _)
    have h3 := (Nat.pow_lt_pow_iff_right (by decide)).mp h2
    omega
  rw [e1, e2]
  exact ⟨by rw [dx, show (((q + 23).toNat : Nat) : Int) - 23 = q by omega], c3, c1, by omega⟩
theorem hv_ok {x : UInt32} (h : vf1 x 1 20) : ∀ i, i ≤ pw x → FP.Core.decode FP.Core.b32 (hv x i).toNat = .fin false (mt x) ((pw x : Int) - i - 23)
  | 0, _ => by
    rw [show ((pw x : Int) - ((0 : Nat) : Int) - 23) = (pw x : Int) - 23 by omega]
    exact (vf1_nm h).1
  | i + 1, hi => by
    obtain ⟨-, g1, g2, g3⟩ := vf1_nm h
    have := (half_ok (hv_ok h i (by omega)) g1 g2 (by omega) (by omega)).2.1
    show FP.Core.decode FP.Core.b32 (FP.fmul (hv x i) fHalf).toNat = _
    rw [this]
    congr 1
    omega
theorem hv_s {x : UInt32} (h : vf1 x 1 20) {i : Nat} (hi : i < pw x) : FP.fdiv (hv x i) FP.fconst2 = hv x (i + 1) ∧ vf_n32 (FP.fdiv (hv x i) FP.fconst2) ∧ vf_n32 (FP.fmul (hv x i) fHalf) := by
  obtain ⟨-, g1, g2, g3⟩ := vf1_nm h
  obtain ⟨h1, -, h3⟩ := half_ok (hv_ok h i (by omega)) g1 g2 (by omega) (by omega)
  exact ⟨h1, by rw [h1]; exact h3, h3⟩
theorem hv_cmp {x : UInt32} (h : vf1 x 1 20) {i : Nat} (hi : i ≤ pw x) : Op.cmpValue (FP.fcmp (hv x i) FP.fconst2) CmpOp.l < 0 ↔ i = pw x := by
  obtain ⟨-, g1, g2, g3⟩ := vf1_nm h
  have h23 : (2 : Nat) ^ 23 = 8388608 := by decide
  have h24 : (2 : Nat) ^ 24 = 16777216 := by decide
  have hd := hv_ok h i hi
  show Op.cmpValue (FP.Core.order (FP.Core.decode FP.Core.b32 (hv x i).toNat) (FP.Core.decode FP.Core.b32 (FP.fconst2 : UInt32).toNat)) CmpOp.l < 0 ↔ _
  rw [hd, d_two]
  show Op.cmpValue (some (compare (((mt x * 2 ^ ((pw x : Int) - i - 23 - min ((pw x : Int) - i - 23) (-22)).toNat : Nat) : Int)) (((8388608 * 2 ^ ((-22 : Int) - min ((pw x : Int) - i - 23) (-22)).toNat : Nat) : Int)))) CmpOp.l < 0 ↔ _
  by_cases z : i = pw x
  · rw [show ((pw x : Int) - i - 23 - min ((pw x : Int) - i - 23) (-22)).toNat = 0 by omega, show ((-22 : Int) - min ((pw x : Int) - i - 23) (-22)).toNat = 1 by omega]
    rw [show compare ((mt x * 2 ^ 0 : Nat) : Int) ((8388608 * 2 ^ 1 : Nat) : Int) = .lt from Int.compare_eq_lt.mpr (by omega)]
    exact ⟨fun _ => z, fun _ => by decide +kernel⟩
  · obtain ⟨t, ht⟩ : ∃ t, t = ((pw x : Int) - i - 23 - min ((pw x : Int) - i - 23) (-22)).toNat := ⟨_, rfl⟩
    rw [← ht, show ((-22 : Int) - min ((pw x : Int) - i - 23) (-22)).toNat = 0 by omega]
    have hge : 8388608 * 2 ^ 0 ≤ mt x * 2 ^ t := Nat.mul_le_mul (by omega) (Nat.pow_le_pow_right (by decide) (Nat.zero_le _))
    refine ⟨fun q => ?_, fun q => absurd q z⟩
    exfalso
    cases hc : compare ((mt x * 2 ^ t : Nat) : Int) ((8388608 * 2 ^ 0 : Nat) : Int) with
    | lt =>
      have := Int.compare_eq_lt.mp hc
      omega
    | eq => rw [hc] at q; exact absurd q (by decide +kernel)
    | gt => rw [hc] at q; exact absurd q (by decide +kernel)
theorem hv_fr {x : UInt32} (h : vf1 x 1 20) : vf_n32 (FP.fsub (hv x (pw x)) FP.fconst1) ∧ vf_n32 (FP.fmul (FP.fsub (hv x (pw x)) FP.fconst1) 1258291200) ∧ FP.f2i (FP.fmul (FP.fsub (hv x (pw x)) FP.fconst1) 1258291200) = nI (mt x - 2 ^ 23) := by
  obtain ⟨-, g1, g2, g3⟩ := vf1_nm h
  exact frac_ok (by rw [hv_ok h _ (Nat.le_refl _)]; congr 1; omega) g1 g2
theorem bits_or {a m : Nat} (hm : m < 2 ^ 23) : (nI a <<< (nI 23 &&& 31)) ||| nI m = nI (a * 8388608 + m) := by
  have hs : ((nI 23 &&& 31).toBitVec.smod 32).toNat = 23 := by decide +kernel
  have e : nI a <<< (nI 23 &&& 31) = nI (a * 2 ^ 23) := by
    apply Int32.toBitVec_inj.mp
    apply BitVec.eq_of_toNat_eq
    rw [pk_shl _ _ 23 hs]
    show (BitVec.ofNat 32 a).toNat * 2 ^ 23 % 2 ^ 32 = (BitVec.ofNat 32 (a * 2 ^ 23)).toNat
    rw [BitVec.toNat_ofNat, BitVec.toNat_ofNat, Nat.mod_mul_mod]
  rw [e, nI_or]
  congr 1
  rw [show a * 2 ^ 23 = a <<< 23 from (Nat.shiftLeft_eq a 23).symm, ← Nat.shiftLeft_add_eq_or_of_lt hm, Nat.shiftLeft_eq]
end BITS
