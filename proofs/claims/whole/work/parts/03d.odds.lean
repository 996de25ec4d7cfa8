/-! small sums; the odds; words for the reference's own ways -/
section ODDS
theorem sm_small {n L : Nat} {N : Nat → Int32} (hn : n = 3 ∨ n = 4) (hN1 : NOK n N) (hL : L < 2 * n + 2) : ∀ k, k ≤ n → ∃ v, v ≤ 16 * k ∧ sm n N L k = nI v
  | 0, _ => ⟨0, Nat.le_refl 0, rfl⟩
  | k + 1, h => by
    obtain ⟨v, h1, h2⟩ := sm_small hn hN1 hL k (by omega)
    obtain ⟨h3, h4⟩ := hN1 (cel n L k) (cel_lt hn hL (by omega))
    refine ⟨v + (N (cel n L k)).toNatClampNeg, by omega, ?_⟩
    show sm n N L k + N (cel n L k) = _
    rw [h2, h3, nI_add]
    rw [nI_clamp (by omega)]
theorem sL_small {n L : Nat} {N : Nat → Int32} (hn : n = 3 ∨ n = 4) (hN1 : NOK n N) (hL : L < 2 * n + 2) : ∃ v, v ≤ 64 ∧ sL n N L = nI v := by
  obtain ⟨v, h1, h2⟩ := sm_small hn hN1 hL n (Nat.le_refl n)
  exact ⟨v, by omega, h2⟩
theorem mgN_le {n : Nat} (hn : n = 3 ∨ n = 4) : mgN n ≤ 34 := by rcases hn with rfl | rfl <;> decide
theorem dfL_small {n L : Nat} {N : Nat → Int32} (hn : n = 3 ∨ n = 4) (hN1 : NOK n N) (hL : L < 2 * n + 2) : ∃ d, d < 65 ∧ dfL n N L = nI d := by
  obtain ⟨v, h1, h2⟩ := sL_small hn hN1 hL
  have hm := mgN_le hn
  unfold dfL
  rw [h2]
  rcases Nat.le_total (mgN n) v with h | h
  · rw [pk_sub h]
    refine ⟨v - mgN n, by omega, ?_⟩
    unfold iabs
    rw [if_pos (nI_pos' (by omega))]
  · refine ⟨mgN n - v, by omega, ?_⟩
    have e : nI v - nI (mgN n) = 0 - nI (mgN n - v) := by
      rw [← pk_sub h]
      simp
    by_cases z : mgN n - v = 0
    · rw [e, z]
      rfl
    · rw [e]
      unfold iabs
      rw [if_neg]
      · simp
      · rw [le_toInt]
        have h3 : (0 - nI (mgN n - v)).toInt = (0 : Int) - ((mgN n - v : Nat) : Int) := by
          have := pk_sub_toInt (a := 0) (b := mgN n - v) (by decide) (by omega)
          exact this
        rw [h3, zero_toInt]
        omega
def nB (r : UInt32) : Bool := decide (r &&& 0x7fffffff ≤ 0x7f800000)
theorem nB_ok {r : UInt32} (h : nB r = true) : vf_n32 r := by
  show r &&& 0x7fffffff ≤ 0x7f800000
  exact of_decide_eq_true h
def vfB (x : UInt32) (lo hi : Nat) : Bool := match FP.Core.decode FP.Core.b32 x.toNat with
  | .fin false c q => decide (-149 ≤ q) && (decide (q ≤ 104) && (decide (c < 2 ^ 24) && ((decide (q = -149) || decide (2 ^ 23 ≤ c)) && (decide (lo * 2 ^ 149 ≤ c * 2 ^ (q + 149).toNat) && decide (c * 2 ^ (q + 149).toNat ≤ hi * 2 ^ 149)))))
  | _ => false
theorem vfB_ok {x : UInt32} {lo hi : Nat} (h : vfB x lo hi = true) : vf1 x lo hi := by
  unfold vfB at h
  split at h
  · rename_i c q e
    simp only [Bool.and_eq_true, Bool.or_eq_true, decide_eq_true_eq] at h
    exact ⟨c, q, e, h.1, h.2.1, h.2.2.1, h.2.2.2.1, h.2.2.2.2.1, h.2.2.2.2.2⟩
  · cases h
theorem i2f_4 : FP.i2f (nI 4) = 1082130432 := by decide +kernel
theorem od4 : ∀ d, d < 65 → nB (FP.fdiv (FP.i2f (nI d)) (FP.i2f (nI 4))) = true ∧ nB (odf (nI d) (nI 4)) = true ∧ vfB (odf (nI d) (nI 4)) 1 20 = true := by decide +kernel
theorem od8 : ∀ d, d < 9 → nB (FP.fdiv (FP.i2f (nI d)) (FP.i2f (nI (2 * 3 + 2)))) = true ∧ nB (odf (nI d) (nI (2 * 3 + 2))) = true ∧ vfB (odf (nI d) (nI (2 * 3 + 2))) 1 20 = true := by decide +kernel
theorem od10 : ∀ d, d < 11 → nB (FP.fdiv (FP.i2f (nI d)) (FP.i2f (nI (2 * 4 + 2)))) = true ∧ nB (odf (nI d) (nI (2 * 4 + 2))) = true ∧ vfB (odf (nI d) (nI (2 * 4 + 2))) 1 20 = true := by decide +kernel
/-- the odds of a stake, by what it is laid on -/
def odOK (o u : Int32) : Prop := vf_n32 (FP.fdiv (FP.i2f o) (FP.i2f u)) ∧ vf_n32 (odf o u) ∧ vf1 (odf o u) 1 20
theorem odOK_m {n L : Nat} {N : Nat → Int32} (hn : n = 3 ∨ n = 4) (hN1 : NOK n N) (hL : L < 2 * n + 2) : odOK (dfL n N L) (nI 4) := by
  obtain ⟨d, h1, h2⟩ := dfL_small hn hN1 hL
  rw [h2]
  obtain ⟨a1, a2, a3⟩ := od4 d h1
  exact ⟨nB_ok a1, nB_ok a2, vfB_ok a3⟩
theorem odOK_l {n : Nat} {N : Nat → Int32} (hn : n = 3 ∨ n = 4) : odOK (nI (mcn n N)) (nI (2 * n + 2)) := by
  have hm : mcn n N ≤ 2 * n + 2 := mc_le n N _
  rcases hn with rfl | rfl
  · obtain ⟨a1, a2, a3⟩ := od8 (mcn 3 N) (by omega)
    exact ⟨nB_ok a1, nB_ok a2, vfB_ok a3⟩
  · obtain ⟨a1, a2, a3⟩ := od10 (mcn 4 N) (by omega)
    exact ⟨nB_ok a1, nB_ok a2, vfB_ok a3⟩
theorem odOK_of {n L : Nat} {N : Nat → Int32} {kd : Int32} (hn : n = 3 ∨ n = 4) (hN1 : NOK n N) (hL : L < 2 * n + 2) : odOK (ovr n N L kd) (und n kd) := by
  unfold ovr und
  by_cases h : kd = nI 0
  · rw [if_pos h, if_pos h]
    exact odOK_m hn hN1 hL
  · rw [if_neg h, if_neg h]
    exact odOK_l hn
theorem odf_4 (x : Int32) : FP.fadd FP.fconst1 (FP.fdiv (FP.i2f x) 1082130432) = odf x (nI 4) := by unfold odf; rw [i2f_4]
theorem nan_od1 {n L : Nat} {N : Nat → Int32} (hn : n = 3 ∨ n = 4) (hN1 : NOK n N) (hL : L < 2 * n + 2) : vf_n32 (FP.fdiv (FP.i2f (dfL n N L)) 1082130432) := by
  rw [← i2f_4]
  exact (odOK_m hn hN1 hL).1
theorem nan_od2 {n L : Nat} {N : Nat → Int32} (hn : n = 3 ∨ n = 4) (hN1 : NOK n N) (hL : L < 2 * n + 2) : vf_n32 (FP.fadd FP.fconst1 (FP.fdiv (FP.i2f (dfL n N L)) 1082130432)) := by
  rw [← i2f_4]
  exact (odOK_m hn hN1 hL).2.1
theorem nan_od3 {n : Nat} {N : Nat → Int32} (hn : n = 3 ∨ n = 4) : vf_n32 (FP.fdiv (FP.i2f (nI (mcn n N))) (FP.i2f (nI (2 * n + 2)))) := (odOK_l hn).1
theorem nan_od4 {n : Nat} {N : Nat → Int32} (hn : n = 3 ∨ n = 4) : vf_n32 (FP.fadd FP.fconst1 (FP.fdiv (FP.i2f (nI (mcn n N))) (FP.i2f (nI (2 * n + 2))))) := (odOK_l hn).2.1
/-- rounding keeps between whole bounds -/
theorem round_in {num den lo hi : Nat} {e : Int} (hn : 0 < num) (hd : 0 < den) (hn2 : num < 2 ^ 600) (hd2 : den < 2 ^ 600) (he1 : -300 ≤ e) (he2 : e ≤ 300) (hhi : hi < 2 ^ 20)
    (h1 : lo * den * 2 ^ (2000 - e).toNat ≤ num * 2 ^ 2000) (h2 : num * 2 ^ 2000 ≤ hi * den * 2 ^ (2000 - e).toNat) :
    ∃ (c : Nat) (q : Int), FP.Core.roundRatio FP.Core.b32 false num den e = .fin false c q ∧ c < 2 ^ 24 ∧ -149 ≤ q ∧ q ≤ 104 ∧ (q = -149 ∨ 2 ^ 23 ≤ c) ∧ lo * 2 ^ 149 ≤ c * 2 ^ (q + 149).toNat ∧ c * 2 ^ (q + 149).toNat ≤ hi * 2 ^ 149 := by
  obtain ⟨L, hL, L1, L2, L3, L4⟩ := lead_ok hn hd hn2 hd2
  -- the exponent of the leading digit is below 20
  have hLe : L + e < 20 := by
    have h3 : den * 2 ^ (2000 + L).toNat < den * (2 ^ 20 * 2 ^ (2000 - e).toNat) := by
      refine Nat.lt_of_le_of_lt (Nat.le_trans L3 h2) ?_
      rw [Nat.mul_comm hi den, Nat.mul_assoc]
      exact Nat.mul_lt_mul_of_pos_left (Nat.mul_lt_mul_of_pos_right hhi (Nat.two_pow_pos _)) hd
    have h4 := Nat.lt_of_mul_lt_mul_left h3
    rw [← p2] at h4
    have h5 := (Nat.pow_lt_pow_iff_right (by decide)).mp h4
    omega
  obtain ⟨q, hq⟩ : ∃ q : Int, q = max (-149) (L + e - 23) := ⟨_, rfl⟩
  have q1 : -149 ≤ q := by omega
  have q2 : q ≤ -4 := by omega
  have q3 : L + e - 23 ≤ q := by omega
  have q4 : q = -149 ∨ q = L + e - 23 := by omega
  have hquant : FP.Core.quantum FP.Core.b32 num den e = q := by
    unfold FP.Core.quantum
    rw [b_qmin, hL, show ((FP.Core.b32.p : Nat) : Int) - 1 = 23 from rfl]
    exact hq.symm
  obtain ⟨U, hU⟩ : ∃ U, U = FP.Core.unitsNum num e q := ⟨_, rfl⟩
  obtain ⟨w, hw⟩ : ∃ w, w = FP.Core.unitsDen den e q := ⟨_, rfl⟩
  have w0 : 0 < w := by rw [hw]; exact Nat.mul_pos hd (Nat.two_pow_pos _)
  -- U / w = num / den * 2 ^ (e - q)
  have hI : U * (den * 2 ^ (2000 + q - e).toNat) = num * 2 ^ 2000 * w := by
    rw [hU, hw]
    unfold FP.Core.unitsNum FP.Core.unitsDen
    rcases Int.le_total e q with h | h
    · obtain ⟨d, hd9⟩ : ∃ d : Nat, q = e + d := ⟨(q - e).toNat, by omega⟩
      rw [show (e - q).toNat = 0 by omega, show (q - e).toNat = d by omega, show (2000 + q - e).toNat = d + 2000 by omega, p2]
      rw [Nat.pow_zero, Nat.mul_one]
      simp only [Nat.mul_assoc, Nat.mul_left_comm, Nat.mul_comm]
    · obtain ⟨d, hd9⟩ : ∃ d : Nat, e = q + d := ⟨(e - q).toNat, by omega⟩
      rw [show (e - q).toNat = d by omega, show (q - e).toNat = 0 by omega, show (2000 + q - e).toNat = 2000 - d by omega]
      rw [Nat.pow_zero, Nat.mul_one, show (2 : Nat) ^ 2000 = 2 ^ d * 2 ^ (2000 - d) by rw [← p2]; congr 1; omega]
      simp only [Nat.mul_assoc, Nat.mul_left_comm, Nat.mul_comm]
  have z0 : 0 < den * 2 ^ (2000 + q - e).toNat := Nat.mul_pos hd (Nat.two_pow_pos _)
  have c1 : U ≤ 2 ^ 24 * w := by
    refine Nat.le_of_mul_le_mul_right ?_ z0
    rw [hI, Nat.mul_comm (num * 2 ^ 2000), Nat.mul_comm (2 ^ 24), Nat.mul_assoc]
    refine Nat.mul_le_mul_left _ (Nat.le_trans (Nat.le_of_lt L4) ?_)
    rw [Nat.mul_left_comm, ← p2]
    exact Nat.mul_le_mul_left _ (Nat.pow_le_pow_right (by decide) (by omega))
  have c2 : q = -149 ∨ 2 ^ 23 * w ≤ U := by
    rcases q4 with h | h
    · exact Or.inl h
    · refine Or.inr (Nat.le_of_mul_le_mul_right ?_ z0)
      rw [hI, Nat.mul_comm (num * 2 ^ 2000), Nat.mul_comm (2 ^ 23), Nat.mul_assoc]
      refine Nat.mul_le_mul_left _ (Nat.le_trans ?_ L3)
      rw [Nat.mul_left_comm, ← p2]
      exact Nat.mul_le_mul_left _ (Nat.pow_le_pow_right (by decide) (by omega))
  have c3 : lo * 2 ^ (-q).toNat * w ≤ U := by
    refine Nat.le_of_mul_le_mul_right ?_ z0
    rw [hI, Nat.mul_comm (num * 2 ^ 2000), Nat.mul_comm (lo * 2 ^ (-q).toNat), Nat.mul_assoc]
    refine Nat.mul_le_mul_left _ (Nat.le_trans ?_ h1)
    rw [Nat.mul_assoc, Nat.mul_assoc, Nat.mul_left_comm (2 ^ (-q).toNat), ← p2]
    exact Nat.mul_le_mul_left _ (Nat.mul_le_mul_left _ (Nat.pow_le_pow_right (by decide) (by omega)))
  have c4 : U ≤ hi * 2 ^ (-q).toNat * w := by
    refine Nat.le_of_mul_le_mul_right ?_ z0
    rw [hI, Nat.mul_comm (num * 2 ^ 2000), Nat.mul_comm (hi * 2 ^ (-q).toNat), Nat.mul_assoc]
    refine Nat.mul_le_mul_left _ (Nat.le_trans h2 ?_)
    rw [Nat.mul_assoc, Nat.mul_assoc, Nat.mul_left_comm (2 ^ (-q).toNat), ← p2]
    exact Nat.mul_le_mul_left _ (Nat.mul_le_mul_left _ (Nat.pow_le_pow_right (by decide) (by omega)))
  obtain ⟨c, hc⟩ : ∃ c, c = FP.Core.nearest U w := ⟨_, rfl⟩
  have n1 : c ≤ 2 ^ 24 := by rw [hc]; exact near_le w0 c1
  have n2 : q = -149 ∨ 2 ^ 23 ≤ c := c2.imp id (fun h => by rw [hc]; exact near_ge w0 h)
  have n3 : lo * 2 ^ (-q).toNat ≤ c := by rw [hc]; exact near_ge w0 c3
  have n4 : c ≤ hi * 2 ^ (-q).toNat := by rw [hc]; exact near_le w0 c4
  have hsp : (2 : Nat) ^ 149 = 2 ^ (-q).toNat * 2 ^ (q + 149).toNat := by rw [← p2]; congr 1; omega
  have m3 : lo * 2 ^ 149 ≤ c * 2 ^ (q + 149).toNat := by
    rw [hsp, ← Nat.mul_assoc]
    exact Nat.mul_le_mul_right _ n3
  have m4 : c * 2 ^ (q + 149).toNat ≤ hi * 2 ^ 149 := by
    rw [hsp, ← Nat.mul_assoc]
    exact Nat.mul_le_mul_right _ n4
  have hR : FP.Core.roundRatio FP.Core.b32 false num den e = FP.Core.settle FP.Core.b32 false c q := by
    unfold FP.Core.roundRatio FP.Core.roundAt
    rw [if_neg (by omega), hquant, hc, hU, hw]
  rw [hR]
  unfold FP.Core.settle FP.Core.bound
  rw [show (2 : Nat) ^ FP.Core.b32.p = 2 ^ 24 from rfl, b_qmax, b_tails]
  by_cases h : c < 2 ^ 24
  · rw [if_pos h, if_pos (by omega)]
    exact ⟨c, q, rfl, h, q1, by omega, n2, m3, m4⟩
  · have e24 : c = 2 ^ 24 := by omega
    rw [if_neg h, if_pos (by omega)]
    have h23 : (8388608 : Nat) * 2 ^ (q + 1 + 149).toNat = c * 2 ^ (q + 149).toNat := by
      rw [e24, show (q + 1 + 149).toNat = 1 + (q + 149).toNat by omega, p2, ← Nat.mul_assoc]
    refine ⟨8388608, q + 1, rfl, by decide, by omega, by omega, Or.inr (by decide), ?_, ?_⟩
    · rw [h23]; exact m3
    · rw [h23]; exact m4
end ODDS
