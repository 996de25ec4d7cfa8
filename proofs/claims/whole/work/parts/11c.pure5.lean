/-! faults and acts of the reference -/
def tfR (t : Nat → Nat) (le : Nat) : Int32 := if flc t le = -1 then -5 else flc t le
theorem tfR_ok {t : Nat → Nat} {le : Nat} (h : flc t le = -1) : tfR t le = -5 := if_pos h
theorem tfR_no {t : Nat → Nat} {le : Nat} (h : ¬ flc t le = -1) : tfR t le = flc t le := if_neg h
theorem tfR_n {t : Nat → Nat} {le v : Nat} (hv : v < 2 ^ 31) (h : nI v = flc t le) : nI v = tfR t le := by
  rw [tfR_no (by rw [← h]; exact nI_m1 hv)]
  exact h
theorem tfR_m5 {t : Nat → Nat} {le : Nat} (hle : le ≤ 60) : tfR t le = -5 ↔ flc t le = -1 := by
  unfold tfR
  by_cases h : flc t le = -1
  · rw [if_pos h]
    exact ⟨fun _ => h, fun _ => rfl⟩
  · rw [if_neg h]
    refine ⟨fun z => ?_, fun z => absurd z h⟩
    exfalso
    have n5 : ∀ v : Nat, v < 2 ^ 31 → ¬ nI v = -5 := fun v hv z => by
      have e := congrArg Int32.toInt z
      rw [nI_toInt hv] at e
      have : ((-5 : Int32).toInt) = -5 := by decide
      omega
    have hfl := frs_le t le le
    unfold flc at z h
    by_cases h1 : frs t le le < le
    · rw [if_pos h1] at z
      exact n5 _ (by omega) z
    · rw [if_neg h1] at z h
      by_cases h2 : le = 0 ∨ le < cs t le
      · rw [if_pos h2] at z
        exact n5 _ (by omega) z
      · rw [if_neg h2] at h
        exact h rfl
theorem flc_n {t : Nat → Nat} {le : Nat} (h0 : 0 < le) (h : sideOf t le = 0) : nI 0 = flc t le := by
  have hb : bad t le 0 = true := bad_1 (by show sideOf t le * sideOf t le ≤ 0; rw [h]; decide)
  exact flc_hit (i := 0) rfl h0 hb
theorem flc_z {t : Nat → Nat} : nI 0 = flc t 0 := rfl
theorem side3 {t : Nat → Nat} {le : Nat} (h : sideOf t le = 3) : 0 < le ∧ 49 ≤ t 0 ∧ t 0 ≤ 57 ∧ zz t le = 48 ∧ cs t le = 9 := by
  refine ⟨?_, ?_, ?_, by unfold zz; rw [if_pos h], by unfold cs; rw [h]⟩ <;> revert h <;> unfold sideOf <;> (repeat' split) <;> omega
theorem side4 {t : Nat → Nat} {le : Nat} (h : sideOf t le = 4) : 0 < le ∧ 97 ≤ t 0 ∧ t 0 ≤ 112 ∧ zz t le = 96 ∧ cs t le = 16 := by
  refine ⟨?_, ?_, ?_, by unfold zz; rw [if_neg (by omega)], by unfold cs; rw [h]⟩ <;> revert h <;> unfold sideOf <;> (repeat' split) <;> omega
theorem side0 {t : Nat → Nat} {le : Nat} (h : sideOf t le = 0) (h0 : 0 < le) : ¬ (49 ≤ t 0 ∧ t 0 ≤ 57) ∧ ¬ (97 ≤ t 0 ∧ t 0 ≤ 112) := by
  revert h
  unfold sideOf
  (repeat' split) <;> omega
theorem side_cs {t : Nat → Nat} {le : Nat} : sideOf t le = 0 ∨ sideOf t le = 3 ∨ sideOf t le = 4 := by
  unfold sideOf
  (repeat' split) <;> omega
theorem rg_n {v lo hi : Nat} (hv : v < 2 ^ 31) (hl : lo < 2 ^ 31) (hh : hi < 2 ^ 31) : rg (nI v) (nI lo) (nI hi) = decide (lo ≤ v ∧ v ≤ hi) := by
  by_cases h : lo ≤ v ∧ v ≤ hi
  · rw [decide_eq_true h]
    exact rg_t (by rw [lt_toInt, nI_toInt hv, nI_toInt hl]; omega) (by rw [lt_toInt, nI_toInt hh, nI_toInt hv]; omega)
  · rw [decide_eq_false h]
    by_cases h2 : v < lo
    · exact rg_f1 (nI_lt h2 hl)
    · exact rg_f2 (nI_lt (by omega) hv)
theorem rg_d {v z m : Nat} (hv : v < 65536) (hz : z ≤ 100) (hm : m ≤ 16) : rg (nI v - nI z) (nI 0) (nI m) = decide (z ≤ v ∧ v ≤ z + m) := by
  have e := pk_sub_toInt (a := v) (b := z) (by omega) (by omega)
  by_cases h : z ≤ v ∧ v ≤ z + m
  · rw [decide_eq_true h]
    refine rg_t ?_ ?_
    · rw [lt_toInt, e, nI_toInt (by decide)]; omega
    · rw [lt_toInt, e, nI_toInt (by omega)]; omega
  · rw [decide_eq_false h]
    by_cases h2 : v < z
    · refine rg_f1 ?_
      rw [lt_toInt, e, nI_toInt (by decide)]; omega
    · refine rg_f2 ?_
      rw [lt_toInt, e, nI_toInt (by omega)]; omega
theorem nrA_v {t : Nat → Nat} {le i z : Nat} (hi : i < le) (hz : (if sideOf t le = 3 then 48 else 96) + 1 = z) : (nI (t i) - nI z) + nI 1 = nrA t le i := by
  unfold nrA
  rw [if_pos hi, ← hz, ← nI_add]
  generalize nI (t i) = u
  generalize nI (if sideOf t le = 3 then 48 else 96) = v
  apply Int32.toBitVec_inj.mp
  simp only [Int32.toBitVec_add, Int32.toBitVec_sub]
  bv_omega
/-- the range of stakes, k of them -/
theorem rg_k {x : Int32} {k : Nat} (hk : k < 2 ^ 31) : rg x (nI 0) (nI k - nI 1) = inB x k := by
  rcases Nat.eq_zero_or_pos k with h | h
  · subst h
    by_cases h1 : x < nI 0
    · rw [rg_f1 h1, inB_neg h1]
    · rw [inB_big (Int32.not_lt.mp h1) (by decide)]
      refine rg_f2 ?_
      rw [lt_toInt, show (nI 0 - nI 1).toInt = -1 from by decide +kernel]
      rw [lt_toInt, nI_toInt (by decide)] at h1
      omega
  · rw [pk_sub h]
    exact rg_inB h hk
theorem rg_3 {x : Int32} : rg x (nI 0) (nI 2) = inB x 3 := rg_inB (n := 3) (by decide) (by decide)
theorem rg_10000 {x : Int32} : rg x (nI 0) (nI 9999) = inB x 10000 := rg_inB (n := 10000) (by decide) (by decide)
theorem rg_34 {x : Int32} : rg x (nI 3) (nI 4) = (decide (x = nI 3) || decide (x = nI 4)) := by
  by_cases h : x = nI 3 ∨ x = nI 4
  · rcases h with z | z <;> subst z <;> decide +kernel
  · rw [decide_eq_false (fun z => h (Or.inl z)), decide_eq_false (fun z => h (Or.inr z))]
    have h3 : ¬ x.toInt = 3 := fun z => h (Or.inl (by rw [← Int32.toInt_inj, nI_toInt (by decide), z]; rfl))
    have h4 : ¬ x.toInt = 4 := fun z => h (Or.inr (by rw [← Int32.toInt_inj, nI_toInt (by decide), z]; rfl))
    by_cases h5 : x < nI 3
    · rw [rg_f1 h5]; rfl
    · refine (rg_f2 ?_).trans rfl
      rw [lt_toInt, nI_toInt (by decide)] at h5 ⊢
      omega
theorem layOK_rg {x y : Int32} : layOK x y = (rg x (nI 3) (nI 4) && rg y (nI 0) (nI 9999)) := by rw [rg_34, rg_10000]; rfl
theorem alS_rg {x y : Int32} : alS x y = (rg x (nI 0) (nI 2) && rg y (if x = 0 then nI 1 else nI 0) (nI 9)) := by rw [rg_3]; rfl
theorem rg_56 {y : Int32} : rg y (nI 1) (nI 6) = false ↔ (y < nI 1 ∨ nI 6 < y) := by
  unfold rg
  by_cases h1 : y < nI 1 <;> by_cases h2 : nI 6 < y <;> simp [h1, h2]
theorem rg_99 {y : Int32} : rg y (nI 1) (nI 99) = false ↔ (y < nI 1 ∨ nI 99 < y) := by
  unfold rg
  by_cases h1 : y < nI 1 <;> by_cases h2 : nI 99 < y <;> simp [h1, h2]
/-- won, by the reference's measure -/
def rwW (n : Nat) (N : Nat → Int32) (a b : Nat) : Bool := !decide (wof n N = 0) && decide (wof n (ex N a b) = 0)
theorem rwW_t {n a b : Nat} {N : Nat → Int32} (h : rwW n N a b = true) : ¬ wof n N = 0 ∧ wof n (ex N a b) = 0 := by
  unfold rwW at h
  by_cases h1 : wof n N = 0 <;> by_cases h2 : wof n (ex N a b) = 0 <;> simp [h1, h2] at h ⊢
theorem rwW_f {n a b : Nat} {N : Nat → Int32} (h : rwW n N a b = false) : wof n N = 0 ∨ ¬ wof n (ex N a b) = 0 := by
  unfold rwW at h
  by_cases h1 : wof n N = 0 <;> by_cases h2 : wof n (ex N a b) = 0 <;> simp [h1, h2] at h ⊢
def ltb (n : Nat) (N : Nat → Int32) (q : Nat) (b : Bool) : Nat → Nat := fun k => match b with
  | true => ltm n N q k
  | false => lt_ n q k
theorem bad_out {t : Nat → Nat} {le i : Nat} (h : ¬ (zz t le + 1 ≤ t i ∧ t i ≤ zz t le + cs t le)) : bad t le i = true := by
  by_cases h1 : t i < zz t le + 1
  · simp [bad, h1]
  · have h2 : zz t le + cs t le < t i := by omega
    simp [bad, h2]
theorem nle2 {x y : Int32} (h1 : ¬ 0 < x) (h2 : y ≤ 0) : ¬ (0 < x ∨ 0 < y) := fun z => z.elim h1 (Int32.not_lt.mpr h2)
theorem tw_ra {Z : Nat → Int32} {k : Nat} (h : ¬ tw Z k k ≤ 0) : upd (tw Z k) k (tw Z k k - nI 1) = tw Z (k + 1) := by
  funext j
  refine tw_s ?_
  rw [tw_k] at h ⊢
  rw [tw1, if_pos (Int32.not_le.mp h)]
theorem tw_rb {Z : Nat → Int32} {k : Nat} (h : tw Z k k ≤ 0) : upd (tw Z k) k (tw Z k k - nI 0) = tw Z (k + 1) := by
  funext j
  refine tw_s ?_
  rw [tw_k] at h ⊢
  rw [tw1, if_neg (Int32.not_lt.mpr h), nI_0]
  simp
theorem tw_16 {Z : Nat → Int32} {n c : Nat} (hn : n * n < 17) (hZ : ∀ c, n * n ≤ c → Z c = nI 0) : tw Z (n * n) c = tw Z 16 c := by
  unfold tw
  by_cases h : c < n * n
  · rw [if_pos h, if_pos (by omega)]
  · rw [if_neg h, hZ c (by omega)]
    split
    · rfl
    · rfl
theorem not_rg1 {y : Int32} (h : rg y (nI 1) (nI 6) = true) : ¬ (y < nI 1 ∨ nI 6 < y) := fun z => by rw [rg_56.mpr z] at h; cases h
theorem skE_c {y w : Int32} (h1 : rg y (nI 0) (nI 2) = true) (h2 : rg w (nI 1) (nI 99) = true) : ¬ (inB y 3 = false ∨ w < nI 1 ∨ nI 99 < w) := by
  rintro (z | z)
  · rw [rg_3, z] at h1; cases h1
  · rw [rg_99.mpr z] at h2; cases h2
theorem skE_d {y w : Int32} (h : rg y (nI 0) (nI 2) = false ∨ rg w (nI 1) (nI 99) = false) : inB y 3 = false ∨ w < nI 1 ∨ nI 99 < w := by
  rcases h with z | z
  · exact Or.inl (rg_3.symm.trans z)
  · exact Or.inr (rg_99.mp z)
theorem ovr_0 {n L : Nat} {N : Nat → Int32} {kd : Int32} (h : kd = 0) : dfL n N L = ovr n N L kd := (if_pos (show kd = nI 0 from h)).symm
theorem ovr_1 {n L : Nat} {N : Nat → Int32} {kd : Int32} (h : ¬ kd = 0) : nI (mcn n N) = ovr n N L kd := (if_neg (show ¬ kd = nI 0 from h)).symm
theorem und_0 {n : Nat} {kd : Int32} (h : kd = 0) : nI 4 = und n kd := (if_pos (show kd = nI 0 from h)).symm
theorem und_1 {n : Nat} {kd : Int32} (h : ¬ kd = 0) : nI (2 * n + 2) = und n kd := (if_neg (show ¬ kd = nI 0 from h)).symm
