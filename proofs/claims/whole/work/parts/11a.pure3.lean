/-! what the reference's own ways need -/
def rg (x lo hi : Int32) : Bool := decide (¬ x < lo) && decide (¬ hi < x)
section RG
variable {x lo hi : Int32}
theorem rg_t (h1 : ¬ x < lo) (h2 : ¬ hi < x) : rg x lo hi = true := by rw [rg, decide_eq_true h1, decide_eq_true h2]; rfl
theorem rg_f1 (h1 : x < lo) : rg x lo hi = false := by rw [rg, decide_eq_false (not_not_intro h1)]; rfl
theorem rg_f2 (h2 : hi < x) : rg x lo hi = false := by rw [rg, decide_eq_false (p := ¬ hi < x) (not_not_intro h2), Bool.and_false]
theorem rg_inB {n : Nat} (h0 : 0 < n) (h : n < 2 ^ 31) : rg x (nI 0) (nI (n - 1)) = inB x n := by
  by_cases h1 : x < nI 0
  · rw [rg_f1 h1, inB_neg h1]
  · by_cases h2 : nI (n - 1) < x
    · rw [rg_f2 h2, inB_big_le h2 h]
    · rw [rg_t h1 h2, inB_of_le h1 h2 h h0]
end RG
theorem iabs_p {x : Int32} (h : 0 ≤ x) : x = iabs x := by unfold iabs; rw [if_pos h]
theorem iabs_n {x : Int32} (h : ¬ 0 ≤ x) : -x = iabs x := by unfold iabs; rw [if_neg h]; simp
theorem sc_t {n L k : Nat} {N : Nat → Int32} (h : isOn n L k = true) : sc n N L (k + 1) = sc n N L k + N k := by simp [sc, h]
theorem sc_f {n L k : Nat} {N : Nat → Int32} (h : isOn n L k = false) : sc n N L (k + 1) = sc n N L k + nI 0 := by simp [sc, h]
theorem i_add0 (x : Int32) : x + nI 0 = x := by rw [nI_0]; simp
theorem nx_mod {tn : Nat} (h : tn < 3) : (tn + 1) % 3 = nx tn := by unfold nx; split <;> omega
theorem cap_lo {x : Int32} (h : x ≤ nI 999999) : cap x = x := if_neg (Int32.not_lt.mpr h)
theorem cap_hi {x : Int32} (h : ¬ x ≤ nI 999999) : cap x = nI 999999 := if_pos (Int32.not_le.mp h)
/-- the sums that stakes keep are small -/
def SMK (k : Nat) (F : Nat → Nat → Int32) : Prop := ∀ i, i < k → 0 ≤ (F i 4).toInt ∧ (F i 4).toInt ≤ 64
def RFD (k : Nat) (F : Nat → Nat → Int32) : Prop := ∀ i, i < k → odOK (F i 5) (F i 6)
def odR (F : Nat → Nat → Int32) : Nat → UInt32 := fun i => odf (F i 5) (F i 6)
def ZOK (Z : Nat → Int32) : Prop := ∀ c, 0 ≤ (Z c).toInt
theorem RFD.ook {k : Nat} {F : Nat → Nat → Int32} (h : RFD k F) : OOK k (odR F) := fun i hi => (h i hi).2.2
theorem sL_rng {n L : Nat} {N : Nat → Int32} (hn : n = 3 ∨ n = 4) (hN1 : NOK n N) (hL : L < 2 * n + 2) : 0 ≤ (sL n N L).toInt ∧ (sL n N L).toInt ≤ 64 := by
  obtain ⟨v, h1, h2⟩ := sL_small hn hN1 hL
  rw [h2, nI_toInt (by omega)]
  omega
theorem i_subI {x y : Int32} (h1 : 0 ≤ x.toInt ∧ x.toInt ≤ 64) (h2 : 0 ≤ y.toInt ∧ y.toInt ≤ 64) : (x - y).toInt = x.toInt - y.toInt := by
  have e1 : x = nI x.toInt.toNat := by rw [← Int32.toInt_inj, nI_toInt (by omega)]; omega
  have e2 : y = nI y.toInt.toNat := by rw [← Int32.toInt_inj, nI_toInt (by omega)]; omega
  have := pk_sub_toInt (a := x.toInt.toNat) (b := y.toInt.toNat) (by omega) (by omega)
  rw [← e1, ← e2] at this
  omega
section RGT
variable {n i : Nat} {N : Nat → Int32} {F : Nat → Nat → Int32}
theorem rgt_a (h0 : F i 2 = 0) (h : dfL n N (ln F i) = 0) : rgt n N F i = true := by
  rw [rgt, if_pos (show F i 2 = nI 0 from h0), mL_off]
  exact decide_eq_true h
theorem rgt_b (h0 : F i 2 = 0) (h : ¬ dfL n N (ln F i) = 0) : rgt n N F i = false := by
  rw [rgt, if_pos (show F i 2 = nI 0 from h0), mL_off]
  exact decide_eq_false h
end RGT
section RGT2
variable {n i : Nat} {N : Nat → Int32} {F : Nat → Nat → Int32}
theorem rgt_c (g1 : 0 ≤ (sL n N (ln F i)).toInt ∧ (sL n N (ln F i)).toInt ≤ 64) (g2 : 0 ≤ (F i 4).toInt ∧ (F i 4).toInt ≤ 64) (h0 : ¬ F i 2 = 0) (h1 : F i 2 = nI 1) (h : ¬ sL n N (ln F i) - F i 4 ≤ 0) : rgt n N F i = true := by
  rw [rgt, if_neg (show ¬ F i 2 = nI 0 from h0), if_pos h1]
  refine decide_eq_true ?_
  rw [lt_toInt]
  rw [le_toInt, i_subI g1 g2, zero_toInt] at h
  omega
theorem rgt_d (g1 : 0 ≤ (sL n N (ln F i)).toInt ∧ (sL n N (ln F i)).toInt ≤ 64) (g2 : 0 ≤ (F i 4).toInt ∧ (F i 4).toInt ≤ 64) (h0 : ¬ F i 2 = 0) (h1 : F i 2 = nI 1) (h : sL n N (ln F i) - F i 4 ≤ 0) : rgt n N F i = false := by
  rw [rgt, if_neg (show ¬ F i 2 = nI 0 from h0), if_pos h1]
  refine decide_eq_false ?_
  rw [lt_toInt]
  rw [le_toInt, i_subI g1 g2, zero_toInt] at h
  omega
theorem rgt_e (g1 : 0 ≤ (sL n N (ln F i)).toInt ∧ (sL n N (ln F i)).toInt ≤ 64) (g2 : 0 ≤ (F i 4).toInt ∧ (F i 4).toInt ≤ 64) (h0 : ¬ F i 2 = 0) (h1 : ¬ F i 2 = nI 1) (h : ¬ 0 ≤ sL n N (ln F i) - F i 4) : rgt n N F i = true := by
  rw [rgt, if_neg (show ¬ F i 2 = nI 0 from h0), if_neg h1]
  refine decide_eq_true ?_
  rw [lt_toInt]
  rw [le_toInt, i_subI g1 g2, zero_toInt] at h
  omega
theorem rgt_f (g1 : 0 ≤ (sL n N (ln F i)).toInt ∧ (sL n N (ln F i)).toInt ≤ 64) (g2 : 0 ≤ (F i 4).toInt ∧ (F i 4).toInt ≤ 64) (h0 : ¬ F i 2 = 0) (h1 : ¬ F i 2 = nI 1) (h : 0 ≤ sL n N (ln F i) - F i 4) : rgt n N F i = false := by
  rw [rgt, if_neg (show ¬ F i 2 = nI 0 from h0), if_neg h1]
  refine decide_eq_false ?_
  rw [lt_toInt]
  rw [le_toInt, i_subI g1 g2, zero_toInt] at h
  omega
end RGT2
theorem enc_cZ {n : Nat} {N Z Z2 : Nat → Int32} {tn : Nat} {po rd al : Int32} {k : Nat} {S P V : Nat → Int32} {F : Nat → Nat → Int32} (h : ∀ c, c < 16 → Z c = Z2 c) : ∀ j, j < 117 → enc n N Z tn po rd al k S P V F j = enc n N Z2 tn po rd al k S P V F j := by
  intro j _
  unfold enc
  refine ite_tl (fun h0 => ?_)
  refine ite_tl (fun h1 => ?_)
  refine ite_tl (fun h2 => ?_)
  refine ite_tl (fun h3 => ?_)
  refine ite_tl (fun h4 => ?_)
  refine ite_tl (fun h5 => ?_)
  refine ite_tl (fun h6 => ?_)
  refine ite_tl (fun h7 => ?_)
  refine ite_tl (fun h8 => ?_)
  refine ite_tl (fun h9 => ?_)
  exact ite_hd (fun _ => h _ (by omega))
-- states before, in one row
def bf (B : Nat → Nat → Int32) : Nat → Int32 := fun j => B (j / 117) (j % 117)
def bfp (B : Nat → Nat → Int32) (kn : Nat) (f : Nat → Int32) (k : Nat) : Nat → Int32 := fun j => if 117 * kn ≤ j ∧ j < 117 * kn + k then f (j - 117 * kn) else bf B j
theorem bfp_0 (B : Nat → Nat → Int32) (kn : Nat) (f : Nat → Int32) : bfp B kn f 0 = bf B := by
  funext j
  unfold bfp
  rw [if_neg (by omega)]
theorem bfp_s {B : Nat → Nat → Int32} {kn k j : Nat} {f : Nat → Int32} (_ : k < 117) : upd (bfp B kn f k) (117 * kn + k) (f k) j = bfp B kn f (k + 1) j := by
  unfold upd bfp
  by_cases h : j = 117 * kn + k
  · subst h
    rw [if_pos rfl, if_pos (by omega), show 117 * kn + k - 117 * kn = k by omega]
  · rw [if_neg h]
    by_cases h2 : 117 * kn ≤ j ∧ j < 117 * kn + k
    · rw [if_pos h2, if_pos (by omega)]
    · rw [if_neg h2, if_neg (by omega)]
theorem bfp_all {B : Nat → Nat → Int32} {kn j : Nat} {f : Nat → Int32} (_ : j < 468) : bfp B kn f 117 j = bf (uA B kn f) j := by
  unfold bfp bf uA
  by_cases h : 117 * kn ≤ j ∧ j < 117 * kn + 117
  · rw [if_pos h, if_pos (by omega), show j % 117 = j - 117 * kn by omega]
  · rw [if_neg h, if_neg (by omega)]
def bsh (B : Nat → Nat → Int32) (k : Nat) : Nat → Int32 := fun j => if j < k then bf B (117 + j) else bf B j
def shB (B : Nat → Nat → Int32) : Nat → Nat → Int32 := fun i => if i < 3 then B (i + 1) else B i
theorem bsh_0 (B : Nat → Nat → Int32) : bsh B 0 = bf B := by funext j; simp [bsh]
theorem bsh_s {B : Nat → Nat → Int32} {k j : Nat} (_ : k < 351) : upd (bsh B k) k (bsh B k (117 + k)) j = bsh B (k + 1) j := by
  have e : bsh B k (117 + k) = bf B (117 + k) := by unfold bsh; rw [if_neg (by omega)]
  rw [e]
  unfold upd bsh
  by_cases h : j = k
  · subst h
    rw [if_pos rfl, if_pos (by omega)]
  · rw [if_neg h]
    by_cases h2 : j < k
    · rw [if_pos h2, if_pos (by omega)]
    · rw [if_neg h2, if_neg (by omega)]
theorem bsh_all {B : Nat → Nat → Int32} {j : Nat} (_ : j < 468) : bsh B 351 j = bf (shB B) j := by
  unfold bsh bf shB
  by_cases h : j < 351
  · rw [if_pos h, if_pos (by omega), show (117 + j) / 117 = j / 117 + 1 by omega, show (117 + j) % 117 = j % 117 by omega]
  · rw [if_neg h, if_neg (by omega)]
def kB (B : Nat → Nat → Int32) (kn : Nat) (f : Nat → Int32) : Nat → Nat → Int32 := if kn < 4 then uA B kn f else uA (shB B) 3 f
theorem kB_lt {B : Nat → Nat → Int32} {kn : Nat} {f : Nat → Int32} (h : kn < 4) : kB B kn f = uA B kn f := if_pos h
theorem kB_4 {B : Nat → Nat → Int32} {f : Nat → Int32} : kB B 4 f = uA (shB B) 3 f := rfl
theorem mcO_t {n k : Nat} {N : Nat → Int32} (h : dfL n N k = 0) : nI (mc n N k + 1) = nI (mc n N (k + 1)) := by
  rw [mc_t (by rw [mL_off]; exact decide_eq_true h)]
theorem mcO_f {n k : Nat} {N : Nat → Int32} (h : ¬ dfL n N k = 0) : nI (mc n N k + 0) = nI (mc n N (k + 1)) := by
  rw [mc_f (by rw [mL_off]; exact decide_eq_false h)]
  rfl
theorem fzO_t {k : Nat} {Z : Nat → Int32} (h : ¬ Z k ≤ 0) : nI (fz Z k + 1) = nI (fz Z (k + 1)) := by
  rw [fz_t (Int32.not_le.mp h)]
theorem fzO_f {k : Nat} {Z : Nat → Int32} (h : Z k ≤ 0) : nI (fz Z k + 0) = nI (fz Z (k + 1)) := by
  rw [fz_f (Int32.not_lt.mpr h)]
  rfl
