/-! more for the reference's acts and answers -/
def cpp (f g : Nat → Int32) (c : Nat) : Nat → Int32 := fun j => if j < c then g j else f j
theorem cpp_0 (f g : Nat → Int32) : cpp f g 0 = f := by funext j; simp [cpp]
theorem cpp_s {f g : Nat → Int32} {c j : Nat} {v : Int32} (h : v = g c) : upd (cpp f g c) c v j = cpp f g (c + 1) j := by
  subst h
  unfold upd cpp
  by_cases h : j = c
  · subst h
    rw [if_pos rfl, if_pos (by omega)]
  · rw [if_neg h]
    by_cases h2 : j < c
    · rw [if_pos h2, if_pos (by omega)]
    · rw [if_neg h2, if_neg (by omega)]
theorem cpp_all {f g : Nat → Int32} {c j : Nat} (h : j < c) : cpp f g c j = g j := if_pos h
theorem bf_at {B : Nat → Nat → Int32} {kn c : Nat} (h : c < 117) : bf B (117 * kn + c) = B kn c := by
  unfold bf
  rw [show (117 * kn + c) / 117 = kn by omega, show (117 * kn + c) % 117 = c by omega]
theorem alS_r1 {x y : Int32} (h : rg x (nI 0) (nI 2) = true) (h0 : x = 0) (h2 : rg y (nI 1) (nI 9) = true) : alS x y = true := by rw [alS_rg, h, if_pos h0, h2]; rfl
theorem alS_r0 {x y : Int32} (h : rg x (nI 0) (nI 2) = true) (h0 : ¬ x = 0) (h2 : rg y (nI 0) (nI 9) = true) : alS x y = true := by rw [alS_rg, h, if_neg h0, h2]; rfl
theorem alS_e {x y : Int32} (h : alS x y = true) : rg y (if x = 0 then nI 1 else nI 0) (nI 9) = true := by
  rw [alS_rg] at h
  cases h1 : rg y (if x = 0 then nI 1 else nI 0) (nI 9) with
  | true => rfl
  | false => rw [h1, Bool.and_false] at h; cases h
theorem alS_e0 {y : Int32} (h : alS (nI 0) y = true) : rg y (nI 1) (nI 9) = true := by have := alS_e h; rwa [if_pos (by decide +kernel)] at this
theorem alS_e1 {y : Int32} (h : alS (nI 1) y = true) : rg y (nI 0) (nI 9) = true := by have := alS_e h; rwa [if_neg (by decide +kernel)] at this
theorem alS_e2 {y : Int32} (h : alS (nI 2) y = true) : rg y (nI 0) (nI 9) = true := by have := alS_e h; rwa [if_neg (by decide +kernel)] at this
theorem NOK_ex {n a b : Nat} {N : Nat → Int32} (h : NOK n N) (ha : a < n * n) (hb : b < n * n) : NOK n (ex N a b) := by
  intro c hc
  have e : ex N a b c = if c = b then N a else if c = a then N b else N c := rfl
  rw [e]
  split
  · exact h a ha
  · split
    · exact h b hb
    · exact h c hc
section LTM
variable {n q k : Nat} {N : Nat → Int32}
theorem ltO_t (h : isOn n k q = true) : nI (lt_ n q k + 1) = nI (lt_ n q (k + 1)) := by rw [lt_t h]
theorem ltO_f (h : isOn n k q = false) : nI (lt_ n q k + 0) = nI (lt_ n q (k + 1)) := by
  rw [lt_f h]
  rfl
theorem ltmO_t (h : isOn n k q = true) (h2 : dfL n N k = 0) : nI (ltm n N q k + 1) = nI (ltm n N q (k + 1)) := by
  rw [ltm_t h (by rw [mL_off]; exact decide_eq_true h2)]
theorem ltmO_f1 (h : isOn n k q = false) : nI (ltm n N q k + 0) = nI (ltm n N q (k + 1)) := by
  rw [ltm_f1 h]
  rfl
theorem ltmO_f2 (h2 : ¬ dfL n N k = 0) : nI (ltm n N q k + 0) = nI (ltm n N q (k + 1)) := by
  rw [ltm_f2 (by rw [mL_off]; exact decide_eq_false h2)]
  rfl
end LTM
section CW
variable {b k : Nat} {F : Nat → Nat → Int32} {x : Int32}
theorem cwO_t (h : F k b = x) : nI (cw F b x k + 1) = nI (cw F b x (k + 1)) := by rw [cw_t h]
theorem cwO_f (h : ¬ F k b = x) : nI (cw F b x k + 0) = nI (cw F b x (k + 1)) := by
  rw [cw_f h]
  rfl
theorem awO_t (h : F k b = x) : aw F b x k + F k 3 = aw F b x (k + 1) := (aw_t h).symm
theorem awO_f (h : ¬ F k b = x) : aw F b x k + nI 0 = aw F b x (k + 1) := by rw [aw_f h, i_add0]
end CW
theorem mL_t {n L : Nat} {N : Nat → Int32} (h : dfL n N L = 0) : mL n N L = true := by rw [mL_off]; exact decide_eq_true h
theorem mL_f {n L : Nat} {N : Nat → Int32} (h : ¬ dfL n N L = 0) : mL n N L = false := by rw [mL_off]; exact decide_eq_false h
theorem rg_7 {x : Int32} : rg x (nI 0) (nI 6) = inB x 7 := rg_inB (n := 7) (by decide) (by decide)
section STN
variable {n i : Nat} {N : Nat → Int32} {F : Nat → Nat → Int32} {O : Nat → UInt32} {y : Int32}
theorem stakeN_lt {b : Nat} (h : b < 5) : F i b = stakeN n N F O i (nI b) := by
  unfold stakeN
  obtain rfl | rfl | rfl | rfl | rfl : b = 0 ∨ b = 1 ∨ b = 2 ∨ b = 3 ∨ b = 4 := by omega
  · rw [if_pos rfl]
  · rw [if_neg (by decide +kernel), if_pos rfl]
  · rw [if_neg (by decide +kernel), if_neg (by decide +kernel), if_pos rfl]
  · rw [if_neg (by decide +kernel), if_neg (by decide +kernel), if_neg (by decide +kernel), if_pos rfl]
  · rw [if_neg (by decide +kernel), if_neg (by decide +kernel), if_neg (by decide +kernel), if_neg (by decide +kernel), if_pos rfl]
theorem stakeN_5 {b : Nat} (h : b = 5) : zB (rgt n N F i) = stakeN n N F O i (nI b) := by
  subst h
  unfold stakeN
  rw [if_neg (by decide +kernel), if_neg (by decide +kernel), if_neg (by decide +kernel), if_neg (by decide +kernel), if_neg (by decide +kernel), if_pos rfl]
theorem stakeN_6 {b : Nat} (h : b = 6) : pay F O i = stakeN n N F O i (nI b) := by
  subst h
  unfold stakeN
  rw [if_neg (by decide +kernel), if_neg (by decide +kernel), if_neg (by decide +kernel), if_neg (by decide +kernel), if_neg (by decide +kernel), if_neg (by decide +kernel), if_pos rfl]
theorem stakeN_no (h : rg y (nI 0) (nI 6) = false) : -2 = stakeN n N F O i y := by
  have hh : ∀ v : Nat, v < 7 → ¬ y = nI v := fun v hv z => by
    subst z
    rw [rg_n (by omega) (by omega) (by omega), decide_eq_true (by omega)] at h
    cases h
  unfold stakeN
  rw [if_neg (hh 0 (by omega)), if_neg (hh 1 (by omega)), if_neg (hh 2 (by omega)), if_neg (hh 3 (by omega)), if_neg (hh 4 (by omega)), if_neg (hh 5 (by omega)), if_neg (hh 6 (by omega))]
end STN
section TBS
variable {n k w a b : Nat} {N : Nat → Int32} {F : Nat → Nat → Int32} {O : Nat → UInt32}
theorem tbs_0 (h : w = 0) : wof n N = tbs n N k F O (nI w) := by subst h; exact (if_pos rfl).symm
theorem tbs_1 (h : w = 1) : nI (mcn n N) = tbs n N k F O (nI w) := by
  subst h
  unfold tbs
  rw [if_neg (by decide +kernel), if_pos rfl]
theorem tbs_2 (h : w = 2) : da n N F O k = tbs n N k F O (nI w) := by
  subst h
  unfold tbs
  rw [if_neg (by decide +kernel), if_neg (by decide +kernel)]
theorem wouldQ_ok2 (ha : a < n * n) (hb : b < n * n) (h : n * n < 17) (hw : w < 3) (h3 : a ≠ b) : tbs n (ex N a b) k F O (nI w) = wouldQ n N k F O (nI a) (nI b) (nI w) := by
  rw [wouldQ_in ha hb h, if_pos ⟨by rw [inB_nI (by omega)]; exact decide_eq_true hw, h3⟩]
end TBS
theorem ex_exF (N : Nat → Int32) (a b : Nat) : ex (ex N a b) a b = N := funext (ex_ex N a b)
theorem fz_16 {Z : Nat → Int32} {n : Nat} (hn : n = 3 ∨ n = 4) (hZ : ∀ c, n * n ≤ c → Z c = nI 0) : fz Z (n * n) = fz Z 16 := by
  have key : ∀ d c, n * n ≤ c → fz Z (c + d) = fz Z c := by
    intro d
    induction d with
    | zero => intro c _; rfl
    | succ d ih =>
      intro c hc
      show fz Z (c + d + 1) = fz Z c
      rw [fz_f (by rw [hZ (c + d) (by omega)]; decide +kernel)]
      exact ih c hc
  rcases hn with rfl | rfl
  · exact (key 7 9 (by omega)).symm
  · rfl
theorem ZOK_z {Z : Nat → Int32} {c : Nat} (h : ZOK Z) (h0 : Z c = 0) : decide (0 < Z c) = false := by
  rw [h0]
  decide +kernel
theorem ZOK_p {Z : Nat → Int32} {c : Nat} (h : ZOK Z) (h0 : ¬ Z c = 0) : decide (0 < Z c) = true := by
  refine decide_eq_true ?_
  have h1 := h c
  have h2 : ¬ (Z c).toInt = 0 := fun z => h0 (by rw [← Int32.toInt_inj, z]; rfl)
  rw [lt_toInt, zero_toInt]
  omega
