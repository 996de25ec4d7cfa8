/-! what the answers look at: numbers below n * n, odds below k -/
def AG (n : Nat) (N M : Nat → Int32) : Prop := ∀ c, c < n * n → N c = M c
def OA (k : Nat) (O : Nat → UInt32) (F : Nat → Nat → Int32) : Prop := ∀ i, i < k → O i = odR F i
section CG
variable {n : Nat} {N M : Nat → Int32}
theorem sm_cg (hn : n = 3 ∨ n = 4) (h : AG n N M) {L : Nat} (hL : L < 2 * n + 2) : ∀ k, k ≤ n → sm n N L k = sm n M L k
  | 0, _ => rfl
  | k + 1, hk => by
    show sm n N L k + N (cel n L k) = sm n M L k + M (cel n L k)
    rw [sm_cg hn h hL k (by omega), h _ (cel_lt hn hL (by omega))]
theorem sL_cg (hn : n = 3 ∨ n = 4) (h : AG n N M) {L : Nat} (hL : L < 2 * n + 2) : sL n N L = sL n M L := sm_cg hn h hL n (Nat.le_refl n)
theorem dfL_cg (hn : n = 3 ∨ n = 4) (h : AG n N M) {L : Nat} (hL : L < 2 * n + 2) : dfL n N L = dfL n M L := by
  unfold dfL
  rw [sL_cg hn h hL]
theorem mL_cg (hn : n = 3 ∨ n = 4) (h : AG n N M) {L : Nat} (hL : L < 2 * n + 2) : mL n N L = mL n M L := by
  unfold mL
  rw [sL_cg hn h hL]
theorem wo_cg (hn : n = 3 ∨ n = 4) (h : AG n N M) : ∀ k, k ≤ 2 * n + 2 → wo n N k = wo n M k
  | 0, _ => rfl
  | k + 1, hk => by
    show wo n N k + dfL n N k = wo n M k + dfL n M k
    rw [wo_cg hn h k (by omega), dfL_cg hn h (by omega)]
theorem wof_cg (hn : n = 3 ∨ n = 4) (h : AG n N M) : wof n N = wof n M := wo_cg hn h _ (Nat.le_refl _)
theorem mc_cg (hn : n = 3 ∨ n = 4) (h : AG n N M) : ∀ k, k ≤ 2 * n + 2 → mc n N k = mc n M k
  | 0, _ => rfl
  | k + 1, hk => by
    simp only [mc]
    rw [mc_cg hn h k (by omega), mL_cg hn h (by omega)]
theorem mcn_cg (hn : n = 3 ∨ n = 4) (h : AG n N M) : mcn n N = mcn n M := mc_cg hn h _ (Nat.le_refl _)
theorem ltm_cg (hn : n = 3 ∨ n = 4) (h : AG n N M) {c : Nat} : ∀ k, k ≤ 2 * n + 2 → ltm n N c k = ltm n M c k
  | 0, _ => rfl
  | k + 1, hk => by
    simp only [ltm]
    rw [ltm_cg hn h k (by omega), mL_cg hn h (by omega)]
theorem ex_AG (h : AG n N M) {a b : Nat} (ha : a < n * n) (hb : b < n * n) : AG n (ex N a b) (ex M a b) := by
  intro c hc
  have e : ∀ U : Nat → Int32, ex U a b c = if c = b then U a else if c = a then U b else U c := fun _ => rfl
  rw [e, e, h a ha, h b hb, h c hc]
theorem NOK_cg (h : AG n N M) (hN : NOK n N) : NOK n M := fun c hc => by rw [← h c hc]; exact hN c hc
theorem shN_AG {v sd : Nat} (h : AG v N M) (hv : 0 < v * v) : ∀ t, t ≤ v * v - 1 → AG v (shN v sd N t) (shN v sd M t)
  | 0, _ => h
  | t + 1, ht => by
    refine ex_AG (shN_AG h hv t (by omega)) (by omega) ?_
    have := Nat.mod_lt (rl sd (t + 1)) (show 0 < v * v - 1 - t + 1 by omega)
    omega
theorem NOK_sh {v sd : Nat} (h : NOK v N) (hv : 0 < v * v) : ∀ t, t ≤ v * v - 1 → NOK v (shN v sd N t)
  | 0, _ => h
  | t + 1, ht => by
    refine NOK_ex (NOK_sh h hv t (by omega)) (by omega) ?_
    have := Nat.mod_lt (rl sd (t + 1)) (show 0 < v * v - 1 - t + 1 by omega)
    omega
section ST
variable {k : Nat} {F : Nat → Nat → Int32} {O : Nat → UInt32} {P : Nat → Int32} {po : Int32}
theorem rgt_cg (hn : n = 3 ∨ n = 4) (h : AG n N M) {i : Nat} (hi : ln F i < 2 * n + 2) : rgt n N F i = rgt n M F i := by
  unfold rgt
  rw [mL_cg hn h hi, sL_cg hn h hi]
theorem pay_cg {i : Nat} (h : O i = odR F i) : pay F O i = pay F (odR F) i := by
  unfold pay
  rw [h]
theorem so_cg (hO : OA k O F) : ∀ i, i ≤ k → so O i = so (odR F) i
  | 0, _ => rfl
  | i + 1, hi => by
    show FP.fadd (so O i) (O i) = FP.fadd (so (odR F) i) (odR F i)
    rw [so_cg hO i (by omega), hO i (by omega)]
theorem mob_cg (hO : OA k O F) : mob k O = mob k (odR F) := by
  unfold mob
  rw [so_cg hO k (Nat.le_refl k)]
theorem da_cg (hn : n = 3 ∨ n = 4) (h : AG n N M) (hS : SOK n k F) (hO : OA k O F) : ∀ i, i ≤ k → da n N F O i = da n M F (odR F) i
  | 0, _ => rfl
  | i + 1, hi => by
    simp only [da]
    rw [da_cg hn h hS hO i (by omega), rgt_cg hn h (hS i (by omega)).1.2, pay_cg (hO i (by omega))]
theorem du_cg (hn : n = 3 ∨ n = 4) (h : AG n N M) (hS : SOK n k F) (hO : OA k O F) {r : Int32} : ∀ i, i ≤ k → du n N F O r i = du n M F (odR F) r i
  | 0, _ => rfl
  | i + 1, hi => by
    simp only [du]
    rw [du_cg hn h hS hO i (by omega), rgt_cg hn h (hS i (by omega)).1.2, pay_cg (hO i (by omega))]
theorem stl_cg (hn : n = 3 ∨ n = 4) (h : AG n N M) (hS : SOK n k F) (hO : OA k O F) : ∀ i, i ≤ k → stl n N F O P po i = stl n M F (odR F) P po i
  | 0, _ => rfl
  | i + 1, hi => by
    simp only [stl]
    rw [stl_cg hn h hS hO i (by omega), rgt_cg hn h (hS i (by omega)).1.2, pay_cg (hO i (by omega))]
theorem swS_cg (hn : n = 3 ∨ n = 4) (h : AG n N M) (hS : SOK n k F) (hO : OA k O F) {S : Nat → Int32} {tn a b : Nat} {rb : Bool} (ha : a < n * n) (hb : b < n * n) : swS n N F O P S tn po k a b rb = swS n M F (odR F) P S tn po k a b rb := by
  cases rb with
  | false => rfl
  | true => exact stl_cg hn (ex_AG h ha hb) hS hO k (Nat.le_refl k)
theorem ovr_cg (hn : n = 3 ∨ n = 4) (h : AG n N M) {L : Nat} {kd : Int32} (hL : L < 2 * n + 2) : ovr n N L kd = ovr n M L kd := by
  unfold ovr
  rw [dfL_cg hn h hL, mcn_cg hn h]
theorem tbs_cg (hn : n = 3 ∨ n = 4) (h : AG n N M) (hS : SOK n k F) (hO : OA k O F) {w : Int32} : tbs n N k F O w = tbs n M k F (odR F) w := by
  unfold tbs
  rw [wof_cg hn h, mcn_cg hn h, da_cg hn h hS hO k (Nat.le_refl k)]
theorem wouldQ_cg (hn : n = 3 ∨ n = 4) (h : AG n N M) (hS : SOK n k F) (hO : OA k O F) {x y w : Int32} : wouldQ n N k F O x y w = wouldQ n M k F (odR F) x y w := by
  have hq : n * n < 17 := by rcases hn with rfl | rfl <;> decide
  by_cases hx : inB x (n * n) = true
  · by_cases hy : inB y (n * n) = true
    · obtain ⟨a, ha, rfl⟩ := inB_ex hx (by omega)
      obtain ⟨b, hb, rfl⟩ := inB_ex hy (by omega)
      rw [wouldQ_in ha hb hq, wouldQ_in ha hb hq, tbs_cg hn (ex_AG h ha hb) hS hO]
    · have e : inB y (n * n) = false := by revert hy; cases inB y (n * n) <;> simp
      rw [← wouldQ_f2 e, ← wouldQ_f2 e]
  · have e : inB x (n * n) = false := by revert hx; cases inB x (n * n) <;> simp
    rw [← wouldQ_f1 e, ← wouldQ_f1 e]
theorem celQ_cg (hn : n = 3 ∨ n = 4) (h : AG n N M) {Z : Nat → Int32} {x y : Int32} : celQ n N Z x y = celQ n M Z x y := by
  have hq : n * n < 17 := by rcases hn with rfl | rfl <;> decide
  by_cases hx : inB x (n * n) = true
  · obtain ⟨a, ha, rfl⟩ := inB_ex hx (by omega)
    rw [celQ_in ha hq, celQ_in ha hq, cellN, cellN, h a ha, ltm_cg hn h _ (Nat.le_refl _)]
  · have e : inB x (n * n) = false := by revert hx; cases inB x (n * n) <;> simp
    rw [← celQ_f e, ← celQ_f e]
theorem lineQ_cg (hn : n = 3 ∨ n = 4) (h : AG n N M) {x y : Int32} : lineQ n N k F x y = lineQ n M k F x y := by
  by_cases hx : inB x (2 * n + 2) = true
  · obtain ⟨a, ha, rfl⟩ := inB_ex hx (by omega)
    rw [lineQ_in ha (by omega), lineQ_in ha (by omega), lineN, lineN, sL_cg hn h ha, mL_cg hn h ha]
  · have e : inB x (2 * n + 2) = false := by revert hx; cases inB x (2 * n + 2) <;> simp
    rw [← lineQ_f e, ← lineQ_f e]
theorem rivalQ_cg (hn : n = 3 ∨ n = 4) (h : AG n N M) (hS : SOK n k F) (hO : OA k O F) {V : Nat → Int32} {x y : Int32} : rivalQ n N k F O P V x y = rivalQ n M k F (odR F) P V x y := by
  unfold rivalQ rivalN
  rw [du_cg hn h hS hO k (Nat.le_refl k)]
theorem stakeQ_cg (hn : n = 3 ∨ n = 4) (hk : k ≤ 10) (h : AG n N M) (hS : SOK n k F) (hO : OA k O F) {x y : Int32} : stakeQ n N k F O x y = stakeQ n M k F (odR F) x y := by
  by_cases hx : inB x k = true
  · obtain ⟨a, ha, rfl⟩ := inB_ex hx (by omega)
    rw [stakeQ_in ha (by omega), stakeQ_in ha (by omega), stakeN, stakeN, rgt_cg hn h (hS a ha).1.2, pay_cg (hO a ha)]
  · have e : inB x k = false := by revert hx; cases inB x k <;> simp
    rw [← stakeQ_f e, ← stakeQ_f e]
theorem oddsQ_cg (hk : k ≤ 10) (hO : OA k O F) {x : Int32} : oddsQ k O x = oddsQ k (odR F) x := by
  by_cases hx : inB x k = true
  · obtain ⟨a, ha, rfl⟩ := inB_ex hx (by omega)
    rw [← oddsQ_in ha (by omega), ← oddsQ_in (O := odR F) ha (by omega), hO a ha]
  · have e : inB x k = false := by revert hx; cases inB x k <;> simp
    rw [← oddsQ_f e, ← oddsQ_f e]
theorem cntQ_cg (hn : n = 3 ∨ n = 4) (h : AG n N M) {Z S : Nat → Int32} {tn kh le : Nat} {rd al x : Int32} : cntQ n N Z k F tn po rd al S kh le x = cntQ n M Z k F tn po rd al S kh le x := by
  unfold cntQ
  rw [wof_cg hn h, mcn_cg hn h]
end ST
theorem bst_cg (hn : n = 3 ∨ n = 4) (h : AG n N M) {Z : Nat → Int32} {a b : Nat} {s : Int32 × Int32} (ha : a < n * n) (hb : b < n * n) : bst n N Z a b s = bst n M Z a b s := by
  unfold bst
  rw [wof_cg hn (ex_AG h ha hb)]
theorem bin_cg (hn : n = 3 ∨ n = 4) (h : AG n N M) {Z : Nat → Int32} {a : Nat} {s : Int32 × Int32} (ha : a < n * n) : ∀ d, d ≤ n * n - (a + 1) → bin n N Z a s d = bin n M Z a s d
  | 0, _ => rfl
  | d + 1, hd => by
    show bst n N Z a (a + 1 + d) (bin n N Z a s d) = bst n M Z a (a + 1 + d) (bin n M Z a s d)
    rw [bin_cg hn h ha d (by omega), bst_cg hn h ha (by omega)]
theorem bou_cg (hn : n = 3 ∨ n = 4) (h : AG n N M) {Z : Nat → Int32} : ∀ a, a ≤ n * n → bou n N Z a = bou n M Z a
  | 0, _ => rfl
  | a + 1, ha => by
    show bin n N Z a (bou n N Z a) (n * n - (a + 1)) = bin n M Z a (bou n M Z a) (n * n - (a + 1))
    rw [bou_cg hn h a (by omega), bin_cg hn h (by omega) _ (Nat.le_refl _)]
end CG
/-! way off by nothing: magic -/
theorem iabs_rng {x : Int32} (h1 : -1000 ≤ x.toInt) (h2 : x.toInt ≤ 1000) : 0 ≤ (iabs x).toInt ∧ (iabs x).toInt ≤ 1000 ∧ ((iabs x).toInt = 0 ↔ x.toInt = 0) := by
  unfold iabs
  by_cases h : 0 ≤ x
  · rw [if_pos h]
    rw [le_toInt, zero_toInt] at h
    omega
  · rw [if_neg h]
    rw [le_toInt, zero_toInt] at h
    have e : (0 - x).toInt = -x.toInt := by
      rw [Int32.toInt_sub, zero_toInt]
      rw [Int.bmod_def]
      split <;> omega
    omega
