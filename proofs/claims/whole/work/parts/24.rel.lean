/-! magic: way off by nothing; the two states, side by side -/
theorem mg_rng {n : Nat} (hn : n = 3 ∨ n = 4) : mgN n ≤ 100 := by rcases hn with rfl | rfl <;> decide
theorem dfL_rng {n L : Nat} {N : Nat → Int32} (hn : n = 3 ∨ n = 4) (hN : NOK n N) (hL : L < 2 * n + 2) : 0 ≤ (dfL n N L).toInt ∧ (dfL n N L).toInt ≤ 1000 ∧ ((dfL n N L).toInt = 0 ↔ mL n N L = true) := by
  have h1 := sL_rng hn hN hL
  have h2 := mg_rng hn
  have e1 : sL n N L = nI (sL n N L).toInt.toNat := by rw [← Int32.toInt_inj, nI_toInt (by omega)]; omega
  have e2 : (sL n N L - nI (mgN n)).toInt = (sL n N L).toInt - mgN n := by
    have := pk_sub_toInt (a := (sL n N L).toInt.toNat) (b := mgN n) (by omega) (by omega)
    rw [← e1] at this
    omega
  have h3 := iabs_rng (x := sL n N L - nI (mgN n)) (by omega) (by omega)
  refine ⟨h3.1, h3.2.1, h3.2.2.trans ?_⟩
  unfold mL
  rw [decide_eq_true_iff, ← Int32.toInt_inj, nI_toInt (by omega)]
  omega
theorem wo_rng {n : Nat} {N : Nat → Int32} (hn : n = 3 ∨ n = 4) (hN : NOK n N) : ∀ k, k ≤ 2 * n + 2 → 0 ≤ (wo n N k).toInt ∧ (wo n N k).toInt ≤ 1000 * k ∧ ((wo n N k).toInt = 0 ↔ mc n N k = k)
  | 0, _ => by
    have e : (wo n N 0).toInt = 0 := by show (nI 0).toInt = 0; rw [nI_toInt (by decide)]; rfl
    have e2 : mc n N 0 = 0 := rfl
    omega
  | k + 1, hk => by
    obtain ⟨h1, h2, h3⟩ := wo_rng hn hN k (by omega)
    obtain ⟨g1, g2, g3⟩ := dfL_rng hn hN (show k < 2 * n + 2 by omega)
    have e : (wo n N (k + 1)).toInt = (wo n N k).toInt + (dfL n N k).toInt := by
      show (wo n N k + dfL n N k).toInt = _
      rw [Int32.toInt_add, Int.bmod_def]
      split <;> omega
    have hle := mc_le n N k
    have e2 : mc n N (k + 1) = mc n N k + (if mL n N k = true then 1 else 0) := rfl
    by_cases h : mL n N k = true
    · rw [if_pos h] at e2
      have := g3.mpr h
      omega
    · rw [if_neg h] at e2
      have : ¬ (dfL n N k).toInt = 0 := fun z => h (g3.mp z)
      omega
theorem wof_mcn {n : Nat} {N : Nat → Int32} (hn : n = 3 ∨ n = 4) (hN : NOK n N) : wof n N = 0 ↔ mcn n N = 2 * n + 2 := by
  have h := (wo_rng hn hN (2 * n + 2) (Nat.le_refl _)).2.2
  rw [← Int32.toInt_inj, zero_toInt]
  exact h
theorem swW_rw {n a b : Nat} {N M : Nat → Int32} (hn : n = 3 ∨ n = 4) (hN : NOK n N) (h : AG n N M) (ha : a < n * n) (hb : b < n * n) : swW n N a b = rwW n M a b := by
  unfold swW rwW
  rw [decide_eq_decide.mpr (wof_mcn hn (NOK_cg h hN)), decide_eq_decide.mpr (wof_mcn hn (NOK_cg (ex_AG h ha hb) (NOK_ex hN ha hb))), mcn_cg hn h, mcn_cg hn (ex_AG h ha hb)]
/-- what is paid is had: no purse runs over -/
theorem cap_sub {x y : Int32} (h1 : ¬ x < y) (h2 : x.toInt ≤ 999999) (h3 : 0 ≤ y.toInt) : cap (x + (-y)) = x - y := by
  rw [lt_toInt] at h1
  have e : x + (-y) = x - y := by
    apply Int32.toBitVec_inj.mp
    simp only [Int32.toBitVec_add, Int32.toBitVec_neg, Int32.toBitVec_sub]
    bv_omega
  rw [e]
  refine cap_lo ?_
  rw [le_toInt, nI_toInt (by decide), Int32.toInt_sub, Int.bmod_def]
  split <;> omega
theorem cap_le (x : Int32) : (cap x).toInt ≤ 999999 := by
  unfold cap
  split
  · rw [nI_toInt (by decide)]; decide
  · rename_i h
    rw [lt_toInt, nI_toInt (by decide)] at h
    omega
/-- the class's state (N, O) and the reference's (M), in one -/
def GD (n : Nat) (N M Z P S : Nat → Int32) (tn k : Nat) (F : Nat → Nat → Int32) (O : Nat → UInt32) : Prop :=
  (n = 3 ∨ n = 4) ∧ NOK n N ∧ AG n N M ∧ (∀ c, n * n ≤ c → Z c = nI 0) ∧ ZOK Z ∧ (∀ r, (P r).toInt ≤ 999999) ∧ (∀ q, 0 ≤ (S q).toInt ∧ (S q).toInt ≤ 9) ∧ tn < 3 ∧ k ≤ 10 ∧ SOK n k F ∧ SMK k F ∧ RFD k F ∧ OA k O F
section GDS
variable {n tn k : Nat} {N M Z P S : Nat → Int32} {F : Nat → Nat → Int32} {O : Nat → UInt32}
theorem OA_ook (hR : RFD k F) (hO : OA k O F) : OOK k O := fun i hi => by rw [hO i hi]; exact (hR i hi).2.2
theorem GD_new {v : Nat} {N' M' : Nat → Int32} (h : GD n N M Z P S tn k F O) (hv : v = 3 ∨ v = 4) (hN : NOK v N') (hA : AG v N' M') : GD v N' M' zr P S tn 0 F O := by
  obtain ⟨_, _, _, _, _, hP, hS, ht, _, _, _, _, _⟩ := h
  exact ⟨hv, hN, hA, fun _ _ => rfl, fun _ => by show 0 ≤ (nI 0).toInt; decide, hP, hS, ht, by omega, fun i hi => absurd hi (Nat.not_lt_zero i), fun i hi => absurd hi (Nat.not_lt_zero i), fun i hi => absurd hi (Nat.not_lt_zero i), fun i hi => absurd hi (Nat.not_lt_zero i)⟩
theorem NOK_ord {v : Nat} (hv : v = 3 ∨ v = 4) : NOK v ord := by
  intro c hc
  have : c < 16 := by rcases hv with rfl | rfl <;> omega
  show nI (c + 1) = nI (nI (c + 1)).toNatClampNeg ∧ (nI (c + 1)).toNatClampNeg ≤ 16
  rw [nI_clamp (by omega)]
  exact ⟨rfl, by omega⟩
theorem AG_fst {v : Nat} {f g : Nat → Int32} : AG v f (fst_ f g (v * v)) := fun c hc => (fst_all hc).symm
theorem GD_lay {v sd : Nat} (h : GD n N M Z P S tn k F O) (hv : v = 3 ∨ v = 4) : GD v (shN v sd ord (v * v - 1)) (shN v sd (fst_ ord M (v * v)) (v * v - 1)) zr P S tn 0 F O := by
  have h0 : 0 < v * v := by rcases hv with rfl | rfl <;> decide
  exact GD_new h hv (NOK_sh (NOK_ord hv) h0 _ (Nat.le_refl _)) (shN_AG AG_fst h0 _ (Nat.le_refl _))
theorem GD_pass (h : GD n N M Z P S tn k F O) : GD n N M Z P S (nx tn) k F O := by
  obtain ⟨h1, h2, h3, h4, h5, h6, h7, _, h9⟩ := h
  exact ⟨h1, h2, h3, h4, h5, h6, h7, nx_lt tn, h9⟩
theorem GD_set {q : Nat} {y : Int32} (h : GD n N M Z P S tn k F O) (hE : alS (nI q) y = true) : GD n N M Z P (upd S q y) tn k F O := by
  obtain ⟨h1, h2, h3, h4, h5, h6, h7, h8⟩ := h
  refine ⟨h1, h2, h3, h4, h5, h6, fun j => ?_, h8⟩
  unfold upd
  by_cases e : j = q
  · rw [if_pos e]
    unfold alS at hE
    rw [Bool.and_eq_true, Bool.and_eq_true] at hE
    have g1 := of_decide_eq_true hE.2.1
    have g2 := of_decide_eq_true hE.2.2
    rw [lt_toInt, nI_toInt (by decide)] at g2
    rw [lt_toInt] at g1
    have g3 : 0 ≤ (if nI q = 0 then nI 1 else nI 0 : Int32).toInt := by split <;> decide
    omega
  · rw [if_neg e]
    exact h7 j
theorem GD_freeze {q : Nat} {x : Int32} {P' : Nat → Int32} (h : GD n N M Z P S tn k F O) (hq : q < n * n) (hx : ¬ x < nI 1) (hP : ∀ r, (P' r).toInt ≤ 999999) : GD n N M (upd Z q x) P' S (nx tn) k F O := by
  obtain ⟨h1, h2, h3, h4, h5, _, h7, _, h9⟩ := h
  refine ⟨h1, h2, h3, fun c hc => ?_, fun c => ?_, hP, h7, nx_lt tn, h9⟩
  · unfold upd
    rw [if_neg (by omega)]
    exact h4 c hc
  · unfold upd
    split
    · rw [lt_toInt, nI_toInt (by decide)] at hx
      omega
    · exact h5 c
theorem upd_le {P : Nat → Int32} {r : Nat} {x : Int32} (hP : ∀ r, (P r).toInt ≤ 999999) : ∀ j, (upd P r (cap x) j).toInt ≤ 999999 := by
  intro j
  unfold upd
  split
  · exact cap_le x
  · exact hP j
theorem stl_le {po : Int32} (hP : ∀ r, (P r).toInt ≤ 999999) : ∀ i r, ((stl n N F O P po i).1 r).toInt ≤ 999999
  | 0, r => hP r
  | i + 1, r => by
    simp only [stl]
    split
    · exact upd_le (stl_le hP i) r
    · exact stl_le hP i r
theorem swP_le {po : Int32} {a b : Nat} {rb wb : Bool} (hP : ∀ r, (P r).toInt ≤ 999999) : ∀ r, (swP (swS n N F O P S tn po k a b rb) tn wb r).toInt ≤ 999999 := by
  have h0 : ∀ r, ((swS n N F O P S tn po k a b rb).1 r).toInt ≤ 999999 := by
    cases rb with
    | false => exact upd_le hP
    | true => exact stl_le (upd_le hP) k
  cases wb with
  | false => exact h0
  | true => exact upd_le h0
theorem tw1_ok {x : Int32} (h : 0 ≤ x.toInt) : 0 ≤ (tw1 x).toInt := by
  unfold tw1
  split
  · rename_i g
    rw [lt_toInt, zero_toInt] at g
    rw [Int32.toInt_sub, nI_toInt (by decide), Int.bmod_def]
    have := x.toInt_lt
    split <;> omega
  · exact h
theorem GD_swap {po : Int32} {a b : Nat} {rb wb : Bool} (h : GD n N M Z P S tn k F O) (ha : a < n * n) (hb : b < n * n) : GD n (ex N a b) (ex M a b) (tw Z 16) (swP (swS n N F O P S tn po k a b rb) tn wb) S (nx tn) (swK k rb) F O := by
  obtain ⟨h1, h2, h3, h4, h5, h6, h7, _, h9, h10, h11, h12, h13⟩ := h
  have hkk : swK k rb ≤ k := by cases rb <;> simp [swK]
  refine ⟨h1, NOK_ex h2 ha hb, ex_AG h3 ha hb, fun c hc => ?_, fun c => ?_, swP_le h6, h7, nx_lt tn, by omega, fun i hi => h10 i (by omega), fun i hi => h11 i (by omega), fun i hi => h12 i (by omega), fun i hi => h13 i (by omega)⟩
  · unfold tw
    rw [h4 c hc]
    split <;> rfl
  · unfold tw
    split
    · exact tw1_ok (h5 c)
    · exact h5 c
theorem GD_read {t : Nat → Nat} {le : Nat} (h : GD n N M Z P S tn k F O) (hle : le ≤ 60) (htt : ∀ j, t j < 65536) (hE : flc t le = -1) : GD (sideOf t le) (fst_ (nrA t le) N le) (fst_ (nrA t le) M le) zr P S tn 0 F O := by
  obtain ⟨hs, hc, hb⟩ := flc_all hle hE
  have hf : ∀ (X : Nat → Int32) (c : Nat), c < sideOf t le * sideOf t le → fst_ (nrA t le) X le c = nrA t le c := fun X c hc2 => fst_all (hc ▸ hc2)
  refine GD_new h hs (fun c hc2 => ?_) (fun c hc2 => (hf N c hc2).trans (hf M c hc2).symm)
  have hb2 := bad_in (hb c (by omega))
  have hcs := cs_le t le
  have ht := htt c
  have hz := zz_le t le
  have e : nrA t le c = nI (t c - zz t le) := by
    unfold nrA
    rw [if_pos (show c < le by omega)]
    exact pk_sub (by unfold zz at hb2; unfold zz at *; omega)
  rw [hf N c hc2, e, nI_clamp (by omega)]
  exact ⟨rfl, by omega⟩
end GDS
