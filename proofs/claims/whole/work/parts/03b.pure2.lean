/-! stakes, odds, settings: words for both sides -/
def fl (F : Nat → Nat → Int32) : Nat → Int32 := fun j => F (j / 5) (j % 5)
theorem fl_at (F : Nat → Nat → Int32) (i b : Nat) (h : b < 5) : fl F (i * 5 + b) = F i b := by
  unfold fl
  rw [show (i * 5 + b) / 5 = i by omega, show (i * 5 + b) % 5 = b by omega]
theorem fl_w {F : Nat → Nat → Int32} {i b j : Nat} {v : Int32} (h : b < 5) : upd (fl F) (i * 5 + b) v j = fl (updF F i b v) j := by
  unfold upd fl updF
  by_cases h1 : j = i * 5 + b
  · subst h1
    rw [if_pos rfl, if_pos ⟨by omega, by omega⟩]
  · rw [if_neg h1, if_neg (by omega)]
def ln (F : Nat → Nat → Int32) (i : Nat) : Nat := (F i 1).toNatClampNeg
def rv (F : Nat → Nat → Int32) (i : Nat) : Nat := (F i 0).toNatClampNeg
/-- the stakes speak of lines and rivals that there are -/
def SOK (n k : Nat) (F : Nat → Nat → Int32) : Prop := ∀ i, i < k → (F i 1 = nI (ln F i) ∧ ln F i < 2 * n + 2) ∧ F i 0 = nI (rv F i) ∧ rv F i < 3
def rgt (n : Nat) (N : Nat → Int32) (F : Nat → Nat → Int32) (i : Nat) : Bool :=
  if F i 2 = nI 0 then mL n N (ln F i) else if F i 2 = nI 1 then decide (F i 4 < sL n N (ln F i)) else decide (sL n N (ln F i) < F i 4)
def pay (F : Nat → Nat → Int32) (O : Nat → UInt32) (i : Nat) : Int32 := FP.f2i (FP.fmul (FP.i2f (F i 3)) (O i))
def cw (F : Nat → Nat → Int32) (b : Nat) (x : Int32) : Nat → Nat
  | 0 => 0
  | k + 1 => cw F b x k + (if F k b = x then 1 else 0)
def aw (F : Nat → Nat → Int32) (b : Nat) (x : Int32) : Nat → Int32
  | 0 => nI 0
  | k + 1 => if F k b = x then aw F b x k + F k 3 else aw F b x k
def aa (F : Nat → Nat → Int32) : Nat → Int32
  | 0 => nI 0
  | k + 1 => aa F k + F k 3
def du (n : Nat) (N : Nat → Int32) (F : Nat → Nat → Int32) (O : Nat → UInt32) (r : Int32) : Nat → Int32
  | 0 => nI 0
  | k + 1 => if F k 0 = r ∧ rgt n N F k = true then du n N F O r k + pay F O k else du n N F O r k
def da (n : Nat) (N : Nat → Int32) (F : Nat → Nat → Int32) (O : Nat → UInt32) : Nat → Int32
  | 0 => nI 0
  | k + 1 => if rgt n N F k = true then da n N F O k + pay F O k else da n N F O k
def so (O : Nat → UInt32) : Nat → UInt32
  | 0 => FP.fconst0
  | k + 1 => FP.fadd (so O k) (O k)
section STK
variable {n b k : Nat} {N : Nat → Int32} {F : Nat → Nat → Int32} {O : Nat → UInt32} {x : Int32}
theorem cw_t (h : F k b = x) : cw F b x (k + 1) = cw F b x k + 1 := by simp [cw, h]
theorem cw_f (h : ¬ F k b = x) : cw F b x (k + 1) = cw F b x k := by simp [cw, h]
theorem aw_t (h : F k b = x) : aw F b x (k + 1) = aw F b x k + F k 3 := by simp [aw, h]
theorem aw_f (h : ¬ F k b = x) : aw F b x (k + 1) = aw F b x k := by simp [aw, h]
theorem du_t (h : F k 0 = x) (h2 : rgt n N F k = true) : du n N F O x (k + 1) = du n N F O x k + pay F O k := by simp [du, h, h2]
theorem du_f (h : ¬ F k 0 = x) : du n N F O x (k + 1) = du n N F O x k := by simp [du, h]
theorem du_f2 (h2 : rgt n N F k = false) : du n N F O x (k + 1) = du n N F O x k := by simp [du, h2]
theorem da_t (h2 : rgt n N F k = true) : da n N F O (k + 1) = da n N F O k + pay F O k := by simp [da, h2]
theorem da_f (h2 : rgt n N F k = false) : da n N F O (k + 1) = da n N F O k := by simp [da, h2]
theorem cw_le (F : Nat → Nat → Int32) (b : Nat) (x : Int32) : ∀ k, cw F b x k ≤ k
  | 0 => Nat.le_refl 0
  | k + 1 => by
    have := cw_le F b x k
    simp only [cw]
    split <;> omega
end STK
/-- a float that is a number from lo to hi -/
def vf1 (x : UInt32) (lo hi : Nat) : Prop := ∃ (c : Nat) (q : Int), FP.Core.decode FP.Core.b32 x.toNat = .fin false c q ∧ -149 ≤ q ∧ q ≤ 104 ∧ c < 2 ^ 24 ∧ (q = -149 ∨ 2 ^ 23 ≤ c) ∧ lo * 2 ^ 149 ≤ c * 2 ^ (q + 149).toNat ∧ c * 2 ^ (q + 149).toNat ≤ hi * 2 ^ 149
def OOK (k : Nat) (O : Nat → UInt32) : Prop := ∀ i, i < k → vf1 (O i) 1 20
/-- the numbers of a square are small -/
def NOK (n : Nat) (N : Nat → Int32) : Prop := ∀ c, c < n * n → N c = nI (N c).toNatClampNeg ∧ (N c).toNatClampNeg ≤ 16
def odf (o u : Int32) : UInt32 := FP.fadd FP.fconst1 (FP.fdiv (FP.i2f o) (FP.i2f u))
def ovr (n : Nat) (N : Nat → Int32) (L : Nat) (kd : Int32) : Int32 := if kd = nI 0 then dfL n N L else nI (mcn n N)
def und (n : Nat) (kd : Int32) : Int32 := if kd = nI 0 then nI 4 else nI (2 * n + 2)
def nwF (F : Nat → Nat → Int32) (k : Nat) (a0 a1 a2 a3 a4 : Int32) : Nat → Nat → Int32 := updF (updF (updF (updF (updF F k 0 a0) k 1 a1) k 2 a2) k 3 a3) k 4 a4
def cap (x : Int32) : Int32 := if nI 999999 < x then nI 999999 else x
def nx (tn : Nat) : Nat := if tn + 1 < 3 then tn + 1 else 0
theorem nx_lt (tn : Nat) : nx tn < 3 := by unfold nx; split <;> omega
/-- may a setting be set so -/
def alS (x y : Int32) : Bool := inB x 3 && (decide (¬ y < (if x = 0 then nI 1 else nI 0)) && decide (¬ nI 9 < y))
section ALS
variable {x y : Int32}
theorem inB_ltn {n : Nat} (h0 : ¬ x < 0) (h1 : x < nI n) (hn : n < 2 ^ 31) : inB x n = true := inB_of h0 (Int32.not_le.mpr h1) hn
theorem inB_gen {n : Nat} (h1 : ¬ x < nI n) (hn : n < 2 ^ 31) : inB x n = false := inB_big (Int32.not_lt.mp h1) hn
theorem alS_t1 (h0 : ¬ x < 0) (h1 : x < nI 3) (h : x = 0) (h2 : ¬ y < nI 1) (h3 : ¬ nI 9 < y) : alS x y = true := by
  rw [alS, inB_ltn h0 h1 (by decide), if_pos h, decide_eq_true h2, decide_eq_true h3]; rfl
theorem alS_t2 (h0 : ¬ x < 0) (h1 : x < nI 3) (h : ¬ x = 0) (h2 : ¬ y < nI 0) (h3 : ¬ nI 9 < y) : alS x y = true := by
  rw [alS, inB_ltn h0 h1 (by decide), if_neg h, decide_eq_true h2, decide_eq_true h3]; rfl
theorem alS_f0 (h0 : x < 0) : alS x y = false := by rw [alS, inB_neg h0]; rfl
theorem alS_f1 (h1 : ¬ x < nI 3) : alS x y = false := by rw [alS, inB_gen h1 (by decide)]; rfl
theorem alS_f2 (h : x = 0) (h2 : y < nI 1) : alS x y = false := by
  rw [alS, if_pos h, decide_eq_false (not_not_intro h2), Bool.false_and, Bool.and_false]
theorem alS_f3 (h : ¬ x = 0) (h2 : y < nI 0) : alS x y = false := by
  rw [alS, if_neg h, decide_eq_false (not_not_intro h2), Bool.false_and, Bool.and_false]
theorem alS_f4 (h2 : nI 9 < y) : alS x y = false := by
  rw [alS, decide_eq_false (p := ¬ nI 9 < y) (not_not_intro h2), Bool.and_false, Bool.and_false]
end ALS
/-- the settlement, stake by stake: purses and pot -/
def stl (n : Nat) (N : Nat → Int32) (F : Nat → Nat → Int32) (O : Nat → UInt32) (P : Nat → Int32) (po : Int32) : Nat → (Nat → Int32) × Int32
  | 0 => (P, po)
  | i + 1 => if rgt n N F i = true then (upd (stl n N F O P po i).1 (rv F i) (cap ((stl n N F O P po i).1 (rv F i) + pay F O i)), (stl n N F O P po i).2) else ((stl n N F O P po i).1, (stl n N F O P po i).2 + F i 3)
section STL
variable {n i : Nat} {N P : Nat → Int32} {F : Nat → Nat → Int32} {O : Nat → UInt32} {po : Int32}
theorem st_t (h : rgt n N F i = true) : stl n N F O P po (i + 1) = (upd (stl n N F O P po i).1 (rv F i) (cap ((stl n N F O P po i).1 (rv F i) + pay F O i)), (stl n N F O P po i).2) := by simp [stl, h]
theorem st_f (h : rgt n N F i = false) : stl n N F O P po (i + 1) = ((stl n N F O P po i).1, (stl n N F O P po i).2 + F i 3) := by simp [stl, h]
end STL
-- texts
def sideOf (t : Nat → Nat) (le : Nat) : Nat := if le = 0 then 0 else if 49 ≤ t 0 ∧ t 0 ≤ 57 then 3 else if 97 ≤ t 0 ∧ t 0 ≤ 112 then 4 else 0
def nrA (t : Nat → Nat) (le i : Nat) : Int32 := if i < le then nI (t i) - nI (if sideOf t le = 3 then 48 else 96) else nI 0
theorem sideOf_le (t : Nat → Nat) (le : Nat) : sideOf t le ≤ 4 := by unfold sideOf; split <;> (try split) <;> (try split) <;> omega
theorem sideOf_0 {t : Nat → Nat} : sideOf t 0 = 0 := rfl
theorem sideOf_3 {t : Nat → Nat} {le : Nat} (h : 0 < le) (h1 : 49 ≤ t 0) (h2 : t 0 ≤ 57) : sideOf t le = 3 := by unfold sideOf; rw [if_neg (by omega), if_pos ⟨h1, h2⟩]
theorem sideOf_4 {t : Nat → Nat} {le : Nat} (h : 0 < le) (h1 : 97 ≤ t 0) (h2 : t 0 ≤ 112) : sideOf t le = 4 := by unfold sideOf; rw [if_neg (by omega), if_neg (by omega), if_pos ⟨h1, h2⟩]
theorem sideOf_n {t : Nat → Nat} {le : Nat} (h : 0 < le) (h1 : ¬ (49 ≤ t 0 ∧ t 0 ≤ 57)) (h2 : ¬ (97 ≤ t 0 ∧ t 0 ≤ 112)) : sideOf t le = 0 := by unfold sideOf; rw [if_neg (by omega), if_neg h1, if_neg h2]
-- the history: addresses of four states, turned round
def rf (R : Nat → Nat → Nat) (rho : Nat) : Nat → Option Nat := fun j => some (R ((j + rho) % 4) 0)
def uA {α : Type} (f : Nat → α) (p : Nat) (v : α) : Nat → α := fun i => if i = p then v else f i
section MYROWS2
variable {p : Program} {l : Launch} {e : Env} {R : Room} {s : State} {m : MethodId} {args : Array Value} {below : List Frame} {meth : Method} {c : Code} {H : Heap} {locs : List Loc} {cells slots : Nat} {Q : State → Prop}
variable {cc : ByteArray} {pc : Nat} {ls : Array Slot} {rest : List Value} {D : va_G} {G : Nat → ClassId} {A : Nat → Prop} {a : Nat} {ws : va_W} {H0 : Heap}
theorem rTopV {x y : Value} (h : x = y) (k : W p l e R s m args below meth c H locs cells slots Q (F0 m pc ls (y :: rest))) : W p l e R s m args below meth c H locs cells slots Q (F0 m pc ls (x :: rest)) := h ▸ k
theorem rQast {v : Nat} (hx : p.tables.exec = Jvm.exec) (hb : c.code = cc) (hK : va_K D vwCl (tyl G) s) (hP : va_P D vwCl ws H) (hD : va_D A ws) (hS : va_S A H0 H locs) (q0 qk : Nat) {n : Nat} {f : Nat → Option Nat} {vs : List Value} (ha : ws[q0]? = some (a, .inl (G 3, n, .inr (.inr (.inr (.inr f)))))) (hv : ws[qk]? = some (v, .inr (2, vs))) (k : Nat) (hk : k < n) (hn : n < 2 ^ 31) (hdg : decode cc pc = .ok (.aastore, 1))
    (kk : ∀ (H1 : Heap) (locs1 : List Loc), va_P D vwCl (ws.set q0 (a, .inl (G 3, n, .inr (.inr (.inr (.inr (va_up f k (some v)))))))) H1 → va_D A (ws.set q0 (a, .inl (G 3, n, .inr (.inr (.inr (.inr (va_up f k (some v)))))))) → va_S A H0 H1 locs1 → W p l e R s m args below meth c H1 locs1 cells slots Q (F0 m (pc + 1) ls rest)) : W p l e R s m args below meth c H locs cells slots Q (F0 m pc ls (.ref v :: .int (nI k) :: .ref a :: rest)) :=
  va_astq hx hb hK hP hD hS q0 3 qk 2 (r := (RX2, TX2, 9)) ha rfl hv rfl (vp_in_nI hk hn) hdg (by rw [nI_clamp (by omega)]; exact kk)
end MYROWS2
-- faults of texts
def zz (t : Nat → Nat) (le : Nat) : Nat := if sideOf t le = 3 then 48 else 96
def cs (t : Nat → Nat) (le : Nat) : Nat := sideOf t le * sideOf t le
theorem cs_le (t : Nat → Nat) (le : Nat) : cs t le ≤ 16 := Nat.mul_le_mul (sideOf_le t le) (sideOf_le t le)
theorem zz_le (t : Nat → Nat) (le : Nat) : zz t le ≤ 96 := by unfold zz; split <;> omega
def dp (t : Nat → Nat) (x : Nat) : Nat → Bool
  | 0 => false
  | k + 1 => dp t x k || decide (t k = x)
def bad (t : Nat → Nat) (le i : Nat) : Bool := decide (cs t le ≤ i) || (decide (t i < zz t le + 1) || (decide (zz t le + cs t le < t i) || dp t (t i) i))
def frs (t : Nat → Nat) (le : Nat) : Nat → Nat
  | 0 => 0
  | k + 1 => if frs t le k < k then frs t le k else if bad t le k = true then k else k + 1
def flc (t : Nat → Nat) (le : Nat) : Int32 := if frs t le le < le then nI (frs t le le) else if le = 0 ∨ le < cs t le then nI le else -1
theorem frs_le (t : Nat → Nat) (le : Nat) : ∀ k, frs t le k ≤ k
  | 0 => Nat.le_refl 0
  | k + 1 => by
    have := frs_le t le k
    simp only [frs]
    split
    · omega
    · split <;> omega
theorem frs_go {t : Nat → Nat} {le k : Nat} (h : frs t le k = k) (hb : bad t le k = false) : frs t le (k + 1) = k + 1 := by
  simp only [frs, h, Nat.lt_irrefl, if_false, hb]
  rfl
theorem frs_stop {t : Nat → Nat} {le k : Nat} (h : frs t le k = k) (hb : bad t le k = true) : ∀ d, frs t le (k + 1 + d) = k
  | 0 => by simp only [Nat.add_zero, frs, h, Nat.lt_irrefl, if_false, hb, if_true]
  | d + 1 => by
    show frs t le (k + 1 + d + 1) = k
    have := frs_stop h hb d
    simp only [frs, this]
    rw [if_pos (by omega)]
theorem frs_hit {t : Nat → Nat} {le i : Nat} (h : frs t le i = i) (hi : i < le) (hb : bad t le i = true) : frs t le le = i := by
  have := frs_stop h hb (le - (i + 1))
  rwa [show i + 1 + (le - (i + 1)) = le by omega] at this
theorem flc_hit {t : Nat → Nat} {le i : Nat} (h : frs t le i = i) (hi : i < le) (hb : bad t le i = true) : nI i = flc t le := by
  unfold flc
  rw [frs_hit h hi hb, if_pos hi]
theorem flc_end {t : Nat → Nat} {le : Nat} (h : frs t le le = le) (h2 : le = 0 ∨ le < cs t le) : nI le = flc t le := by
  unfold flc
  rw [h, if_neg (Nat.lt_irrefl _), if_pos h2]
theorem flc_ok {t : Nat → Nat} {le : Nat} (h : frs t le le = le) (h1 : 0 < le) (h2 : cs t le ≤ le) : -1 = flc t le := by
  unfold flc
  rw [h, if_neg (Nat.lt_irrefl _), if_neg (by omega)]
theorem bad_1 {t : Nat → Nat} {le i : Nat} (h : cs t le ≤ i) : bad t le i = true := by simp [bad, h]
theorem num_lo {a z : Nat} (ha : a < 65536) (hz : z ≤ 96) : nI a - nI z < nI 1 ↔ a < z + 1 := by
  rw [lt_toInt, pk_sub_toInt (by omega) (by omega), nI_toInt (by decide)]
  omega
theorem num_hi {a z c : Nat} (ha : a < 65536) (hz : z ≤ 96) (hc : c ≤ 16) : nI c < nI a - nI z ↔ z + c < a := by
  rw [lt_toInt, pk_sub_toInt (by omega) (by omega), nI_toInt (by omega)]
  omega
theorem bad_2 {t : Nat → Nat} {le i : Nat} (ht : t i < 65536) (h : nI (t i) - nI (zz t le) < nI 1) : bad t le i = true := by
  have := (num_lo ht (zz_le t le)).mp h
  simp [bad, this]
theorem bad_3 {t : Nat → Nat} {le i : Nat} (ht : t i < 65536) (h : nI (cs t le) < nI (t i) - nI (zz t le)) : bad t le i = true := by
  have := (num_hi ht (zz_le t le) (cs_le t le)).mp h
  simp [bad, this]
theorem bad_4 {t : Nat → Nat} {le i : Nat} (h : dp t (t i) i = true) : bad t le i = true := by simp [bad, h]
theorem bad_no {t : Nat → Nat} {le i : Nat} (h1 : i < cs t le) (h2 : zz t le + 1 ≤ t i) (h3 : t i ≤ zz t le + cs t le) (h4 : dp t (t i) i = false) : bad t le i = false := by
  simp only [bad, h4, decide_eq_false (show ¬ cs t le ≤ i by omega), decide_eq_false (show ¬ t i < zz t le + 1 by omega), decide_eq_false (show ¬ zz t le + cs t le < t i by omega)]
  rfl
/-- which of the numbers have been seen, as bits -/
def mkk (f : Nat → Nat) : Nat → Nat
  | 0 => 0
  | k + 1 => mkk f k ||| 2 ^ (f k)
theorem mkk_lt {f : Nat → Nat} : ∀ {k : Nat}, (∀ j, j < k → f j < 17) → mkk f k < 2 ^ 17
  | 0, _ => Nat.two_pow_pos 17
  | k + 1, h => Nat.or_lt_two_pow (mkk_lt (fun j hj => h j (by omega))) (Nat.pow_lt_pow_right (by decide) (h k (by omega)))
theorem mkk_bit {f t : Nat → Nat} {x y : Nat} : ∀ {k : Nat}, (∀ j, j < k → (f j = x ↔ t j = y)) → (mkk f k).testBit x = dp t y k
  | 0, _ => by simp [mkk, dp]
  | k + 1, h => by
    show (mkk f k ||| 2 ^ f k).testBit x = (dp t y k || decide (t k = y))
    rw [Nat.testBit_or, mkk_bit (fun j hj => h j (by omega)), Nat.testBit_two_pow]
    congr 1
    exact decide_eq_decide.mpr (h k (by omega))
theorem seen_bit {mk d : Nat} (hm : mk < 2 ^ 17) (hd : d < 17) : ((nI mk >>> (nI d &&& 31)) &&& nI 1) = zB (mk.testBit d) := by
  have hs : ∀ d, d < 17 → ((nI d &&& 31).toBitVec.smod 32).toNat = d := by decide +kernel
  rw [pk_shrN (by omega) _ d (hs d hd), show nI 1 = (1 : Int32) from rfl, pk_andN (k := 1) (by have := Nat.div_le_self mk (2 ^ d); omega) (by decide +kernel)]
  have e : mk.testBit d = decide (mk / 2 ^ d % 2 = 1) := Nat.testBit_eq_decide_div_mod_eq
  rw [e]
  have h2 : mk / 2 ^ d % 2 = 0 ∨ mk / 2 ^ d % 2 = 1 := by omega
  rcases h2 with h | h
  · rw [show mk / 2 ^ d % 2 ^ 1 = 0 from h]; rfl
  · rw [show mk / 2 ^ d % 2 ^ 1 = 1 from h]; rfl
theorem nI_or (a b : Nat) : nI a ||| nI b = nI (a ||| b) := by
  apply Int32.toBitVec_inj.mp
  show BitVec.ofNat 32 a ||| BitVec.ofNat 32 b = BitVec.ofNat 32 (a ||| b)
  exact (BitVec.ofNat_or ..).symm
theorem seen_put {mk d : Nat} (hd : d < 17) : (nI mk ||| (nI 1 <<< (nI d &&& 31))) = nI (mk ||| 2 ^ d) := by
  have hs : ∀ d, d < 17 → ((nI d &&& 31).toBitVec.smod 32).toNat = d := by decide +kernel
  have hp : 2 ^ d < 2 ^ 17 := Nat.pow_lt_pow_right (by decide) hd
  rw [pk_shlN _ d (hs d hd) (by omega), Nat.one_mul, nI_or]
theorem zB_eq1 {b : Bool} : zB b = nI 1 ↔ b = true := by cases b <;> decide +kernel
/-- before i every character stands well -/
theorem frs_good {t : Nat → Nat} {le : Nat} : ∀ {i : Nat}, frs t le i = i → ∀ j, j < i → bad t le j = false
  | 0, _, j, h => absurd h (Nat.not_lt_zero j)
  | i + 1, h, j, hj => by
    have h1 := frs_le t le i
    have h0 : frs t le i = i := by
      by_cases z : frs t le i < i
      · simp only [frs, if_pos z] at h
        omega
      · omega
    rcases Nat.lt_or_ge j i with q | q
    · exact frs_good h0 j q
    · obtain rfl : j = i := by omega
      cases hb : bad t le j with
      | false => rfl
      | true =>
        simp only [frs, h0, Nat.lt_irrefl, if_false, hb, if_true] at h
        omega
theorem bad_in {t : Nat → Nat} {le j : Nat} (h : bad t le j = false) : j < cs t le ∧ zz t le + 1 ≤ t j ∧ t j ≤ zz t le + cs t le := by
  simp only [bad, Bool.or_eq_false_iff, decide_eq_false_iff_not] at h
  omega
-- answers and errors of the face, over raw arguments
def layOK (x y : Int32) : Bool := (decide (x = nI 3) || decide (x = nI 4)) && inB y 10000
def cellN (n : Nat) (N Z : Nat → Int32) (c : Nat) (y : Int32) : Int32 := if y = nI 0 then N c else if y = nI 1 then Z c else if y = nI 2 then nI (lt_ n c (2 * n + 2)) else if y = nI 3 then nI (ltm n N c (2 * n + 2)) else -2
def celQ (n : Nat) (N Z : Nat → Int32) (x y : Int32) : Int32 := if inB x (n * n) = true then cellN n N Z x.toNatClampNeg y else -1
def lineN (n : Nat) (N : Nat → Int32) (k : Nat) (F : Nat → Nat → Int32) (L : Nat) (y : Int32) : Int32 := if y = nI 0 then sL n N L else if y = nI 1 then sL n N L - nI (mgN n) + nI 100 else if y = nI 2 then zB (mL n N L) else if y = nI 3 then nI (cw F 1 (nI L) k) else if y = nI 4 then aw F 1 (nI L) k else -2
def lineQ (n : Nat) (N : Nat → Int32) (k : Nat) (F : Nat → Nat → Int32) (x y : Int32) : Int32 := if inB x (2 * n + 2) = true then lineN n N k F x.toNatClampNeg y else -1
def rivalN (n : Nat) (N : Nat → Int32) (k : Nat) (F : Nat → Nat → Int32) (O : Nat → UInt32) (P V : Nat → Int32) (r : Nat) (y : Int32) : Int32 := if y = nI 0 then P r else if y = nI 1 then V r else if y = nI 2 then nI (cw F 0 (nI r) k) else if y = nI 3 then aw F 0 (nI r) k else if y = nI 4 then du n N F O (nI r) k else -2
def rivalQ (n : Nat) (N : Nat → Int32) (k : Nat) (F : Nat → Nat → Int32) (O : Nat → UInt32) (P V : Nat → Int32) (x y : Int32) : Int32 := if inB x 3 = true then rivalN n N k F O P V x.toNatClampNeg y else -1
def stakeN (n : Nat) (N : Nat → Int32) (F : Nat → Nat → Int32) (O : Nat → UInt32) (i : Nat) (y : Int32) : Int32 := if y = nI 0 then F i 0 else if y = nI 1 then F i 1 else if y = nI 2 then F i 2 else if y = nI 3 then F i 3 else if y = nI 4 then F i 4 else if y = nI 5 then zB (rgt n N F i) else if y = nI 6 then pay F O i else -2
def stakeQ (n : Nat) (N : Nat → Int32) (k : Nat) (F : Nat → Nat → Int32) (O : Nat → UInt32) (x y : Int32) : Int32 := if inB x k = true then stakeN n N F O x.toNatClampNeg y else -1
def oddsQ (k : Nat) (O : Nat → UInt32) (x : Int32) : UInt32 := if inB x k = true then O x.toNatClampNeg else 3212836864
def wouldN (n : Nat) (N : Nat → Int32) (k : Nat) (F : Nat → Nat → Int32) (O : Nat → UInt32) (a b : Nat) (w : Int32) : Int32 := if w = nI 0 then wof n (ex N a b) else if w = nI 1 then nI (mcn n (ex N a b)) else da n (ex N a b) F O k
def wouldQ (n : Nat) (N : Nat → Int32) (k : Nat) (F : Nat → Nat → Int32) (O : Nat → UInt32) (x y w : Int32) : Int32 :=
  if inB x (n * n) = true ∧ inB y (n * n) = true then (if inB w 3 = true ∧ x ≠ y then wouldN n N k F O x.toNatClampNeg y.toNatClampNeg w else -2) else -1
def swE (n : Nat) (Z P S : Nat → Int32) (tn : Nat) (x y : Int32) : Int32 :=
  if inB x (n * n) = true ∧ inB y (n * n) = true then (if x = y then -2 else if 0 < Z x.toNatClampNeg ∨ 0 < Z y.toNatClampNeg then -4 else if P tn < S 1 then -3 else 0) else -1
def frE (n : Nat) (Z P S : Nat → Int32) (tn : Nat) (x y : Int32) : Int32 :=
  if inB x (n * n) = true then (if y < nI 1 ∨ nI 6 < y then -2 else if 0 < Z x.toNatClampNeg then -4 else if P tn < y * S 2 then -3 else 0) else -1
def skE (n k : Nat) (P : Nat → Int32) (tn : Nat) (x y w : Int32) : Int32 :=
  if inB x (2 * n + 2) = true then (if inB y 3 = false ∨ w < nI 1 ∨ nI 99 < w then -2 else if 10 ≤ k ∨ P tn < w then -3 else 0) else -1
def mn (kh : Nat) : Nat := if kh < 4 then kh + 1 else 4
def ro (kh rho : Nat) : Nat := if kh < 4 then rho else rho + 1
theorem mn_lt {kh : Nat} (h : kh < 4) : mn kh = kh + 1 := if_pos h
theorem ro_lt {kh rho : Nat} (h : kh < 4) : ro kh rho = rho := if_pos h
theorem mn_4 : mn 4 = 4 := rfl
theorem ro_4 {rho : Nat} : ro 4 rho = rho + 1 := rfl
theorem nor2 {A B : Prop} [Decidable A] [Decidable B] (h1 : decide A = false) (h2 : decide B = false) : ¬ (A ∨ B) := fun z => z.elim (of_decide_eq_false h1) (of_decide_eq_false h2)
theorem dec_nn {A : Prop} [Decidable A] (h : decide (¬ A) = false) : A := Decidable.not_not.mp (of_decide_eq_false h)
theorem nor3 {y : Int32} (h1 : ¬ y < nI 1) (h2 : y ≤ nI 6) : ¬ (y < nI 1 ∨ nI 6 < y) := fun z => z.elim h1 (Int32.not_lt.mpr h2)
theorem inB_3g {y : Int32} (h : ¬ y ≤ nI 2) : inB y 3 = false := inB_big_le (Int32.not_le.mp h) (by decide)
theorem sk_ok {y w : Int32} (h0 : ¬ y < 0) (h1 : y ≤ nI 2) (h2 : ¬ w < nI 1) (h3 : w ≤ nI 99) : ¬ (inB y 3 = false ∨ w < nI 1 ∨ nI 99 < w) := by
  rintro (z | z | z)
  · rw [inB_of_le h0 (Int32.not_lt.mpr h1) (by decide) (by decide)] at z
    cases z
  · exact h2 z
  · exact absurd z (Int32.not_lt.mpr h3)
section QL
variable {n : Nat} {N Z P V S : Nat → Int32} {k tn : Nat} {F : Nat → Nat → Int32} {O : Nat → UInt32} {x y w : Int32} {a b : Nat}
theorem swE_f1 (h : inB x (n * n) = false) : -1 = swE n Z P S tn x y := by unfold swE; rw [if_neg (by rw [h]; rintro ⟨z, -⟩; cases z)]
theorem swE_f2 (h : inB y (n * n) = false) : -1 = swE n Z P S tn x y := by unfold swE; rw [if_neg (by rw [h]; rintro ⟨-, z⟩; cases z)]
theorem swE_in (ha : a < n * n) (hb : b < n * n) (h : n * n < 17) : swE n Z P S tn (nI a) (nI b) = if a = b then -2 else if 0 < Z a ∨ 0 < Z b then -4 else if P tn < S 1 then -3 else 0 := by
  unfold swE
  rw [if_pos ⟨by rw [inB_nI (by omega)]; exact decide_eq_true ha, by rw [inB_nI (by omega)]; exact decide_eq_true hb⟩, nI_clamp (by omega), nI_clamp (by omega)]
  by_cases e : a = b
  · rw [if_pos e, if_pos (by rw [e])]
  · rw [if_neg e, if_neg (fun z => e ((nI_eq (by omega) (by omega)).mp z))]
theorem frE_f1 (h : inB x (n * n) = false) : -1 = frE n Z P S tn x y := by unfold frE; rw [if_neg (by rw [h]; exact Bool.false_ne_true)]
theorem frE_in (ha : a < n * n) (h : n * n < 17) : frE n Z P S tn (nI a) y = if y < nI 1 ∨ nI 6 < y then -2 else if 0 < Z a then -4 else if P tn < y * S 2 then -3 else 0 := by
  unfold frE
  rw [if_pos (by rw [inB_nI (by omega)]; exact decide_eq_true ha), nI_clamp (by omega)]
theorem skE_f1 (h : inB x (2 * n + 2) = false) : -1 = skE n k P tn x y w := by unfold skE; rw [if_neg (by rw [h]; exact Bool.false_ne_true)]
theorem skE_in (ha : a < 2 * n + 2) (h : 2 * n + 2 < 2 ^ 31) : skE n k P tn (nI a) y w = if inB y 3 = false ∨ w < nI 1 ∨ nI 99 < w then -2 else if 10 ≤ k ∨ P tn < w then -3 else 0 := by
  unfold skE
  rw [if_pos (by rw [inB_nI (by omega)]; exact decide_eq_true ha)]
theorem celQ_f (h : inB x (n * n) = false) : -1 = celQ n N Z x y := by unfold celQ; rw [if_neg (by rw [h]; exact Bool.false_ne_true)]
theorem celQ_in (ha : a < n * n) (h : n * n < 17) : celQ n N Z (nI a) y = cellN n N Z a y := by
  unfold celQ
  rw [if_pos (by rw [inB_nI (by omega)]; exact decide_eq_true ha), nI_clamp (by omega)]
theorem lineQ_f (h : inB x (2 * n + 2) = false) : -1 = lineQ n N k F x y := by unfold lineQ; rw [if_neg (by rw [h]; exact Bool.false_ne_true)]
theorem lineQ_in (ha : a < 2 * n + 2) (h : 2 * n + 2 < 2 ^ 31) : lineQ n N k F (nI a) y = lineN n N k F a y := by
  unfold lineQ
  rw [if_pos (by rw [inB_nI (by omega)]; exact decide_eq_true ha), nI_clamp (by omega)]
theorem rivalQ_f (h : inB x 3 = false) : -1 = rivalQ n N k F O P V x y := by unfold rivalQ; rw [if_neg (by rw [h]; exact Bool.false_ne_true)]
theorem rivalQ_in (ha : a < 3) : rivalQ n N k F O P V (nI a) y = rivalN n N k F O P V a y := by
  unfold rivalQ
  rw [if_pos (by rw [inB_nI (by omega)]; exact decide_eq_true ha), nI_clamp (by omega)]
theorem stakeQ_f (h : inB x k = false) : -1 = stakeQ n N k F O x y := by unfold stakeQ; rw [if_neg (by rw [h]; exact Bool.false_ne_true)]
theorem stakeQ_in (ha : a < k) (h : k < 17) : stakeQ n N k F O (nI a) y = stakeN n N F O a y := by
  unfold stakeQ
  rw [if_pos (by rw [inB_nI (by omega)]; exact decide_eq_true ha), nI_clamp (by omega)]
theorem oddsQ_f (h : inB x k = false) : 3212836864 = oddsQ k O x := by unfold oddsQ; rw [if_neg (by rw [h]; exact Bool.false_ne_true)]
theorem oddsQ_in (ha : a < k) (h : k < 17) : O a = oddsQ k O (nI a) := by
  unfold oddsQ
  rw [if_pos (by rw [inB_nI (by omega)]; exact decide_eq_true ha), nI_clamp (by omega)]
end QL
