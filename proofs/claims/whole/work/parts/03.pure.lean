/-! numbers of the parlour, said once for both sides -/
theorem lt_toInt (a b : Int32) : a < b ↔ a.toInt < b.toInt := Int32.lt_iff_toInt_lt
theorem le_toInt (a b : Int32) : a ≤ b ↔ a.toInt ≤ b.toInt := Int32.le_iff_toInt_le
theorem zero_toInt : (0 : Int32).toInt = 0 := rfl
theorem nI_dec {k : Nat} (h : 0 < k) : nI k + Int32.ofInt (-1) = nI (k - 1) := by
  obtain ⟨j, rfl⟩ : ∃ j, k = j + 1 := ⟨k - 1, by omega⟩
  exact pk_m1 j
theorem zB_fit (b : Bool) : fits .boolean (.int (zB b)) = true := by cases b <;> decide +kernel
theorem cpy_all {α : Type} {f g : Nat → α} {n j : Nat} (h : j < n) : va_cpy f g 0 0 n j = f j := by
  unfold va_cpy
  rw [if_pos ⟨Nat.zero_le _, by omega⟩]
  congr 1
  omega
theorem upd_s {f : Nat → Int32} {k : Nat} {x : Int32} : upd f k x k = x := pk_us
theorem upd_n {f : Nat → Int32} {k j : Nat} {x : Int32} (h : j ≠ k) : upd f k x j = f j := pk_un h
/-- x is one of 0 .. n - 1 -/
def inB (x : Int32) (n : Nat) : Bool := decide (0 ≤ x.toInt ∧ x.toInt < (n : Int))
theorem inB_nI {j n : Nat} (hj : j < 2 ^ 31) : inB (nI j) n = decide (j < n) := by
  unfold inB
  rw [nI_toInt hj]
  congr 1
  apply propext
  omega
theorem inB_of {x : Int32} {n : Nat} (h0 : ¬ x < 0) (h1 : ¬ nI n ≤ x) (hn : n < 2 ^ 31) : inB x n = true := by
  rw [lt_toInt] at h0
  rw [le_toInt, nI_toInt hn] at h1
  rw [zero_toInt] at h0
  exact decide_eq_true ⟨by omega, by omega⟩
theorem inB_of_le {x : Int32} {n : Nat} (h0 : ¬ x < 0) (h1 : ¬ nI (n - 1) < x) (hn : n < 2 ^ 31) (hp : 0 < n) : inB x n = true := by
  rw [lt_toInt] at h0 h1
  rw [nI_toInt (by omega)] at h1
  rw [zero_toInt] at h0
  exact decide_eq_true ⟨by omega, by omega⟩
theorem inB_neg {x : Int32} {n : Nat} (h0 : x < 0) : inB x n = false := by
  rw [lt_toInt, zero_toInt] at h0
  exact decide_eq_false (by omega)
theorem inB_big {x : Int32} {n : Nat} (h1 : nI n ≤ x) (hn : n < 2 ^ 31) : inB x n = false := by
  rw [le_toInt, nI_toInt hn] at h1
  exact decide_eq_false (by omega)
theorem inB_big_le {x : Int32} {n : Nat} (h1 : nI (n - 1) < x) (hn : n < 2 ^ 31) : inB x n = false := by
  rw [lt_toInt, nI_toInt (by omega)] at h1
  exact decide_eq_false (by omega)
theorem inB_ex {x : Int32} {n : Nat} (h : inB x n = true) (hn : n < 2 ^ 31) : ∃ j, j < n ∧ x = nI j := by
  have h := of_decide_eq_true h
  refine ⟨x.toInt.toNat, by omega, ?_⟩
  rw [← Int32.toInt_inj, nI_toInt (by omega)]
  omega
def iabs (x : Int32) : Int32 := if 0 ≤ x then x else 0 - x
theorem iabs_neg {x : Int32} (h : x < 0) : 0 - x = iabs x := by
  unfold iabs
  rw [if_neg]
  rw [le_toInt]
  rw [lt_toInt] at h
  omega
theorem iabs_pos {x : Int32} (h : ¬ x < 0) : x = iabs x := by
  unfold iabs
  rw [if_pos]
  rw [le_toInt]
  rw [lt_toInt] at h
  omega
theorem iabs_0 {x : Int32} : iabs x = 0 ↔ x = 0 := by
  unfold iabs
  split
  · exact Iff.rfl
  · constructor
    · intro h
      have h1 : 0 - (0 - x) = 0 - 0 := by rw [h]
      simpa using h1
    · intro h
      subst h
      rfl
theorem sub_0 {x y : Int32} : x - y = 0 ↔ x = y := by
  constructor
  · intro h
    have h1 : (x - y) + y = 0 + y := by rw [h]
    simpa using h1
  · intro h
    subst h
    simp
-- the square
def cel (n L k : Nat) : Nat := if L < n then L * n + k else if L < 2 * n then k * n + (L - n) else if L = 2 * n then k * (n + 1) else (k + 1) * (n - 1)
theorem cel_lt {n L k : Nat} (hn : n = 3 ∨ n = 4) (hL : L < 2 * n + 2) (hk : k < n) : cel n L k < n * n := by
  rcases hn with rfl | rfl
  · exact (by decide : ∀ L, L < 8 → ∀ k, k < 3 → cel 3 L k < 3 * 3) L hL k hk
  · exact (by decide : ∀ L, L < 10 → ∀ k, k < 4 → cel 4 L k < 4 * 4) L hL k hk
def sm (n : Nat) (N : Nat → Int32) (L : Nat) : Nat → Int32
  | 0 => nI 0
  | k + 1 => sm n N L k + N (cel n L k)
def sL (n : Nat) (N : Nat → Int32) (L : Nat) : Int32 := sm n N L n
def mgN (n : Nat) : Nat := n * (n * n + 1) / 2
def dfL (n : Nat) (N : Nat → Int32) (L : Nat) : Int32 := iabs (sL n N L - nI (mgN n))
def wo (n : Nat) (N : Nat → Int32) : Nat → Int32
  | 0 => nI 0
  | k + 1 => wo n N k + dfL n N k
def wof (n : Nat) (N : Nat → Int32) : Int32 := wo n N (2 * n + 2)
def mL (n : Nat) (N : Nat → Int32) (L : Nat) : Bool := decide (sL n N L = nI (mgN n))
def mc (n : Nat) (N : Nat → Int32) : Nat → Nat
  | 0 => 0
  | k + 1 => mc n N k + (if mL n N k = true then 1 else 0)
def mcn (n : Nat) (N : Nat → Int32) : Nat := mc n N (2 * n + 2)
theorem mc_le (n : Nat) (N : Nat → Int32) : ∀ k, mc n N k ≤ k
  | 0 => Nat.le_refl 0
  | k + 1 => by
    have := mc_le n N k
    simp only [mc]
    split <;> omega
theorem mc_t {n : Nat} {N : Nat → Int32} {k : Nat} (h : mL n N k = true) : mc n N (k + 1) = mc n N k + 1 := by simp [mc, h]
theorem mc_f {n : Nat} {N : Nat → Int32} {k : Nat} (h : mL n N k = false) : mc n N (k + 1) = mc n N k := by simp [mc, h]
theorem mL_off {n : Nat} {N : Nat → Int32} {L : Nat} : mL n N L = decide (dfL n N L = 0) := by
  unfold mL dfL
  congr 1
  apply propext
  rw [iabs_0, sub_0]
/-- is a cell on a line, as the reference asks it -/
def isOn (n L c : Nat) : Bool := if L < n then decide (c / n = L) else if L < 2 * n then decide (c % n = L - n) else if L = 2 * n then decide (c / n = c % n) else decide (c / n + c % n = n - 1)
/-- .. and as the class does: a place of the line is it -/
def onP (n L c : Nat) : Nat → Bool
  | 0 => false
  | k + 1 => onP n L c k || decide (cel n L k = c)
theorem onP_is {n L c : Nat} (hn : n = 3 ∨ n = 4) (hL : L < 2 * n + 2) (hc : c < n * n) : onP n L c n = isOn n L c := by
  rcases hn with rfl | rfl
  · exact (by decide : ∀ L, L < 8 → ∀ c, c < 9 → onP 3 L c 3 = isOn 3 L c) L hL c hc
  · exact (by decide +kernel : ∀ L, L < 10 → ∀ c, c < 16 → onP 4 L c 4 = isOn 4 L c) L hL c hc
theorem onP_mono {n L c : Nat} : ∀ (d k : Nat), onP n L c k = true → onP n L c (k + d) = true
  | 0, _, h => h
  | d + 1, k, h => by
    show (onP n L c (k + d) || _) = true
    rw [onP_mono d k h]
    rfl
theorem onP_hit {n L c k : Nat} (hk : k < n) (h : cel n L k = c) : onP n L c n = true := by
  have h1 : onP n L c (k + 1) = true := by
    show (onP n L c k || decide (cel n L k = c)) = true
    rw [decide_eq_true h, Bool.or_true]
  have h2 := onP_mono (n - (k + 1)) (k + 1) h1
  rwa [show k + 1 + (n - (k + 1)) = n by omega] at h2
theorem onP_miss {n L c k : Nat} (h0 : onP n L c k = false) (h : cel n L k ≠ c) : onP n L c (k + 1) = false := by
  show (onP n L c k || decide (cel n L k = c)) = false
  rw [h0, decide_eq_false h]
  rfl
/-- the reference's sum: over the cells -/
def sc (n : Nat) (N : Nat → Int32) (L : Nat) : Nat → Int32
  | 0 => nI 0
  | c + 1 => sc n N L c + (if isOn n L c = true then N c else nI 0)
theorem sc_all {n : Nat} (hn : n = 3 ∨ n = 4) (N : Nat → Int32) {L : Nat} (hL : L < 2 * n + 2) : sc n N L (n * n) = sL n N L := by
  have z : nI 0 = 0 := nI_0
  rcases hn with rfl | rfl
  · have : L = 0 ∨ L = 1 ∨ L = 2 ∨ L = 3 ∨ L = 4 ∨ L = 5 ∨ L = 6 ∨ L = 7 := by omega
    rcases this with rfl | rfl | rfl | rfl | rfl | rfl | rfl | rfl <;> simp [sc, sL, sm, isOn, cel, z]
  · have : L = 0 ∨ L = 1 ∨ L = 2 ∨ L = 3 ∨ L = 4 ∨ L = 5 ∨ L = 6 ∨ L = 7 ∨ L = 8 ∨ L = 9 := by omega
    rcases this with rfl | rfl | rfl | rfl | rfl | rfl | rfl | rfl | rfl | rfl <;> simp [sc, sL, sm, isOn, cel, z]
/-- two cells exchanged -/
def ex (N : Nat → Int32) (a b : Nat) : Nat → Int32 := upd (upd N a (N b)) b (N a)
/-- lines through a cell; the magic ones -/
def lt_ (n c : Nat) : Nat → Nat
  | 0 => 0
  | k + 1 => lt_ n c k + (if isOn n k c = true then 1 else 0)
def ltm (n : Nat) (N : Nat → Int32) (c : Nat) : Nat → Nat
  | 0 => 0
  | k + 1 => ltm n N c k + (if (isOn n k c && mL n N k) = true then 1 else 0)
theorem lt_le (n c : Nat) : ∀ k, lt_ n c k ≤ k
  | 0 => Nat.le_refl 0
  | k + 1 => by
    have := lt_le n c k
    simp only [lt_]
    split <;> omega
theorem ltm_le (n : Nat) (N : Nat → Int32) (c : Nat) : ∀ k, ltm n N c k ≤ k
  | 0 => Nat.le_refl 0
  | k + 1 => by
    have := ltm_le n N c k
    simp only [ltm]
    split <;> omega
-- frozen cells
def fz (Z : Nat → Int32) : Nat → Nat
  | 0 => 0
  | k + 1 => fz Z k + (if 0 < Z k then 1 else 0)
theorem fz_le (Z : Nat → Int32) : ∀ k, fz Z k ≤ k
  | 0 => Nat.le_refl 0
  | k + 1 => by
    have := fz_le Z k
    simp only [fz]
    split <;> omega
theorem fz_t {Z : Nat → Int32} {k : Nat} (h : 0 < Z k) : fz Z (k + 1) = fz Z k + 1 := by simp [fz, h]
theorem fz_f {Z : Nat → Int32} {k : Nat} (h : ¬ 0 < Z k) : fz Z (k + 1) = fz Z k := by simp [fz, h]
def tw1 (x : Int32) : Int32 := if 0 < x then x - nI 1 else x
/-- the first k places thawed by one swap -/
def tw (Z : Nat → Int32) (k : Nat) : Nat → Int32 := fun j => if j < k then tw1 (Z j) else Z j
theorem tw_0 (Z : Nat → Int32) : tw Z 0 = Z := by funext j; simp [tw]
theorem tw_k (Z : Nat → Int32) (k : Nat) : tw Z k k = Z k := by simp [tw]
theorem tw_s {Z : Nat → Int32} {k j : Nat} {x : Int32} (h : x = tw1 (Z k)) : upd (tw Z k) k x j = tw Z (k + 1) j := by
  unfold upd tw
  by_cases h1 : j = k
  · subst h1
    rw [if_pos rfl, if_pos (by omega), h]
  · rw [if_neg h1]
    by_cases h2 : j < k
    · rw [if_pos h2, if_pos (by omega)]
    · rw [if_neg h2, if_neg (by omega)]
theorem tw_n {Z : Nat → Int32} {k j : Nat} (h : ¬ 0 < Z k) : tw Z k j = tw Z (k + 1) j := by
  have h2 := tw_s (Z := Z) (k := k) (j := j) (x := Z k) (by rw [tw1, if_neg h])
  rw [← h2]
  unfold upd
  by_cases h1 : j = k
  · subst h1
    rw [if_pos rfl, tw_k]
  · rw [if_neg h1]
/-- the first k places of f, then g -/
def fst_ {α : Type} (f g : Nat → α) (k : Nat) : Nat → α := fun j => if j < k then f j else g j
theorem fst_0 {α : Type} (f g : Nat → α) : fst_ f g 0 = g := by funext j; simp [fst_]
theorem fst_s {f g : Nat → Int32} {k j : Nat} {x : Int32} (h : x = f k) : upd (fst_ f g k) k x j = fst_ f g (k + 1) j := by
  unfold upd fst_
  by_cases h1 : j = k
  · subst h1
    rw [if_pos rfl, if_pos (by omega), h]
  · rw [if_neg h1]
    by_cases h2 : j < k
    · rw [if_pos h2, if_pos (by omega)]
    · rw [if_neg h2, if_neg (by omega)]
theorem fst_all {α : Type} {f g : Nat → α} {n j : Nat} (h : j < n) : fst_ f g n j = f j := by simp [fst_, h]
-- the reference's one row of numbers
def enc (n : Nat) (N Z : Nat → Int32) (tn : Nat) (po rd al : Int32) (k : Nat) (S P V : Nat → Int32) (F : Nat → Nat → Int32) : Nat → Int32 := fun j =>
  if j = 0 then nI n else if j = 1 then nI tn else if j = 2 then po else if j = 3 then rd else if j = 4 then al else if j = 5 then nI k
  else if j < 9 then S (j - 6) else if j < 12 then P (j - 9) else if j < 15 then V (j - 12) else if j < 31 then N (j - 15) else if j < 47 then Z (j - 31) else F ((j - 47) / 7) ((j - 47) % 7)
section ENC
variable (n : Nat) (N Z : Nat → Int32) (tn : Nat) (po rd al : Int32) (k : Nat) (S P V : Nat → Int32) (F : Nat → Nat → Int32)
theorem enc_S (x : Nat) (h : x < 3) : enc n N Z tn po rd al k S P V F (6 + x) = S x := by
  unfold enc
  rw [if_neg (by omega), if_neg (by omega), if_neg (by omega), if_neg (by omega), if_neg (by omega), if_neg (by omega), if_pos (by omega), show 6 + x - 6 = x by omega]
theorem enc_P (x : Nat) (h : x < 3) : enc n N Z tn po rd al k S P V F (9 + x) = P x := by
  unfold enc
  rw [if_neg (by omega), if_neg (by omega), if_neg (by omega), if_neg (by omega), if_neg (by omega), if_neg (by omega), if_neg (by omega), if_pos (by omega), show 9 + x - 9 = x by omega]
theorem enc_V (x : Nat) (h : x < 3) : enc n N Z tn po rd al k S P V F (12 + x) = V x := by
  unfold enc
  rw [if_neg (by omega), if_neg (by omega), if_neg (by omega), if_neg (by omega), if_neg (by omega), if_neg (by omega), if_neg (by omega), if_neg (by omega), if_pos (by omega), show 12 + x - 12 = x by omega]
theorem enc_N (x : Nat) (h : x < 16) : enc n N Z tn po rd al k S P V F (15 + x) = N x := by
  unfold enc
  rw [if_neg (by omega), if_neg (by omega), if_neg (by omega), if_neg (by omega), if_neg (by omega), if_neg (by omega), if_neg (by omega), if_neg (by omega), if_neg (by omega), if_pos (by omega), show 15 + x - 15 = x by omega]
theorem enc_Z (x : Nat) (h : x < 16) : enc n N Z tn po rd al k S P V F (31 + x) = Z x := by
  unfold enc
  rw [if_neg (by omega), if_neg (by omega), if_neg (by omega), if_neg (by omega), if_neg (by omega), if_neg (by omega), if_neg (by omega), if_neg (by omega), if_neg (by omega), if_neg (by omega), if_pos (by omega), show 31 + x - 31 = x by omega]
theorem enc_F (x b : Nat) (h : x < 10) (hb : b < 7) : enc n N Z tn po rd al k S P V F (47 + 7 * x + b) = F x b := by
  unfold enc
  rw [if_neg (by omega), if_neg (by omega), if_neg (by omega), if_neg (by omega), if_neg (by omega), if_neg (by omega), if_neg (by omega), if_neg (by omega), if_neg (by omega), if_neg (by omega), if_neg (by omega), show (47 + 7 * x + b - 47) / 7 = x by omega, show (47 + 7 * x + b - 47) % 7 = b by omega]
end ENC
theorem ite_tl {α : Type} {c : Prop} [Decidable c] {a x y : α} (h : ¬ c → x = y) : (if c then a else x) = (if c then a else y) := by
  by_cases z : c
  · rw [if_pos z, if_pos z]
  · rw [if_neg z, if_neg z, h z]
theorem ite_hd {α : Type} {c : Prop} [Decidable c] {a b x : α} (h : c → a = b) : (if c then a else x) = (if c then b else x) := by
  by_cases z : c
  · rw [if_pos z, if_pos z, h z]
  · rw [if_neg z, if_neg z]
def updF (F : Nat → Nat → Int32) (x b : Nat) (v : Int32) : Nat → Nat → Int32 := fun i j => if i = x ∧ j = b then v else F i j
section ENCW
variable (n : Nat) (N Z : Nat → Int32) (tn : Nat) (po rd al : Int32) (k : Nat) (S P V : Nat → Int32) (F : Nat → Nat → Int32)
theorem enc_w0 (v : Nat) : ∀ j, j < 117 → upd (enc n N Z tn po rd al k S P V F) 0 (nI v) j = enc v N Z tn po rd al k S P V F j := by
  intro j _
  unfold upd enc
  by_cases h : j = 0 <;> simp [h]
theorem enc_w1 (v : Nat) : ∀ j, j < 117 → upd (enc n N Z tn po rd al k S P V F) 1 (nI v) j = enc n N Z v po rd al k S P V F j := by
  intro j _
  unfold upd enc
  by_cases h : j = 1 <;> simp [h]
theorem enc_w2 (v : Int32) : ∀ j, j < 117 → upd (enc n N Z tn po rd al k S P V F) 2 v j = enc n N Z tn v rd al k S P V F j := by
  intro j _
  unfold upd enc
  by_cases h : j = 2 <;> simp [h]
theorem enc_w3 (v : Int32) : ∀ j, j < 117 → upd (enc n N Z tn po rd al k S P V F) 3 v j = enc n N Z tn po v al k S P V F j := by
  intro j _
  unfold upd enc
  by_cases h : j = 3 <;> simp [h]
theorem enc_w4 (v : Int32) : ∀ j, j < 117 → upd (enc n N Z tn po rd al k S P V F) 4 v j = enc n N Z tn po rd v k S P V F j := by
  intro j _
  unfold upd enc
  by_cases h : j = 4 <;> simp [h]
theorem enc_w5 (v : Nat) : ∀ j, j < 117 → upd (enc n N Z tn po rd al k S P V F) 5 (nI v) j = enc n N Z tn po rd al v S P V F j := by
  intro j _
  unfold upd enc
  by_cases h : j = 5 <;> simp [h]
theorem enc_wS (x : Nat) (hx : x < 3) (v : Int32) : ∀ j, j < 117 → upd (enc n N Z tn po rd al k S P V F) (6 + x) v j = enc n N Z tn po rd al k (upd S x v) P V F j := by
  intro j _
  by_cases h : j = 6 + x
  · subst h
    rw [upd_s, enc_S n N Z tn po rd al k _ P V F x hx, upd_s]
  · rw [upd_n h]
    unfold enc
    refine ite_tl (fun h0 => ?_)
    refine ite_tl (fun h1 => ?_)
    refine ite_tl (fun h2 => ?_)
    refine ite_tl (fun h3 => ?_)
    refine ite_tl (fun h4 => ?_)
    refine ite_tl (fun h5 => ?_)
    exact ite_hd (fun _ => (upd_n (by omega)).symm)
theorem enc_wP (x : Nat) (hx : x < 3) (v : Int32) : ∀ j, j < 117 → upd (enc n N Z tn po rd al k S P V F) (9 + x) v j = enc n N Z tn po rd al k S (upd P x v) V F j := by
  intro j _
  by_cases h : j = 9 + x
  · subst h
    rw [upd_s, enc_P n N Z tn po rd al k S _ V F x hx, upd_s]
  · rw [upd_n h]
    unfold enc
    refine ite_tl (fun h0 => ?_)
    refine ite_tl (fun h1 => ?_)
    refine ite_tl (fun h2 => ?_)
    refine ite_tl (fun h3 => ?_)
    refine ite_tl (fun h4 => ?_)
    refine ite_tl (fun h5 => ?_)
    refine ite_tl (fun h6 => ?_)
    exact ite_hd (fun _ => (upd_n (by omega)).symm)
theorem enc_wV (x : Nat) (hx : x < 3) (v : Int32) : ∀ j, j < 117 → upd (enc n N Z tn po rd al k S P V F) (12 + x) v j = enc n N Z tn po rd al k S P (upd V x v) F j := by
  intro j _
  by_cases h : j = 12 + x
  · subst h
    rw [upd_s, enc_V n N Z tn po rd al k S P _ F x hx, upd_s]
  · rw [upd_n h]
    unfold enc
    refine ite_tl (fun h0 => ?_)
    refine ite_tl (fun h1 => ?_)
    refine ite_tl (fun h2 => ?_)
    refine ite_tl (fun h3 => ?_)
    refine ite_tl (fun h4 => ?_)
    refine ite_tl (fun h5 => ?_)
    refine ite_tl (fun h6 => ?_)
    refine ite_tl (fun h7 => ?_)
    exact ite_hd (fun _ => (upd_n (by omega)).symm)
theorem enc_wN (x : Nat) (hx : x < 16) (v : Int32) : ∀ j, j < 117 → upd (enc n N Z tn po rd al k S P V F) (15 + x) v j = enc n (upd N x v) Z tn po rd al k S P V F j := by
  intro j _
  by_cases h : j = 15 + x
  · subst h
    rw [upd_s, enc_N n _ Z tn po rd al k S P V F x hx, upd_s]
  · rw [upd_n h]
    unfold enc
    refine ite_tl (fun h0 => ?_)
    refine ite_tl (fun h1 => ?_)
    refine ite_tl (fun h2 => ?_)
    refine ite_tl (fun h3 => ?_)
    refine ite_tl (fun h4 => ?_)
    refine ite_tl (fun h5 => ?_)
    refine ite_tl (fun h6 => ?_)
    refine ite_tl (fun h7 => ?_)
    refine ite_tl (fun h8 => ?_)
    exact ite_hd (fun _ => (upd_n (by omega)).symm)
theorem enc_wZ (x : Nat) (hx : x < 16) (v : Int32) : ∀ j, j < 117 → upd (enc n N Z tn po rd al k S P V F) (31 + x) v j = enc n N (upd Z x v) tn po rd al k S P V F j := by
  intro j _
  by_cases h : j = 31 + x
  · subst h
    rw [upd_s, enc_Z n N _ tn po rd al k S P V F x hx, upd_s]
  · rw [upd_n h]
    unfold enc
    refine ite_tl (fun h0 => ?_)
    refine ite_tl (fun h1 => ?_)
    refine ite_tl (fun h2 => ?_)
    refine ite_tl (fun h3 => ?_)
    refine ite_tl (fun h4 => ?_)
    refine ite_tl (fun h5 => ?_)
    refine ite_tl (fun h6 => ?_)
    refine ite_tl (fun h7 => ?_)
    refine ite_tl (fun h8 => ?_)
    refine ite_tl (fun h9 => ?_)
    exact ite_hd (fun _ => (upd_n (by omega)).symm)
theorem enc_wF (x b : Nat) (hx : x < 10) (hb : b < 7) (v : Int32) : ∀ j, j < 117 → upd (enc n N Z tn po rd al k S P V F) (47 + 7 * x + b) v j = enc n N Z tn po rd al k S P V (updF F x b v) j := by
  intro j _
  by_cases h : j = 47 + 7 * x + b
  · subst h
    rw [upd_s, enc_F n N Z tn po rd al k S P V _ x b hx hb]
    unfold updF
    rw [if_pos ⟨rfl, rfl⟩]
  · rw [upd_n h]
    unfold enc updF
    refine ite_tl (fun h0 => ?_)
    refine ite_tl (fun h1 => ?_)
    refine ite_tl (fun h2 => ?_)
    refine ite_tl (fun h3 => ?_)
    refine ite_tl (fun h4 => ?_)
    refine ite_tl (fun h5 => ?_)
    refine ite_tl (fun h6 => ?_)
    refine ite_tl (fun h7 => ?_)
    refine ite_tl (fun h8 => ?_)
    refine ite_tl (fun h9 => ?_)
    refine ite_tl (fun h10 => ?_)
    rw [if_neg (by omega)]
end ENCW
theorem lt_t {n c k : Nat} (h : isOn n k c = true) : lt_ n c (k + 1) = lt_ n c k + 1 := by simp [lt_, h]
theorem lt_f {n c k : Nat} (h : isOn n k c = false) : lt_ n c (k + 1) = lt_ n c k := by simp [lt_, h]
theorem ltm_t {n c k : Nat} {N : Nat → Int32} (h : isOn n k c = true) (h2 : mL n N k = true) : ltm n N c (k + 1) = ltm n N c k + 1 := by simp [ltm, h, h2]
theorem ltm_f1 {n c k : Nat} {N : Nat → Int32} (h : isOn n k c = false) : ltm n N c (k + 1) = ltm n N c k := by simp [ltm, h]
theorem ltm_f2 {n c k : Nat} {N : Nat → Int32} (h : mL n N k = false) : ltm n N c (k + 1) = ltm n N c k := by simp [ltm, h]
theorem ex_ex (N : Nat → Int32) (a b : Nat) (j : Nat) : ex (ex N a b) a b j = N j := by
  unfold ex upd
  by_cases h1 : j = b <;> by_cases h2 : j = a <;> by_cases h3 : a = b <;> simp_all
def bst (n : Nat) (N Z : Nat → Int32) (a b : Nat) (s : Int32 × Int32) : Int32 × Int32 :=
  if (decide (0 < Z a) || decide (0 < Z b)) = true then s else if s.1 = -5 ∨ wof n (ex N a b) < s.2 then (nI (100 * a + b), wof n (ex N a b)) else s
section BST
variable {n : Nat} {N Z : Nat → Int32} {a b : Nat} {s : Int32 × Int32}
theorem bst_z1 (h : decide (0 < Z a) = true) : bst n N Z a b s = s := by simp only [bst, h, Bool.true_or, if_true]
theorem bst_z2 (h : decide (0 < Z b) = true) : bst n N Z a b s = s := by simp only [bst, h, Bool.or_true, if_true]
theorem bst_no (h : ¬ s.1 = -5) (h2 : ¬ wof n (ex N a b) < s.2) : bst n N Z a b s = s := by
  unfold bst
  rw [if_neg (c := s.1 = -5 ∨ wof n (ex N a b) < s.2) (fun z => z.elim h h2), ite_self]
theorem bst_y1 (h1 : decide (0 < Z a) = false) (h2 : decide (0 < Z b) = false) (h : s.1 = -5) : bst n N Z a b s = (nI (100 * a + b), wof n (ex N a b)) := by
  unfold bst
  rw [h1, h2, if_neg (by decide), if_pos (Or.inl h)]
theorem bst_y2 (h1 : decide (0 < Z a) = false) (h2 : decide (0 < Z b) = false) (h : wof n (ex N a b) < s.2) : bst n N Z a b s = (nI (100 * a + b), wof n (ex N a b)) := by
  unfold bst
  rw [h1, h2, if_neg (by decide), if_pos (Or.inr h)]
end BST
def bin (n : Nat) (N Z : Nat → Int32) (a : Nat) (s : Int32 × Int32) : Nat → Int32 × Int32
  | 0 => s
  | d + 1 => bst n N Z a (a + 1 + d) (bin n N Z a s d)
def bou (n : Nat) (N Z : Nat → Int32) : Nat → Int32 × Int32
  | 0 => (-5, nI 0)
  | a + 1 => bin n N Z a (bou n N Z a) (n * n - (a + 1))
def ord : Nat → Int32 := fun c => nI (c + 1)
def zr : Nat → Int32 := fun _ => nI 0
def rl (sd : Nat) : Nat → Nat
  | 0 => sd
  | t + 1 => (421 * rl sd t + 1663) % 10000
theorem rl_lt {sd : Nat} (h : sd < 10000) : ∀ t, rl sd t < 10000
  | 0 => h
  | t + 1 => Nat.mod_lt _ (by decide)
def shN (n sd : Nat) (N : Nat → Int32) : Nat → Nat → Int32
  | 0 => N
  | t + 1 => ex (shN n sd N t) (n * n - 1 - t) (rl sd (t + 1) % (n * n - 1 - t + 1))
def ch (t : Nat → Nat) : Nat → Int32 := fun j => nI (t j)
def updN (t : Nat → Nat) (k x : Nat) : Nat → Nat := fun j => if j = k then x else t j
theorem ch_w {t : Nat → Nat} {k x j : Nat} : upd (ch t) k (nI x) j = ch (updN t k x) j := by
  unfold upd ch updN
  split <;> rfl
