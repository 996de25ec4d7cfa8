/-! a swap's outcome, what a face's acts tell -/
def sw0 (P S : Nat → Int32) (tn : Nat) : Nat → Int32 := upd P tn (cap (P tn + (-S 1)))
def swS (n : Nat) (N : Nat → Int32) (F : Nat → Nat → Int32) (O : Nat → UInt32) (P S : Nat → Int32) (tn : Nat) (po : Int32) (k a b : Nat) (rb : Bool) : (Nat → Int32) × Int32 :=
  match rb with
  | true => stl n (ex N a b) F O (sw0 P S tn) (po + S 1) k
  | false => (sw0 P S tn, po + S 1)
def swP (X : (Nat → Int32) × Int32) (tn : Nat) (wb : Bool) : Nat → Int32 :=
  match wb with
  | true => upd X.1 tn (cap (X.1 tn + X.2))
  | false => X.1
def swV (V : Nat → Int32) (tn : Nat) (wb : Bool) : Nat → Int32 :=
  match wb with
  | true => upd V tn (V tn + nI 1)
  | false => V
def swO (X : (Nat → Int32) × Int32) (wb : Bool) : Int32 :=
  match wb with
  | true => nI 0
  | false => X.2
def swK (k : Nat) (rb : Bool) : Nat :=
  match rb with
  | true => 0
  | false => k
def swD (rd : Int32) (rb : Bool) : Int32 :=
  match rb with
  | true => nI 0
  | false => rd + nI 1
/-- is the round over, is the square won -/
def swR (rd : Int32) (S : Nat → Int32) : Bool := decide (¬ rd + nI 1 < S 0)
def swW (n : Nat) (N : Nat → Int32) (a b : Nat) : Bool := !decide (mcn n N = 2 * n + 2) && decide (mcn n (ex N a b) = 2 * n + 2)
theorem swR_t {rd : Int32} {S : Nat → Int32} (h : swR rd S = true) : ¬ rd + nI 1 < S 0 := of_decide_eq_true h
theorem swR_f {rd : Int32} {S : Nat → Int32} (h : swR rd S = false) : rd + nI 1 < S 0 := dec_nn h
theorem swW_t {n a b : Nat} {N : Nat → Int32} (h : swW n N a b = true) : decide (mcn n N = 2 * n + 2) = false ∧ decide (mcn n (ex N a b) = 2 * n + 2) = true := by
  unfold swW at h
  revert h
  generalize decide (mcn n N = 2 * n + 2) = u
  generalize decide (mcn n (ex N a b) = 2 * n + 2) = v
  cases u <;> cases v <;> simp
theorem swW_f {n a b : Nat} {N : Nat → Int32} (h : swW n N a b = false) : ¬ (decide (mcn n N = 2 * n + 2) = false ∧ decide (mcn n (ex N a b) = 2 * n + 2) = true) := by
  unfold swW at h
  revert h
  generalize decide (mcn n N = 2 * n + 2) = u
  generalize decide (mcn n (ex N a b) = 2 * n + 2) = v
  cases u <;> cases v <;> simp
theorem layOK_ct {x y : Int32} (h : layOK x y = false) (h1 : x = nI 3 ∨ x = nI 4) (h2 : ¬ y < 0) (h3 : y ≤ nI 9999) : False := by
  have e : layOK x y = true := by
    rw [layOK, inB_of_le h2 (Int32.not_lt.mpr h3) (by decide) (by decide), Bool.and_true]
    rcases h1 with z | z
    · rw [decide_eq_true z]; rfl
    · rw [decide_eq_true z, Bool.or_true]
  rw [e] at h
  cases h
def tbs (n : Nat) (N : Nat → Int32) (k : Nat) (F : Nat → Nat → Int32) (O : Nat → UInt32) (w : Int32) : Int32 := if w = nI 0 then wof n N else if w = nI 1 then nI (mcn n N) else da n N F O k
section WQ
variable {n : Nat} {N : Nat → Int32} {k : Nat} {F : Nat → Nat → Int32} {O : Nat → UInt32} {x y w : Int32} {a b : Nat}
theorem wouldQ_f1 (h : inB x (n * n) = false) : -1 = wouldQ n N k F O x y w := by unfold wouldQ; rw [if_neg (by rw [h]; rintro ⟨z, -⟩; cases z)]
theorem wouldQ_f2 (h : inB y (n * n) = false) : -1 = wouldQ n N k F O x y w := by unfold wouldQ; rw [if_neg (by rw [h]; rintro ⟨-, z⟩; cases z)]
theorem wouldQ_in (ha : a < n * n) (hb : b < n * n) (h : n * n < 17) : wouldQ n N k F O (nI a) (nI b) w = if inB w 3 = true ∧ a ≠ b then tbs n (ex N a b) k F O w else -2 := by
  unfold wouldQ
  rw [if_pos ⟨by rw [inB_nI (by omega)]; exact decide_eq_true ha, by rw [inB_nI (by omega)]; exact decide_eq_true hb⟩, nI_clamp (by omega), nI_clamp (by omega)]
  by_cases e : a = b
  · rw [if_neg (fun z => z.2 (by rw [e])), if_neg (fun z => z.2 e)]
  · by_cases e2 : inB w 3 = true
    · rw [if_pos ⟨e2, fun z => e ((nI_eq (by omega) (by omega)).mp z)⟩, if_pos ⟨e2, e⟩]
      rfl
    · rw [if_neg (fun z => e2 z.1), if_neg (fun z => e2 z.1)]
theorem wouldQ_b1 (ha : a < n * n) (hb : b < n * n) (h : n * n < 17) (h2 : inB w 3 = false) : -2 = wouldQ n N k F O (nI a) (nI b) w := by
  rw [wouldQ_in ha hb h, if_neg (fun z => by rw [h2] at z; cases z.1)]
theorem wouldQ_b2 (ha : a < n * n) (hb : b < n * n) (h : n * n < 17) (h2 : a = b) : -2 = wouldQ n N k F O (nI a) (nI b) w := by
  rw [wouldQ_in ha hb h, if_neg (fun z => z.2 h2)]
theorem wouldQ_ok (ha : a < n * n) (hb : b < n * n) (h : n * n < 17) (h1 : ¬ w < 0) (h2 : w ≤ nI 2) (h3 : a ≠ b) : tbs n (ex N a b) k F O w = wouldQ n N k F O (nI a) (nI b) w := by
  rw [wouldQ_in ha hb h, if_pos ⟨inB_of_le h1 (Int32.not_lt.mpr h2) (by decide) (by decide), h3⟩]
end WQ
def cntQ (n : Nat) (N Z : Nat → Int32) (k : Nat) (F : Nat → Nat → Int32) (tn : Nat) (po rd al : Int32) (S : Nat → Int32) (kh le : Nat) (x : Int32) : Int32 :=
  if x = nI 0 then nI n else if x = nI 1 then nI (mgN n) else if x = nI 2 then wof n N else if x = nI 3 then nI (mcn n N) else if x = nI 4 then nI tn else if x = nI 5 then po else if x = nI 6 then nI k else if x = nI 7 then rd else if x = nI 8 then al else if x = nI 9 then nI (fz Z 16) else if x = nI 10 then S 0 else if x = nI 11 then S 1 else if x = nI 12 then S 2 else if x = nI 13 then nI kh else if x = nI 14 then nI le else if x = nI 15 then aa F k else -2
def mob (k : Nat) (O : Nat → UInt32) : Int32 := if k = 0 then nI 0 else bitsF (FP.fdiv (so O k) (FP.i2f (nI k)))
theorem mob_0 {O : Nat → UInt32} : nI 0 = mob 0 O := rfl
theorem mob_s {k : Nat} {O : Nat → UInt32} (h : 0 < k) : bitsF (FP.fdiv (so O k) (FP.i2f (nI k))) = mob k O := by unfold mob; rw [if_neg (by omega)]
theorem so_dv {k : Nat} {O : Nat → UInt32} (hO : OOK k O) (h0 : 0 < k) (hk : k ≤ 10) : vf1 (FP.fdiv (so O k) (FP.i2f (nI k))) 1 20 ∧ vf_n32 (FP.fdiv (so O k) (FP.i2f (nI k))) := div_ok (so_ok hO hk k (Nat.le_refl k)) h0 hk
theorem nI_m1 {v : Nat} (h : v < 2 ^ 31) : ¬ nI v = -1 := by
  intro z
  have e := congrArg Int32.toInt z
  rw [nI_toInt h] at e
  have : ((-1 : Int32).toInt) = -1 := by decide
  omega
/-- the text laid is a square's -/
theorem flc_all {t : Nat → Nat} {le : Nat} (hle : le ≤ 60) (h : flc t le = -1) : (sideOf t le = 3 ∨ sideOf t le = 4) ∧ le = sideOf t le * sideOf t le ∧ ∀ j, j < le → bad t le j = false := by
  unfold flc at h
  have hfl := frs_le t le le
  by_cases h1 : frs t le le < le
  · rw [if_pos h1] at h
    exact absurd h (nI_m1 (by omega))
  · rw [if_neg h1] at h
    by_cases h2 : le = 0 ∨ le < cs t le
    · rw [if_pos h2] at h
      exact absurd h (nI_m1 (by omega))
    · have hg := frs_good (show frs t le le = le by omega)
      have hlast := (bad_in (hg (le - 1) (by omega))).1
      have hs : sideOf t le = 0 ∨ sideOf t le = 3 ∨ sideOf t le = 4 := by
        unfold sideOf
        split
        · omega
        · split
          · omega
          · split <;> omega
      have hc : le = sideOf t le * sideOf t le := by
        have : cs t le = sideOf t le * sideOf t le := rfl
        omega
      refine ⟨?_, hc, hg⟩
      rcases hs with z | z
      · rw [z] at hc
        omega
      · exact z
theorem flc_side {t : Nat → Nat} {le : Nat} (hle : le ≤ 60) (h : flc t le = -1) : sideOf t le = 3 ∨ sideOf t le = 4 := (flc_all hle h).1
section MYROWS3
variable {p : Program} {l : Launch} {e : Env} {R : Room} {s : State} {m : MethodId} {args : Array Value} {below : List Frame} {meth : Method} {c : Code} {H : Heap} {locs : List Loc} {cells slots : Nat} {Q : State → Prop}
variable {cc : ByteArray} {pc : Nat} {ls : Array Slot} {rest : List Value}
theorem lv_ldcfw (hexec : p.tables.exec = Jvm.exec) (hb : c.code = cc) {own : String} {index : Nat} {v : UInt32} (hown : s.vm.findClass own = some m.cls) (hconst : (Jvm.Cond.constantFloat own index v).before args s = true) (hdg : decode cc pc = .ok (.ldc_w index, 3)) (k : W p l e R s m args below meth c H locs cells slots Q (F0 m (pc + 3) ls (.float v :: rest))) : W p l e R s m args below meth c H locs cells slots Q (F0 m pc ls rest) := by
  intro T hT X
  obtain ⟨t, a, b⟩ := k T hT X
  obtain ⟨k1, cf, hk, hcf, hcp⟩ := Cond.constantFloat_spec hown hconst
  obtain ⟨k', hk', he⟩ := X.warmed.alike.2.2 _ _ hk
  refine ⟨t, ?_, b⟩
  jvm_step X.here [X.here.top, hexec, hb, hdg, ldc_w.wp_float (s := T) (f := F0 m pc ls rest) X.here.top hk' (by rw [he]; exact hcf) hcp]
  exact a
end MYROWS3
