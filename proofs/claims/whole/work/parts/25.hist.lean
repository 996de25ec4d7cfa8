/-! the history of both sides; a stake laid on both sides -/
section GST
variable {n tn k : Nat} {N M Z P S : Nat → Int32} {F : Nat → Nat → Int32} {O : Nat → UInt32}
def stF (n : Nat) (M : Nat → Int32) (tn k L : Nat) (kd am : Int32) (F : Nat → Nat → Int32) : Nat → Nat → Int32 := updF (updF (updF (updF (updF (updF (updF F k 0 (nI tn)) k 1 (nI L)) k 2 kd) k 3 am) k 4 (sL n M L)) k 5 (ovr n M L kd)) k 6 (und n kd)
theorem stF_o {L : Nat} {kd am : Int32} {i b : Nat} (h : i ≠ k) : stF n M tn k L kd am F i b = F i b := by
  unfold stF updF
  simp [h]
theorem stF_k {L : Nat} {kd am : Int32} : stF n M tn k L kd am F k 0 = nI tn ∧ stF n M tn k L kd am F k 1 = nI L ∧ stF n M tn k L kd am F k 4 = sL n M L ∧ stF n M tn k L kd am F k 5 = ovr n M L kd ∧ stF n M tn k L kd am F k 6 = und n kd := by
  unfold stF updF
  simp
/-- the class's rows hold the same facts -/
theorem fl_st (hn : n = 3 ∨ n = 4) (h : AG n N M) {L : Nat} {kd am : Int32} (hL : L < 2 * n + 2) : ∀ j, j < 50 → fl (nwF F k (nI tn) (nI L) kd am (sL n N L)) j = fl (stF n M tn k L kd am F) j := by
  intro j _
  rw [sL_cg hn h hL]
  unfold fl
  have h5 : j % 5 < 5 := Nat.mod_lt _ (by decide)
  generalize j / 5 = i
  generalize j % 5 = b at h5
  show updF (updF (updF (updF (updF F k 0 (nI tn)) k 1 (nI L)) k 2 kd) k 3 am) k 4 (sL n M L) i b = updF (updF (updF (updF (updF (updF (updF F k 0 (nI tn)) k 1 (nI L)) k 2 kd) k 3 am) k 4 (sL n M L)) k 5 (ovr n M L kd)) k 6 (und n kd) i b
  generalize updF (updF (updF (updF (updF F k 0 (nI tn)) k 1 (nI L)) k 2 kd) k 3 am) k 4 (sL n M L) = U
  unfold updF
  rw [if_neg (by omega), if_neg (by omega)]
theorem GD_stake {L : Nat} {kd am : Int32} {P' : Nat → Int32} (h : GD n N M Z P S tn k F O) (hk9 : k < 10) (hL : L < 2 * n + 2) (hP : ∀ r, (P' r).toInt ≤ 999999) : GD n N M Z P' S tn (k + 1) (stF n M tn k L kd am F) (va_up O k (odf (ovr n N L kd) (und n kd))) := by
  obtain ⟨h1, h2, h3, h4, h5, _, h7, h8, _, h10, h11, h12, h13⟩ := h
  obtain ⟨e0, e1, e4, e5, e6⟩ := stF_k (n := n) (tn := tn) (k := k) (M := M) (F := F) (L := L) (kd := kd) (am := am)
  have hM := NOK_cg h3 h2
  refine ⟨h1, h2, h3, h4, h5, hP, h7, h8, by omega, fun i hi => ?_, fun i hi => ?_, fun i hi => ?_, fun i hi => ?_⟩
  · by_cases e : i = k
    · subst e
      unfold ln rv
      rw [e0, e1, nI_clamp (by omega), nI_clamp (by omega)]
      exact ⟨⟨rfl, hL⟩, rfl, h8⟩
    · have := h10 i (by omega)
      unfold ln rv at *
      rw [stF_o e, stF_o e]
      exact this
  · by_cases e : i = k
    · subst e
      rw [e4]
      exact sL_rng h1 hM hL
    · rw [stF_o e]
      exact h11 i (by omega)
  · by_cases e : i = k
    · subst e
      rw [e5, e6]
      exact odOK_of h1 hM hL
    · rw [stF_o e, stF_o e]
      exact h12 i (by omega)
  · by_cases e : i = k
    · subst e
      unfold odR
      rw [e5, e6, ovr_cg h1 h3 hL]
      simp [va_up]
    · unfold odR
      rw [stF_o e, stF_o e]
      have := h13 i (by omega)
      unfold odR at this
      rw [← this]
      simp [va_up, e]
end GST
section HRS
variable {rho kh : Nat} {gn gk gt : Nat → Nat} {gN gZ gP gV gS : Nat → Nat → Int32} {gF : Nat → Nat → Nat → Int32} {gO : Nat → Nat → UInt32} {gpo grd gal : Nat → Int32} {B : Nat → Nat → Int32}
/-- block p of the class's history is what the reference keeps as f -/
def HB (f : Nat → Int32) (n : Nat) (N Z : Nat → Int32) (tn : Nat) (po rd al : Int32) (k : Nat) (S P V : Nat → Int32) (F : Nat → Nat → Int32) (O : Nat → UInt32) : Prop :=
  ∃ M : Nat → Int32, (∀ j, j < 117 → f j = enc n M Z tn po rd al k S P V F j) ∧ GD n N M Z P S tn k F O
def HR (rho kh : Nat) (gn gk gt : Nat → Nat) (gN gZ gP gV gS : Nat → Nat → Int32) (gF : Nat → Nat → Nat → Int32) (gO : Nat → Nat → UInt32) (gpo grd gal : Nat → Int32) (B : Nat → Nat → Int32) : Prop :=
  kh ≤ 4 ∧ ∀ i, i < kh → HB (B i) (gn ((i + rho) % 4)) (gN ((i + rho) % 4)) (gZ ((i + rho) % 4)) (gt ((i + rho) % 4)) (gpo ((i + rho) % 4)) (grd ((i + rho) % 4)) (gal ((i + rho) % 4)) (gk ((i + rho) % 4)) (gS ((i + rho) % 4)) (gP ((i + rho) % 4)) (gV ((i + rho) % 4)) (gF ((i + rho) % 4)) (gO ((i + rho) % 4))
theorem uA_e {α : Type} {f : Nat → α} {p : Nat} {v : α} : uA f p v p = v := if_pos rfl
theorem uA_n {α : Type} {f : Nat → α} {p i : Nat} {v : α} (h : i ≠ p) : uA f p v i = f i := if_neg h
theorem HR_rec {n tn k : Nat} {N M Z P V S : Nat → Int32} {F : Nat → Nat → Int32} {O : Nat → UInt32} {po rd al : Int32} (h : HR rho kh gn gk gt gN gZ gP gV gS gF gO gpo grd gal B) (hg : GD n N M Z P S tn k F O) :
    HR (ro kh rho) (mn kh) (uA gn ((kh + rho) % 4) n) (uA gk ((kh + rho) % 4) k) (uA gt ((kh + rho) % 4) tn) (uA gN ((kh + rho) % 4) N) (uA gZ ((kh + rho) % 4) Z) (uA gP ((kh + rho) % 4) P) (uA gV ((kh + rho) % 4) V) (uA gS ((kh + rho) % 4) S) (uA gF ((kh + rho) % 4) F) (uA gO ((kh + rho) % 4) O) (uA gpo ((kh + rho) % 4) po) (uA grd ((kh + rho) % 4) rd) (uA gal ((kh + rho) % 4) al) (kB B kh (enc n M Z tn po rd al k S P V F)) := by
  obtain ⟨h4, hb⟩ := h
  by_cases hk : kh < 4
  · rw [ro_lt hk, mn_lt hk, kB_lt hk]
    refine ⟨by omega, fun i hi => ?_⟩
    by_cases e : i = kh
    · subst e
      simp only [uA_e]
      exact ⟨M, fun _ _ => rfl, hg⟩
    · have hp : (i + rho) % 4 ≠ (kh + rho) % 4 := by omega
      rw [uA_n hp, uA_n hp, uA_n hp, uA_n hp, uA_n hp, uA_n hp, uA_n hp, uA_n hp, uA_n hp, uA_n hp, uA_n hp, uA_n hp, uA_n hp, uA_n e]
      exact hb i (by omega)
  · obtain rfl : kh = 4 := by omega
    rw [ro_4, mn_4, kB_4]
    refine ⟨Nat.le_refl 4, fun i hi => ?_⟩
    by_cases e : i = 3
    · subst e
      have hp : (3 + (rho + 1)) % 4 = (4 + rho) % 4 := by omega
      rw [hp]
      simp only [uA_e]
      exact ⟨M, fun _ _ => rfl, hg⟩
    · have hp : (i + (rho + 1)) % 4 ≠ (4 + rho) % 4 := by omega
      have hs : shB B i = B (i + 1) := if_pos (by omega)
      rw [uA_n hp, uA_n hp, uA_n hp, uA_n hp, uA_n hp, uA_n hp, uA_n hp, uA_n hp, uA_n hp, uA_n hp, uA_n hp, uA_n hp, uA_n hp, uA_n e, hs, show i + (rho + 1) = i + 1 + rho by omega]
      exact hb (i + 1) (by omega)
theorem HR_undo (h : HR rho (kh + 1) gn gk gt gN gZ gP gV gS gF gO gpo grd gal B) : HR rho kh gn gk gt gN gZ gP gV gS gF gO gpo grd gal B := ⟨by have := h.1; omega, fun i hi => h.2 i (by omega)⟩
end HRS
theorem frz_nn {y s : Int32} (h1 : ¬ y < nI 1) (h2 : ¬ nI 6 < y) (h3 : 0 ≤ s.toInt ∧ s.toInt ≤ 9) : 0 ≤ (y * s).toInt := by
  rw [lt_toInt, nI_toInt (by decide)] at h1 h2
  have e1 : y = nI y.toInt.toNat := by rw [← Int32.toInt_inj, nI_toInt (by omega)]; omega
  have e2 : s = nI s.toInt.toNat := by rw [← Int32.toInt_inj, nI_toInt (by omega)]; omega
  have hm := Nat.mul_le_mul (show y.toInt.toNat ≤ 6 by omega) (show s.toInt.toNat ≤ 9 by omega)
  rw [e1, e2, pk_mul, nI_toInt (by omega)]
  exact Int.natCast_nonneg _
