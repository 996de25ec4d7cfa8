theorem ch_nar {q : Nat} (h : q < 65536) : vp_nar .char (nI q) = nI q := by
  show Int32.ofBitVec ((nI q).toBitVec.truncate 16 |>.setWidth 32) = nI q
  apply Int32.toBitVec_inj.mp
  apply BitVec.eq_of_toNat_eq
  show ((BitVec.ofNat 32 q).setWidth 16 |>.setWidth 32).toNat = (BitVec.ofNat 32 q).toNat
  simp only [BitVec.toNat_setWidth, BitVec.toNat_ofNat]
  omega

set_option maxHeartbeats 4000000 in
set_option maxRecDepth 100000 in
theorem mX4_length (l : Launch) (D : va_G) (G : Nat → ClassId) (tx tc le : Nat) (t : Nat → Nat)  : CT l yX4_length wsX4_length 0 0 D G [.ref tx] [(tx, .inr (4, [.ref tc, .int (nI le)])), (tc, .inl (G 2, 60, .inl (ch t)))] [(tx, .inr (4, [.ref tc, .int (nI le)])), (tc, .inl (G 2, 60, .inl (ch t)))] (some (.int (nI le))) := by
  refine CT.of (cc := cX4_length) (maxL := 1) (ret := (some .int)) (by decide) rfl RX4 rfl (Nat.le_of_ble_eq_true rfl) (fun pp ee s mm bl me cc A ls hx hb hr hml hts hown hlk hnm hA hP hK hD hN hS hl => ?_)
  have hl : lv_has ls 1 [(0, .ref tx)] := hl
  have hP : va_P D vwCl [(tx, .inr (4, [.ref tc, .int (nI le)])), (tc, .inl (G 2, 60, .inl (ch t)))] s.heap := hP
  have inX4 : ∀ w ∈ wsX40, w ∈ wsX4_length := fun w h => List.mem_cons_of_mem _ (List.mem_append_right _ h)
  have k13 := hts (.fieldLink RX4 13 "SquareStakes$Text" "length" "I") (List.mem_of_getElem? (i := 1) rfl)
  refine lv_aload_n hx hb dX4_length_0 rfl (lv_at hl 0 rfl) ?_
  refine va_get (D := D) (ci := 4) (v := .int (nI le)) (C := RX4) (T := TX4) (N := 2) hx hb hts inX4 hown hK hP 0 rfl rfl 1 (by decide) k13 (fun _ h9 => h9) rfl dX4_length_1 ?_
  exact rIret hx hb hr hlk hP hK hD hS dX4_length_4

set_option maxHeartbeats 4000000 in
set_option maxRecDepth 100000 in
theorem mX4_couldAppend_ok (l : Launch) (D : va_G) (G : Nat → ClassId) (tx tc le : Nat) (t : Nat → Nat) (q : Nat) (hle : le < 60) (hq : q < 65536) : CT l yX4_couldAppend wsX4_couldAppend 0 0 D G [.ref tx, .int (nI q)] [(tx, .inr (4, [.ref tc, .int (nI le)])), (tc, .inl (G 2, 60, .inl (ch t)))] [(tx, .inr (4, [.ref tc, .int (nI (le + 1))])), (tc, .inl (G 2, 60, .inl (ch (updN t le q))))] (some (.int (zB true))) := by
  refine CT.of (cc := cX4_couldAppend) (maxL := 2) (ret := (some .boolean)) (by decide) rfl RX4 rfl (Nat.le_of_ble_eq_true rfl) (fun pp ee s mm bl me cc A ls hx hb hr hml hts hown hlk hnm hA hP hK hD hN hS hl => ?_)
  have hl : lv_has ls 2 [(0, .ref tx), (1, .int (nI q))] := hl
  have hP : va_P D vwCl [(tx, .inr (4, [.ref tc, .int (nI le)])), (tc, .inl (G 2, 60, .inl (ch t)))] s.heap := hP
  have inX4 : ∀ w ∈ wsX40, w ∈ wsX4_couldAppend := fun w h => List.mem_cons_of_mem _ (List.mem_append_right _ h)
  have k13 := hts (.fieldLink RX4 13 "SquareStakes$Text" "length" "I") (List.mem_of_getElem? (i := 1) rfl)
  have k9 := hts (.fieldLink RX4 9 "SquareStakes$Text" "characters" "[C") (List.mem_of_getElem? (i := 2) rfl)
  refine lv_aload_n hx hb dX4_couldAppend_0 rfl (lv_at hl 0 rfl) ?_
  refine va_get (D := D) (ci := 4) (v := .int (nI le)) (C := RX4) (T := TX4) (N := 2) hx hb hts inX4 hown hK hP 0 rfl rfl 1 (by decide) k13 (fun _ h9 => h9) rfl dX4_couldAppend_1 ?_
  refine iLt (tgt := 19) hx hb dX4_couldAppend_4 (by decide) (by omega) ?_
  refine lv_aload_n hx hb dX4_couldAppend_7 rfl (lv_at hl 0 rfl) ?_
  refine va_get (D := D) (ci := 4) (v := .int (nI le)) (C := RX4) (T := TX4) (N := 2) hx hb hts inX4 hown hK hP 0 rfl rfl 1 (by decide) k13 (fun _ h9 => h9) rfl dX4_couldAppend_8 ?_
  refine lv_aload_n hx hb dX4_couldAppend_11 rfl (lv_at hl 0 rfl) ?_
  refine va_get (D := D) (ci := 4) (v := .ref tc) (C := RX4) (T := TX4) (N := 2) hx hb hts inX4 hown hK hP 0 rfl rfl 0 (by decide) k9 (fun _ h9 => h9) rfl dX4_couldAppend_12 ?_
  refine va_alen (v := nI 60) hx hb hK hP 1 2 rfl rfl rfl dX4_couldAppend_15 ?_
  refine bLt (tgt := 21) hx hb dX4_couldAppend_16 (by decide) (by omega) (by omega) (fun c2 => ?_) (fun c2 => by exfalso; omega)
  refine lv_aload_n hx hb dX4_couldAppend_21 rfl (lv_at hl 0 rfl) ?_
  refine va_get (D := D) (ci := 4) (v := .ref tc) (C := RX4) (T := TX4) (N := 2) hx hb hts inX4 hown hK hP 0 rfl rfl 0 (by decide) k9 (fun _ h9 => h9) rfl dX4_couldAppend_22 ?_
  refine lv_aload_n hx hb dX4_couldAppend_25 rfl (lv_at hl 0 rfl) ?_
  refine va_get (D := D) (ci := 4) (v := .int (nI le)) (C := RX4) (T := TX4) (N := 2) hx hb hts inX4 hown hK hP 0 rfl rfl 1 (by decide) k13 (fun _ h9 => h9) rfl dX4_couldAppend_26 ?_
  refine lv_iload_n hx hb dX4_couldAppend_29 rfl (lv_at hl 1 rfl) ?_
  refine rCast hx hb hK hP hD hS 1 rfl le (by omega) (by decide) (ch_nar (by assumption)) dX4_couldAppend_30 (fun H locs hP hD hS => ?_)
  obtain ⟨hP, hD⟩ := wI (g := ch (updN t le q)) hP hD 1 rfl (fun j hj => ch_w)
  replace hP : va_P D vwCl [(tx, .inr (4, [.ref tc, .int (nI le)])), (tc, .inl (G 2, 60, .inl (ch (updN t le q))))] _ := hP
  have hD : va_D A [(tx, .inr (4, [.ref tc, .int (nI le)])), (tc, .inl (G 2, 60, .inl (ch (updN t le q))))] := hD
  refine lv_aload_n hx hb dX4_couldAppend_31 rfl (lv_at hl 0 rfl) ?_
  refine lv_dup hx hb dX4_couldAppend_32 rfl ?_
  refine va_get (D := D) (ci := 4) (v := .int (nI le)) (C := RX4) (T := TX4) (N := 2) hx hb hts inX4 hown hK hP 0 rfl rfl 1 (by decide) k13 (fun _ h9 => h9) rfl dX4_couldAppend_33 ?_
  refine lv_iconst (v := nI 1) hx hb dX4_couldAppend_36 (by decide +kernel) ?_
  refine lv_iadd hx hb dX4_couldAppend_37 ?_
  refine rTop (show nI le + nI 1 = nI (le + 1) from nI_add le 1) ?_
  refine va_put (D := D) (ci := 4) (v := .int (nI (le + 1))) (ty := .int) (C := RX4) (T := TX4) (N := 2) hx hb hts inX4 tyX4 tyX4_ok nmX4 hown hK hP hD hS 0 rfl rfl 1 (by decide) k13 (fun _ h9 => h9) rfl (by decide +kernel) rfl rfl (Nat.le_of_ble_eq_true rfl) dX4_couldAppend_38 (fun H locs hP hD hS => ?_)
  have hP : va_P D vwCl [(tx, .inr (4, [.ref tc, .int (nI (le + 1))])), (tc, .inl (G 2, 60, .inl (ch (updN t le q))))] H := hP
  have hD : va_D A [(tx, .inr (4, [.ref tc, .int (nI (le + 1))])), (tc, .inl (G 2, 60, .inl (ch (updN t le q))))] := hD
  refine lv_iconst (v := nI 1) hx hb dX4_couldAppend_41 (by decide +kernel) ?_
  refine rTop (zB_1 (b := true) (rfl)) ?_
  exact rZret hx hb hr hlk hP hK hD hS dX4_couldAppend_42

set_option maxHeartbeats 4000000 in
set_option maxRecDepth 100000 in
theorem mX4_couldAppend_full (l : Launch) (D : va_G) (G : Nat → ClassId) (tx tc : Nat) (t : Nat → Nat) (x : Int32)  : CT l yX4_couldAppend wsX4_couldAppend 0 0 D G [.ref tx, .int x] [(tx, .inr (4, [.ref tc, .int (nI 60)])), (tc, .inl (G 2, 60, .inl (ch t)))] [(tx, .inr (4, [.ref tc, .int (nI 60)])), (tc, .inl (G 2, 60, .inl (ch t)))] (some (.int (zB false))) := by
  refine CT.of (cc := cX4_couldAppend) (maxL := 2) (ret := (some .boolean)) (by decide) rfl RX4 rfl (Nat.le_of_ble_eq_true rfl) (fun pp ee s mm bl me cc A ls hx hb hr hml hts hown hlk hnm hA hP hK hD hN hS hl => ?_)
  have hl : lv_has ls 2 [(0, .ref tx), (1, .int x)] := hl
  have hP : va_P D vwCl [(tx, .inr (4, [.ref tc, .int (nI 60)])), (tc, .inl (G 2, 60, .inl (ch t)))] s.heap := hP
  have inX4 : ∀ w ∈ wsX40, w ∈ wsX4_couldAppend := fun w h => List.mem_cons_of_mem _ (List.mem_append_right _ h)
  have k13 := hts (.fieldLink RX4 13 "SquareStakes$Text" "length" "I") (List.mem_of_getElem? (i := 1) rfl)
  have k9 := hts (.fieldLink RX4 9 "SquareStakes$Text" "characters" "[C") (List.mem_of_getElem? (i := 2) rfl)
  refine lv_aload_n hx hb dX4_couldAppend_0 rfl (lv_at hl 0 rfl) ?_
  refine va_get (D := D) (ci := 4) (v := .int (nI 60)) (C := RX4) (T := TX4) (N := 2) hx hb hts inX4 hown hK hP 0 rfl rfl 1 (by decide) k13 (fun _ h9 => h9) rfl dX4_couldAppend_1 ?_
  refine iLt (tgt := 19) hx hb dX4_couldAppend_4 (by decide) (by omega) ?_
  refine lv_aload_n hx hb dX4_couldAppend_7 rfl (lv_at hl 0 rfl) ?_
  refine va_get (D := D) (ci := 4) (v := .int (nI 60)) (C := RX4) (T := TX4) (N := 2) hx hb hts inX4 hown hK hP 0 rfl rfl 1 (by decide) k13 (fun _ h9 => h9) rfl dX4_couldAppend_8 ?_
  refine lv_aload_n hx hb dX4_couldAppend_11 rfl (lv_at hl 0 rfl) ?_
  refine va_get (D := D) (ci := 4) (v := .ref tc) (C := RX4) (T := TX4) (N := 2) hx hb hts inX4 hown hK hP 0 rfl rfl 0 (by decide) k9 (fun _ h9 => h9) rfl dX4_couldAppend_12 ?_
  refine va_alen (v := nI 60) hx hb hK hP 1 2 rfl rfl rfl dX4_couldAppend_15 ?_
  refine bLt (tgt := 21) hx hb dX4_couldAppend_16 (by decide) (by omega) (by omega) (fun c2 => by exfalso; omega) (fun c2 => ?_)
  refine lv_iconst (v := nI 0) hx hb dX4_couldAppend_19 (by decide +kernel) ?_
  refine rTop (zB_0 (b := false) (rfl)) ?_
  exact rZret hx hb hr hlk hP hK hD hS dX4_couldAppend_20

set_option maxHeartbeats 4000000 in
set_option maxRecDepth 100000 in
theorem mX4_empty (l : Launch) (D : va_G) (G : Nat → ClassId) (tx tc le : Nat) (t : Nat → Nat)  : CT l yX4_empty wsX4_empty 0 0 D G [.ref tx] [(tx, .inr (4, [.ref tc, .int (nI le)])), (tc, .inl (G 2, 60, .inl (ch t)))] [(tx, .inr (4, [.ref tc, .int (nI 0)])), (tc, .inl (G 2, 60, .inl (ch t)))] none := by
  refine CT.of (cc := cX4_empty) (maxL := 1) (ret := none) (by decide) rfl RX4 rfl (Nat.le_of_ble_eq_true rfl) (fun pp ee s mm bl me cc A ls hx hb hr hml hts hown hlk hnm hA hP hK hD hN hS hl => ?_)
  have hl : lv_has ls 1 [(0, .ref tx)] := hl
  have hP : va_P D vwCl [(tx, .inr (4, [.ref tc, .int (nI le)])), (tc, .inl (G 2, 60, .inl (ch t)))] s.heap := hP
  have inX4 : ∀ w ∈ wsX40, w ∈ wsX4_empty := fun w h => List.mem_cons_of_mem _ (List.mem_append_right _ h)
  have k13 := hts (.fieldLink RX4 13 "SquareStakes$Text" "length" "I") (List.mem_of_getElem? (i := 1) rfl)
  refine lv_aload_n hx hb dX4_empty_0 rfl (lv_at hl 0 rfl) ?_
  refine lv_iconst (v := nI 0) hx hb dX4_empty_1 (by decide +kernel) ?_
  refine va_put (D := D) (ci := 4) (v := .int (nI 0)) (ty := .int) (C := RX4) (T := TX4) (N := 2) hx hb hts inX4 tyX4 tyX4_ok nmX4 hown hK hP hD hS 0 rfl rfl 1 (by decide) k13 (fun _ h9 => h9) rfl (by decide +kernel) rfl rfl (Nat.le_of_ble_eq_true rfl) dX4_empty_2 (fun H locs hP hD hS => ?_)
  have hP : va_P D vwCl [(tx, .inr (4, [.ref tc, .int (nI 0)])), (tc, .inl (G 2, 60, .inl (ch t)))] H := hP
  have hD : va_D A [(tx, .inr (4, [.ref tc, .int (nI 0)])), (tc, .inl (G 2, 60, .inl (ch t)))] := hD
  exact rVret hx hb hr hlk hP hK hD hS dX4_empty_5

/-- the character at a place of the text, 0 behind its end -/
def chA (t : Nat → Nat) (le i : Nat) : Nat := if i < le then t i else 0
theorem chA_t {t : Nat → Nat} {le i : Nat} (h : i < le) : chA t le i = t i := if_pos h
theorem chA_f {t : Nat → Nat} {le i : Nat} (h : le ≤ i) : chA t le i = 0 := if_neg (Nat.not_lt.mpr h)
theorem chA_lt {t : Nat → Nat} (h : ∀ j, t j < 65536) (le i : Nat) : chA t le i < 65536 := by
  unfold chA
  split
  · exact h i
  · omega
theorem chA_side (t : Nat → Nat) (le : Nat) : sideOf t le = if 49 ≤ chA t le 0 ∧ chA t le 0 ≤ 57 then 3 else if 97 ≤ chA t le 0 ∧ chA t le 0 ≤ 112 then 4 else 0 := by
  by_cases h : le = 0
  · subst h
    simp [sideOf, chA]
  · rw [chA_t (show 0 < le by omega)]
    unfold sideOf
    rw [if_neg h]
theorem chA_3 {t : Nat → Nat} {le : Nat} (h1 : 49 ≤ chA t le 0) (h2 : chA t le 0 ≤ 57) : sideOf t le = 3 := by rw [chA_side, if_pos ⟨h1, h2⟩]
theorem chA_4 {t : Nat → Nat} {le : Nat} (h1 : 97 ≤ chA t le 0) (h2 : chA t le 0 ≤ 112) : sideOf t le = 4 := by rw [chA_side, if_neg (by omega), if_pos ⟨h1, h2⟩]
theorem chA_n {t : Nat → Nat} {le : Nat} (h1 : ¬ (49 ≤ chA t le 0 ∧ chA t le 0 ≤ 57)) (h2 : ¬ (97 ≤ chA t le 0 ∧ chA t le 0 ≤ 112)) : sideOf t le = 0 := by rw [chA_side, if_neg h1, if_neg h2]
section MYCHAR
variable {p : Program} {l : Launch} {e : Env} {R : Room} {s : State} {m : MethodId} {args : Array Value} {below : List Frame} {meth : Method} {c : Code} {H : Heap} {locs : List Loc} {cells slots : Nat}
variable {cc : ByteArray} {pc : Nat} {ls : Array Slot} {D : va_G} {G : Nat → ClassId} {A : Nat → Prop} {ws2 : va_W}
theorem rCret {v : Nat} (hv : v < 65536) (hx : p.tables.exec = Jvm.exec) (hb : c.code = cc) (hr : meth.sig.returnType = some .char) (hlk : meth.locks = false) (hP : va_P D vwCl ws2 H) (hK : va_K D vwCl (tyl G) s) (hD : va_D A ws2) (hS : va_S A s.heap H locs) (hdg : decode cc pc = .ok (.ireturn, 1)) : W p l e R s m args below meth c H locs cells slots (MQ below (Qres (some (.int (nI v))) D G ws2 A) args s cells slots A) (F0 m pc ls [.int (nI v)]) :=
  W.zret hx hb hr (pk_charN hv).1 (fun t ht hW => ⟨⟨rfl, by rw [ht]; exact hP, va_K.moved hW.alike hK, hD⟩, hS.F ht⟩) hS.2.2 hdg hlk
end MYCHAR

set_option maxHeartbeats 4000000 in
set_option maxRecDepth 100000 in
theorem mX4_characterAt (l : Launch) (D : va_G) (G : Nat → ClassId) (tx tc le : Nat) (t : Nat → Nat) (i : Nat) (hle : le ≤ 60) (htt : ∀ j, t j < 65536) (hi6 : i < 60) : CT l yX4_characterAt wsX4_characterAt 0 0 D G [.ref tx, .int (nI i)] [(tx, .inr (4, [.ref tc, .int (nI le)])), (tc, .inl (G 2, 60, .inl (ch t)))] [(tx, .inr (4, [.ref tc, .int (nI le)])), (tc, .inl (G 2, 60, .inl (ch t)))] (some (.int (nI (chA t le i)))) := by
  refine CT.of (cc := cX4_characterAt) (maxL := 2) (ret := (some .char)) (by decide) rfl RX4 rfl (Nat.le_of_ble_eq_true rfl) (fun pp ee s mm bl me cc A ls hx hb hr hml hts hown hlk hnm hA hP hK hD hN hS hl => ?_)
  have hl : lv_has ls 2 [(0, .ref tx), (1, .int (nI i))] := hl
  have hP : va_P D vwCl [(tx, .inr (4, [.ref tc, .int (nI le)])), (tc, .inl (G 2, 60, .inl (ch t)))] s.heap := hP
  have inX4 : ∀ w ∈ wsX40, w ∈ wsX4_characterAt := fun w h => List.mem_cons_of_mem _ (List.mem_append_right _ h)
  have k13 := hts (.fieldLink RX4 13 "SquareStakes$Text" "length" "I") (List.mem_of_getElem? (i := 1) rfl)
  have k9 := hts (.fieldLink RX4 9 "SquareStakes$Text" "characters" "[C") (List.mem_of_getElem? (i := 2) rfl)
  refine lv_iload_n hx hb dX4_characterAt_0 rfl (lv_at hl 1 rfl) ?_
  refine iLt (tgt := 30) hx hb dX4_characterAt_1 (by decide) (by omega) ?_
  refine lv_iload_n hx hb dX4_characterAt_4 rfl (lv_at hl 1 rfl) ?_
  refine lv_aload_n hx hb dX4_characterAt_5 rfl (lv_at hl 0 rfl) ?_
  refine va_get (D := D) (ci := 4) (v := .int (nI le)) (C := RX4) (T := TX4) (N := 2) hx hb hts inX4 hown hK hP 0 rfl rfl 1 (by decide) k13 (fun _ h9 => h9) rfl dX4_characterAt_6 ?_
  refine bGe (tgt := 30) hx hb dX4_characterAt_9 (by decide) (by omega) (by omega) (fun c2 => ?_) (fun c2 => ?_)
  · refine lv_iconst (v := nI 0) hx hb dX4_characterAt_30 (by decide +kernel) ?_
    refine rTop (show nI 0 = nI (chA t le i) from congrArg nI (chA_f (by omega)).symm) ?_
    exact rCret (chA_lt htt le i) hx hb hr hlk hP hK hD hS dX4_characterAt_31
  · refine lv_iload_n hx hb dX4_characterAt_12 rfl (lv_at hl 1 rfl) ?_
    refine lv_aload_n hx hb dX4_characterAt_13 rfl (lv_at hl 0 rfl) ?_
    refine va_get (D := D) (ci := 4) (v := .ref tc) (C := RX4) (T := TX4) (N := 2) hx hb hts inX4 hown hK hP 0 rfl rfl 0 (by decide) k9 (fun _ h9 => h9) rfl dX4_characterAt_14 ?_
    refine va_alen (v := nI 60) hx hb hK hP 1 2 rfl rfl rfl dX4_characterAt_17 ?_
    refine bGe (tgt := 30) hx hb dX4_characterAt_18 (by decide) (by omega) (by omega) (fun c3 => by exfalso; omega) (fun c3 => ?_)
    refine lv_aload_n hx hb dX4_characterAt_21 rfl (lv_at hl 0 rfl) ?_
    refine va_get (D := D) (ci := 4) (v := .ref tc) (C := RX4) (T := TX4) (N := 2) hx hb hts inX4 hown hK hP 0 rfl rfl 0 (by decide) k9 (fun _ h9 => h9) rfl dX4_characterAt_22 ?_
    refine lv_iload_n hx hb dX4_characterAt_25 rfl (lv_at hl 1 rfl) ?_
    refine rCald hx hb hK hP 1 rfl i (by omega) (by decide) dX4_characterAt_26 ?_
    refine rTop (show ch t i = nI (t i) from rfl) ?_
    refine lv_goto (tgt := 31) hx hb dX4_characterAt_27 (by decide) ?_
    refine rTop (show nI (t i) = nI (chA t le i) from congrArg nI (chA_t (by omega)).symm) ?_
    exact rCret (chA_lt htt le i) hx hb hr hlk hP hK hD hS dX4_characterAt_31

set_option maxHeartbeats 4000000 in
set_option maxRecDepth 100000 in
theorem mX4_sideOfSquare (l : Launch) (D : va_G) (G : Nat → ClassId) (tx tc le : Nat) (t : Nat → Nat) (hle : le ≤ 60) (htt : ∀ j, t j < 65536) : CT l yX4_sideOfSquare wsX4_sideOfSquare 1 21 D G [.ref tx] [(tx, .inr (4, [.ref tc, .int (nI le)])), (tc, .inl (G 2, 60, .inl (ch t)))] [(tx, .inr (4, [.ref tc, .int (nI le)])), (tc, .inl (G 2, 60, .inl (ch t)))] (some (.int (nI (sideOf t le)))) := by
  refine CT.of (cc := cX4_sideOfSquare) (maxL := 2) (ret := (some .int)) (by decide) rfl RX4 rfl (Nat.le_of_ble_eq_true rfl) (fun pp ee s mm bl me cc A ls hx hb hr hml hts hown hlk hnm hA hP hK hD hN hS hl => ?_)
  have hl : lv_has ls 2 [(0, .ref tx)] := hl
  have hP : va_P D vwCl [(tx, .inr (4, [.ref tc, .int (nI le)])), (tc, .inl (G 2, 60, .inl (ch t)))] s.heap := hP
  have ht0 := chA_lt htt le 0
  refine lv_aload_n hx hb dX4_sideOfSquare_0 rfl (lv_at hl 0 rfl) ?_
  refine lv_iconst (v := nI 0) hx hb dX4_sideOfSquare_1 (by decide +kernel) ?_
  refine cVr (As := [.int (nI 0)]) (rest := []) ⟨hx, hb, hml, hown, hts⟩ hP hK hD hS hN hA (mX4_characterAt l D G tx tc le t 0 (by first | assumption | omega) (by first | assumption | omega) (by first | assumption | omega)) (cwV 1 hts gX4_sideOfSquare_X4_characterAt rfl rfl rfl (by decide +kernel) ⟨Nat.le_of_ble_eq_true rfl, Nat.le_of_ble_eq_true rfl⟩) [0, 1] rfl (by decide) 0 4 rfl rfl rfl hl.1 rfl (Nat.le_of_ble_eq_true rfl) dX4_sideOfSquare_2 ⟨Nat.zero_le _, Nat.zero_le _⟩ (fun H locs hP hS => ?_)
  refine lv_istore_n (lv' := [(1, .int (nI (chA t le 0))), (0, .ref tx)]) hx hb dX4_sideOfSquare_5 rfl hl (by decide) rfl (fun ls hl => ?_)
  refine lv_iload_n hx hb dX4_sideOfSquare_6 rfl (lv_at hl 0 rfl) ?_
  refine lv_bipush (v := nI 49) hx hb dX4_sideOfSquare_7 (by decide +kernel) ?_
  refine bLt (tgt := 20) hx hb dX4_sideOfSquare_9 (by decide) (by omega) (by omega) (fun c1 => ?_) (fun c1 => ?_)
  · refine lv_iload_n hx hb dX4_sideOfSquare_20 rfl (lv_at hl 0 rfl) ?_
    refine lv_bipush (v := nI 97) hx hb dX4_sideOfSquare_21 (by decide +kernel) ?_
    refine bLt (tgt := 36) hx hb dX4_sideOfSquare_23 (by decide) (by omega) (by omega) (fun c2 => ?_) (fun c2 => ?_)
    · refine lv_iconst (v := nI 0) hx hb dX4_sideOfSquare_36 (by decide +kernel) ?_
      refine rTop (show nI 0 = nI (sideOf t le) from congrArg nI (chA_n (by omega) (by omega)).symm) ?_
      exact rIret hx hb hr hlk hP hK hD hS dX4_sideOfSquare_37
    · refine lv_iload_n hx hb dX4_sideOfSquare_26 rfl (lv_at hl 0 rfl) ?_
      refine lv_bipush (v := nI 112) hx hb dX4_sideOfSquare_27 (by decide +kernel) ?_
      refine bGt (tgt := 36) hx hb dX4_sideOfSquare_29 (by decide) (by omega) (by omega) (fun c3 => ?_) (fun c3 => ?_)
      · refine lv_iconst (v := nI 0) hx hb dX4_sideOfSquare_36 (by decide +kernel) ?_
        refine rTop (show nI 0 = nI (sideOf t le) from congrArg nI (chA_n (by omega) (by omega)).symm) ?_
        exact rIret hx hb hr hlk hP hK hD hS dX4_sideOfSquare_37
      · refine lv_iconst (v := nI 4) hx hb dX4_sideOfSquare_32 (by decide +kernel) ?_
        refine lv_goto (tgt := 37) hx hb dX4_sideOfSquare_33 (by decide) ?_
        refine rTop (show nI 4 = nI (sideOf t le) from congrArg nI (chA_4 (by omega) (by omega)).symm) ?_
        exact rIret hx hb hr hlk hP hK hD hS dX4_sideOfSquare_37
  · refine lv_iload_n hx hb dX4_sideOfSquare_12 rfl (lv_at hl 0 rfl) ?_
    refine lv_bipush (v := nI 57) hx hb dX4_sideOfSquare_13 (by decide +kernel) ?_
    refine bGt (tgt := 20) hx hb dX4_sideOfSquare_15 (by decide) (by omega) (by omega) (fun c4 => ?_) (fun c4 => ?_)
    · refine lv_iload_n hx hb dX4_sideOfSquare_20 rfl (lv_at hl 0 rfl) ?_
      refine lv_bipush (v := nI 97) hx hb dX4_sideOfSquare_21 (by decide +kernel) ?_
      refine bLt (tgt := 36) hx hb dX4_sideOfSquare_23 (by decide) (by omega) (by omega) (fun c5 => ?_) (fun c5 => ?_)
      · refine lv_iconst (v := nI 0) hx hb dX4_sideOfSquare_36 (by decide +kernel) ?_
        refine rTop (show nI 0 = nI (sideOf t le) from congrArg nI (chA_n (by omega) (by omega)).symm) ?_
        exact rIret hx hb hr hlk hP hK hD hS dX4_sideOfSquare_37
      · refine lv_iload_n hx hb dX4_sideOfSquare_26 rfl (lv_at hl 0 rfl) ?_
        refine lv_bipush (v := nI 112) hx hb dX4_sideOfSquare_27 (by decide +kernel) ?_
        refine bGt (tgt := 36) hx hb dX4_sideOfSquare_29 (by decide) (by omega) (by omega) (fun c6 => ?_) (fun c6 => ?_)
        · refine lv_iconst (v := nI 0) hx hb dX4_sideOfSquare_36 (by decide +kernel) ?_
          refine rTop (show nI 0 = nI (sideOf t le) from congrArg nI (chA_n (by omega) (by omega)).symm) ?_
          exact rIret hx hb hr hlk hP hK hD hS dX4_sideOfSquare_37
        · refine lv_iconst (v := nI 4) hx hb dX4_sideOfSquare_32 (by decide +kernel) ?_
          refine lv_goto (tgt := 37) hx hb dX4_sideOfSquare_33 (by decide) ?_
          refine rTop (show nI 4 = nI (sideOf t le) from congrArg nI (chA_4 (by omega) (by omega)).symm) ?_
          exact rIret hx hb hr hlk hP hK hD hS dX4_sideOfSquare_37
    · refine lv_iconst (v := nI 3) hx hb dX4_sideOfSquare_18 (by decide +kernel) ?_
      refine rTop (show nI 3 = nI (sideOf t le) from congrArg nI (chA_3 (by omega) (by omega)).symm) ?_
      exact rIret hx hb hr hlk hP hK hD hS dX4_sideOfSquare_19

set_option maxHeartbeats 4000000 in
set_option maxRecDepth 100000 in
theorem mX4_numberAt (l : Launch) (D : va_G) (G : Nat → ClassId) (tx tc le : Nat) (t : Nat → Nat) (i : Nat) (hle : le ≤ 60) (htt : ∀ j, t j < 65536) (hil : i < le) : CT l yX4_numberAt wsX4_numberAt 2 42 D G [.ref tx, .int (nI i)] [(tx, .inr (4, [.ref tc, .int (nI le)])), (tc, .inl (G 2, 60, .inl (ch t)))] [(tx, .inr (4, [.ref tc, .int (nI le)])), (tc, .inl (G 2, 60, .inl (ch t)))] (some (.int (nrA t le i))) := by
  refine CT.of (cc := cX4_numberAt) (maxL := 3) (ret := (some .int)) (by decide) rfl RX4 rfl (Nat.le_of_ble_eq_true rfl) (fun pp ee s mm bl me cc A ls hx hb hr hml hts hown hlk hnm hA hP hK hD hN hS hl => ?_)
  have hl : lv_has ls 3 [(0, .ref tx), (1, .int (nI i))] := hl
  have hP : va_P D vwCl [(tx, .inr (4, [.ref tc, .int (nI le)])), (tc, .inl (G 2, 60, .inl (ch t)))] s.heap := hP
  have hsl := sideOf_le t le
  refine lv_aload_n hx hb dX4_numberAt_0 rfl (lv_at hl 0 rfl) ?_
  refine cVr (As := []) (rest := []) ⟨hx, hb, hml, hown, hts⟩ hP hK hD hS hN hA (mX4_sideOfSquare l D G tx tc le t (by first | assumption | omega) (by first | assumption | omega)) (cwV 0 hts gX4_numberAt_X4_sideOfSquare rfl rfl rfl (by decide +kernel) ⟨Nat.le_of_ble_eq_true rfl, Nat.le_of_ble_eq_true rfl⟩) [0, 1] rfl (by decide) 0 4 rfl rfl rfl hl.1 rfl (Nat.le_of_ble_eq_true rfl) dX4_numberAt_1 ⟨Nat.zero_le _, Nat.zero_le _⟩ (fun H locs hP hS => ?_)
  refine lv_iconst (v := nI 3) hx hb dX4_numberAt_4 (by decide +kernel) ?_
  refine bNe (tgt := 13) hx hb dX4_numberAt_5 (by decide) (by omega) (by omega) (fun c1 => ?_) (fun c1 => ?_)
  · refine lv_bipush (v := nI 96) hx hb dX4_numberAt_13 (by decide +kernel) ?_
    refine lv_istore_n (lv' := [(2, .int (nI 96)), (0, .ref tx), (1, .int (nI i))]) hx hb dX4_numberAt_15 rfl hl (by decide) rfl (fun ls hl => ?_)
    refine lv_aload_n hx hb dX4_numberAt_16 rfl (lv_at hl 1 rfl) ?_
    refine lv_iload_n hx hb dX4_numberAt_17 rfl (lv_at hl 2 rfl) ?_
    refine cVr (As := [.int (nI i)]) (rest := []) ⟨hx, hb, hml, hown, hts⟩ hP hK hD hS hN hA (mX4_characterAt l D G tx tc le t i (by first | assumption | omega) (by first | assumption | omega) (by first | assumption | omega)) (cwV 1 hts gX4_numberAt_X4_characterAt rfl rfl rfl (by decide +kernel) ⟨Nat.le_of_ble_eq_true rfl, Nat.le_of_ble_eq_true rfl⟩) [0, 1] rfl (by decide) 0 4 rfl rfl rfl hl.1 rfl (Nat.le_of_ble_eq_true rfl) dX4_numberAt_18 ⟨Nat.zero_le _, Nat.zero_le _⟩ (fun H locs hP hS => ?_)
    refine rTop (show nI (chA t le i) = nI (t i) from congrArg nI (chA_t hil)) ?_
    refine lv_iload_n hx hb dX4_numberAt_21 rfl (lv_at hl 0 rfl) ?_
    refine lv_isub hx hb dX4_numberAt_22 ?_
    refine rTop (show (nI (t i) - nI 96) = nrA t le i from by unfold nrA; rw [if_pos hil]; first | rw [if_pos (by omega)] | rw [if_neg (by omega)]) ?_
    exact rIret hx hb hr hlk hP hK hD hS dX4_numberAt_23
  · refine lv_bipush (v := nI 48) hx hb dX4_numberAt_8 (by decide +kernel) ?_
    refine lv_goto (tgt := 15) hx hb dX4_numberAt_10 (by decide) ?_
    refine lv_istore_n (lv' := [(2, .int (nI 48)), (0, .ref tx), (1, .int (nI i))]) hx hb dX4_numberAt_15 rfl hl (by decide) rfl (fun ls hl => ?_)
    refine lv_aload_n hx hb dX4_numberAt_16 rfl (lv_at hl 1 rfl) ?_
    refine lv_iload_n hx hb dX4_numberAt_17 rfl (lv_at hl 2 rfl) ?_
    refine cVr (As := [.int (nI i)]) (rest := []) ⟨hx, hb, hml, hown, hts⟩ hP hK hD hS hN hA (mX4_characterAt l D G tx tc le t i (by first | assumption | omega) (by first | assumption | omega) (by first | assumption | omega)) (cwV 1 hts gX4_numberAt_X4_characterAt rfl rfl rfl (by decide +kernel) ⟨Nat.le_of_ble_eq_true rfl, Nat.le_of_ble_eq_true rfl⟩) [0, 1] rfl (by decide) 0 4 rfl rfl rfl hl.1 rfl (Nat.le_of_ble_eq_true rfl) dX4_numberAt_18 ⟨Nat.zero_le _, Nat.zero_le _⟩ (fun H locs hP hS => ?_)
    refine rTop (show nI (chA t le i) = nI (t i) from congrArg nI (chA_t hil)) ?_
    refine lv_iload_n hx hb dX4_numberAt_21 rfl (lv_at hl 0 rfl) ?_
    refine lv_isub hx hb dX4_numberAt_22 ?_
    refine rTop (show (nI (t i) - nI 48) = nrA t le i from by unfold nrA; rw [if_pos hil]; first | rw [if_pos (by omega)] | rw [if_neg (by omega)]) ?_
    exact rIret hx hb hr hlk hP hK hD hS dX4_numberAt_23

set_option maxHeartbeats 4000000 in
set_option maxRecDepth 100000 in
theorem mX4_fault (l : Launch) (D : va_G) (G : Nat → ClassId) (tx tc le : Nat) (t : Nat → Nat) (hle : le ≤ 60) (htt : ∀ j, t j < 65536) : CT l yX4_fault wsX4_fault 3 64 D G [.ref tx] [(tx, .inr (4, [.ref tc, .int (nI le)])), (tc, .inl (G 2, 60, .inl (ch t)))] [(tx, .inr (4, [.ref tc, .int (nI le)])), (tc, .inl (G 2, 60, .inl (ch t)))] (some (.int (flc t le))) := by
  refine CT.of (cc := cX4_fault) (maxL := 6) (ret := (some .int)) (by decide) rfl RX4 rfl (Nat.le_of_ble_eq_true rfl) (fun pp ee s mm bl me cc A ls hx hb hr hml hts hown hlk hnm hA hP hK hD hN hS hl => ?_)
  have hl : lv_has ls 6 [(0, .ref tx)] := hl
  have hP : va_P D vwCl [(tx, .inr (4, [.ref tc, .int (nI le)])), (tc, .inl (G 2, 60, .inl (ch t)))] s.heap := hP
  have inX4 : ∀ w ∈ wsX40, w ∈ wsX4_fault := fun w h => List.mem_cons_of_mem _ (List.mem_append_right _ h)
  have k13 := hts (.fieldLink RX4 13 "SquareStakes$Text" "length" "I") (List.mem_of_getElem? (i := 1) rfl)
  have hcs := cs_le t le
  have hsl := sideOf_le t le
  have hzz := zz_le t le
  refine lv_aload_n hx hb dX4_fault_0 rfl (lv_at hl 0 rfl) ?_
  refine cVr (As := []) (rest := []) ⟨hx, hb, hml, hown, hts⟩ hP hK hD hS hN hA (mX4_sideOfSquare l D G tx tc le t (by first | assumption | omega) (by first | assumption | omega)) (cwV 0 hts gX4_fault_X4_sideOfSquare rfl rfl rfl (by decide +kernel) ⟨Nat.le_of_ble_eq_true rfl, Nat.le_of_ble_eq_true rfl⟩) [0, 1] rfl (by decide) 0 4 rfl rfl rfl hl.1 rfl (Nat.le_of_ble_eq_true rfl) dX4_fault_1 ⟨Nat.zero_le _, Nat.zero_le _⟩ (fun H locs hP hS => ?_)
  refine lv_istore_n (lv' := [(1, .int (nI (sideOf t le))), (0, .ref tx)]) hx hb dX4_fault_4 rfl hl (by decide) rfl (fun ls hl => ?_)
  refine lv_iload_n hx hb dX4_fault_5 rfl (lv_at hl 0 rfl) ?_
  refine lv_iload_n hx hb dX4_fault_6 rfl (lv_at hl 0 rfl) ?_
  refine lv_imul hx hb dX4_fault_7 ?_
  refine rTop (show nI (sideOf t le) * nI (sideOf t le) = nI ((sideOf t le) * (sideOf t le)) from pk_mul (sideOf t le) (sideOf t le)) ?_
  refine rTop (show nI ((sideOf t le) * (sideOf t le)) = nI (cs t le) from rfl) ?_
  refine lv_istore_n (lv' := [(2, .int (nI (cs t le))), (1, .int (nI (sideOf t le))), (0, .ref tx)]) hx hb dX4_fault_8 rfl hl (by decide) rfl (fun ls hl => ?_)
  refine lv_iconst (v := nI 0) hx hb dX4_fault_9 (by decide +kernel) ?_
  refine lv_istore_n (lv' := [(3, .int (nI 0)), (2, .int (nI (cs t le))), (1, .int (nI (sideOf t le))), (0, .ref tx)]) hx hb dX4_fault_10 rfl hl (by decide) rfl (fun ls hl => ?_)
  refine lv_iconst (v := nI 0) hx hb dX4_fault_11 (by decide +kernel) ?_
  refine lv_istore (lv' := [(4, .int (nI 0)), (3, .int (nI 0)), (2, .int (nI (cs t le))), (1, .int (nI (sideOf t le))), (0, .ref tx)]) hx hb dX4_fault_12 hl (by decide) rfl (fun ls hl => ?_)
  have LP14 : ∀ (nn14 i : Nat), i ≤ le → le < i + nn14 → (frs t le i = i) → ∀ (H : Heap) (locs : List Loc), va_P D vwCl [(tx, .inr (4, [.ref tc, .int (nI le)])), (tc, .inl (G 2, 60, .inl (ch t)))] H → va_D A [(tx, .inr (4, [.ref tc, .int (nI le)])), (tc, .inl (G 2, 60, .inl (ch t)))] → va_S A s.heap H locs → ∀ ls : Array Slot, lv_has ls 6 [(3, .int (nI (mkk (fun j => t j - zz t le) i))), (4, .int (nI i)), (2, .int (nI (cs t le))), (1, .int (nI (sideOf t le))), (0, .ref tx)] → W pp l ee (rmA 3 64) s mm ([.ref tx] : List Value).toArray bl me cc H locs 0 0 (MQ bl (Qres (some (.int (flc t le))) D G [(tx, .inr (4, [.ref tc, .int (nI le)])), (tc, .inl (G 2, 60, .inl (ch t)))] A) ([.ref tx] : List Value).toArray s 0 0 A) (F0 mm 14 ls []) := by
    intro nn14
    induction nn14 with
    | zero => intro i h1 h2; exact absurd h2 (by omega)
    | succ nn14 ih14 =>
      intro i hki hni hI H locs hP hD hS ls hl
      refine lv_iload hx hb dX4_fault_14 (lv_at hl 1 rfl) ?_
      refine lv_aload_n hx hb dX4_fault_16 rfl (lv_at hl 4 rfl) ?_
      refine va_get (D := D) (ci := 4) (v := .int (nI le)) (C := RX4) (T := TX4) (N := 2) hx hb hts inX4 hown hK hP 0 rfl rfl 1 (by decide) k13 (fun _ h9 => h9) rfl dX4_fault_17 ?_
      refine bGe (tgt := 75) hx hb dX4_fault_20 (by decide) (by omega) (by omega) (fun c1 => ?_) (fun c1 => ?_)
      · obtain rfl : le = i := by omega
        refine lv_aload_n hx hb dX4_fault_75 rfl (lv_at hl 4 rfl) ?_
        refine va_get (D := D) (ci := 4) (v := .int (nI le)) (C := RX4) (T := TX4) (N := 2) hx hb hts inX4 hown hK hP 0 rfl rfl 1 (by decide) k13 (fun _ h9 => h9) rfl dX4_fault_76 ?_
        refine iLe (tgt := 90) hx hb dX4_fault_79 (by decide) (by omega) (fun c2 => ?_) (fun c2 => ?_)
        · refine lv_aload_n hx hb dX4_fault_90 rfl (lv_at hl 4 rfl) ?_
          refine va_get (D := D) (ci := 4) (v := .int (nI le)) (C := RX4) (T := TX4) (N := 2) hx hb hts inX4 hown hK hP 0 rfl rfl 1 (by decide) k13 (fun _ h9 => h9) rfl dX4_fault_91 ?_
          refine lv_goto (tgt := 98) hx hb dX4_fault_94 (by decide) ?_
          refine rTop (show nI le = flc t le from flc_end (by assumption) (by omega)) ?_
          exact rIret hx hb hr hlk hP hK hD hS dX4_fault_98
        · refine lv_aload_n hx hb dX4_fault_82 rfl (lv_at hl 4 rfl) ?_
          refine va_get (D := D) (ci := 4) (v := .int (nI le)) (C := RX4) (T := TX4) (N := 2) hx hb hts inX4 hown hK hP 0 rfl rfl 1 (by decide) k13 (fun _ h9 => h9) rfl dX4_fault_83 ?_
          refine lv_iload_n hx hb dX4_fault_86 rfl (lv_at hl 2 rfl) ?_
          refine bGe (tgt := 97) hx hb dX4_fault_87 (by decide) (by omega) (by omega) (fun c3 => ?_) (fun c3 => ?_)
          · refine lv_iconst (v := -1) hx hb dX4_fault_97 (by decide +kernel) ?_
            refine rTop (show (-1) = flc t le from flc_ok (by assumption) (by omega) (by omega)) ?_
            exact rIret hx hb hr hlk hP hK hD hS dX4_fault_98
          · refine lv_aload_n hx hb dX4_fault_90 rfl (lv_at hl 4 rfl) ?_
            refine va_get (D := D) (ci := 4) (v := .int (nI le)) (C := RX4) (T := TX4) (N := 2) hx hb hts inX4 hown hK hP 0 rfl rfl 1 (by decide) k13 (fun _ h9 => h9) rfl dX4_fault_91 ?_
            refine lv_goto (tgt := 98) hx hb dX4_fault_94 (by decide) ?_
            refine rTop (show nI le = flc t le from flc_end (by assumption) (by omega)) ?_
            exact rIret hx hb hr hlk hP hK hD hS dX4_fault_98
      · refine lv_aload_n hx hb dX4_fault_23 rfl (lv_at hl 4 rfl) ?_
        refine lv_iload hx hb dX4_fault_24 (lv_at hl 1 rfl) ?_
        refine cVr (As := [.int (nI i)]) (rest := []) ⟨hx, hb, hml, hown, hts⟩ hP hK hD hS hN hA (mX4_numberAt l D G tx tc le t i (by first | assumption | omega) (by first | assumption | omega) (by first | assumption | omega)) (cwV 1 hts gX4_fault_X4_numberAt rfl rfl rfl (by decide +kernel) ⟨Nat.le_of_ble_eq_true rfl, Nat.le_of_ble_eq_true rfl⟩) [0, 1] rfl (by decide) 0 4 rfl rfl rfl hl.1 rfl (Nat.le_of_ble_eq_true rfl) dX4_fault_26 ⟨Nat.zero_le _, Nat.zero_le _⟩ (fun H locs hP hS => ?_)
        have hil : i < le := by assumption
        have hti := htt i
        refine rTop (show nrA t le i = (nI (t i) - nI (zz t le)) from by unfold nrA; rw [if_pos hil]; rfl) ?_
        refine lv_istore (lv' := [(5, .int (nI (t i) - nI (zz t le))), (3, .int (nI (mkk (fun j => t j - zz t le) i))), (4, .int (nI i)), (2, .int (nI (cs t le))), (1, .int (nI (sideOf t le))), (0, .ref tx)]) hx hb dX4_fault_29 hl (by decide) rfl (fun ls hl => ?_)
        refine lv_iload hx hb dX4_fault_31 (lv_at hl 2 rfl) ?_
        refine lv_iload_n hx hb dX4_fault_33 rfl (lv_at hl 3 rfl) ?_
        refine bGe (tgt := 59) hx hb dX4_fault_34 (by decide) (by omega) (by omega) (fun c4 => ?_) (fun c4 => ?_)
        · refine lv_iload hx hb dX4_fault_59 (lv_at hl 2 rfl) ?_
          refine rTop (show nI i = flc t le from by first | exact flc_hit hI hil (bad_1 (by assumption)) | exact flc_hit hI hil (bad_2 hti (by assumption)) | exact flc_hit hI hil (bad_3 hti (by assumption)) | exact flc_hit hI hil (bad_4 hdp)) ?_
          exact rIret hx hb hr hlk hP hK hD hS dX4_fault_61
        · refine lv_iload hx hb dX4_fault_37 (lv_at hl 0 rfl) ?_
          refine lv_iconst (v := nI 1) hx hb dX4_fault_39 (by decide +kernel) ?_
          refine lv_icmp_lt (tgt := 59) hx hb dX4_fault_40 (by decide)  (fun c5 => ?_) (fun c5 => ?_)
          · refine lv_iload hx hb dX4_fault_59 (lv_at hl 2 rfl) ?_
            refine rTop (show nI i = flc t le from by first | exact flc_hit hI hil (bad_1 (by assumption)) | exact flc_hit hI hil (bad_2 hti (by assumption)) | exact flc_hit hI hil (bad_3 hti (by assumption)) | exact flc_hit hI hil (bad_4 hdp)) ?_
            exact rIret hx hb hr hlk hP hK hD hS dX4_fault_61
          · refine lv_iload hx hb dX4_fault_43 (lv_at hl 0 rfl) ?_
            refine lv_iload_n hx hb dX4_fault_45 rfl (lv_at hl 3 rfl) ?_
            refine lv_icmp_gt (tgt := 59) hx hb dX4_fault_46 (by decide)  (fun c6 => ?_) (fun c6 => ?_)
            · refine lv_iload hx hb dX4_fault_59 (lv_at hl 2 rfl) ?_
              refine rTop (show nI i = flc t le from by first | exact flc_hit hI hil (bad_1 (by assumption)) | exact flc_hit hI hil (bad_2 hti (by assumption)) | exact flc_hit hI hil (bad_3 hti (by assumption)) | exact flc_hit hI hil (bad_4 hdp)) ?_
              exact rIret hx hb hr hlk hP hK hD hS dX4_fault_61
            · have hg : zz t le + 1 ≤ t i ∧ t i ≤ zz t le + cs t le := ⟨Nat.not_lt.mp (fun q => absurd ((num_lo hti hzz).mpr q) (by assumption)), Nat.not_lt.mp (fun q => absurd ((num_hi hti hzz hcs).mpr q) (by assumption))⟩
              rw [show (nI (t i) - nI (zz t le)) = nI (t i - zz t le) from pk_sub (by omega)] at hl
              have hgd : ∀ j, j < i → zz t le + 1 ≤ t j ∧ t j ≤ zz t le + cs t le := fun j hj => (bad_in (frs_good hI j hj)).2
              have hmk : mkk (fun j => t j - zz t le) i < 2 ^ 17 := mkk_lt (fun j hj => by have := hgd j hj; show t j - zz t le < 17; omega)
              refine lv_iload_n hx hb dX4_fault_49 rfl (lv_at hl 1 rfl) ?_
              refine lv_iload hx hb dX4_fault_50 (lv_at hl 0 rfl) ?_
              refine lv_ishr hx hb dX4_fault_52 ?_
              refine lv_iconst (v := nI 1) hx hb dX4_fault_53 (by decide +kernel) ?_
              refine lv_iand hx hb dX4_fault_54 ?_
              refine rTop (show ((nI (mkk (fun j => t j - zz t le) i) >>> (nI (t i - zz t le) &&& 31)) &&& nI 1) = zB (dp t (t i) i) from by rw [seen_bit hmk (by omega), mkk_bit (t := t) (y := t i) (fun j hj => by have := hgd j hj; show t j - zz t le = t i - zz t le ↔ t j = t i; omega)]) ?_
              refine lv_iconst (v := nI 1) hx hb dX4_fault_55 (by decide +kernel) ?_
              refine lv_icmp_ne (tgt := 62) hx hb dX4_fault_56 (by decide)  (fun c7 => ?_) (fun c7 => ?_)
              · have hdp : dp t (t i) i = false := by cases hb9 : dp t (t i) i with | false => rfl | true => exact absurd (zB_eq1.mpr hb9) (by assumption)
                refine lv_iload_n hx hb dX4_fault_62 rfl (lv_at hl 1 rfl) ?_
                refine lv_iconst (v := nI 1) hx hb dX4_fault_63 (by decide +kernel) ?_
                refine lv_iload hx hb dX4_fault_64 (lv_at hl 0 rfl) ?_
                refine lv_ishl hx hb dX4_fault_66 ?_
                refine lv_ior hx hb dX4_fault_67 ?_
                refine rTop (show (nI (mkk (fun j => t j - zz t le) i) ||| (nI 1 <<< (nI (t i - zz t le) &&& 31))) = nI (mkk (fun j => t j - zz t le) (i + 1)) from seen_put (by omega)) ?_
                refine lv_istore_n (lv' := [(3, .int (nI (mkk (fun j => t j - zz t le) (i + 1)))), (5, .int (nI (t i - zz t le))), (4, .int (nI i)), (2, .int (nI (cs t le))), (1, .int (nI (sideOf t le))), (0, .ref tx)]) hx hb dX4_fault_68 rfl hl (by decide) rfl (fun ls hl => ?_)
                refine lv_iinc (v := nI (i + 1)) (lv' := [(4, .int (nI (i + 1))), (3, .int (nI (mkk (fun j => t j - zz t le) (i + 1)))), (5, .int (nI (t i - zz t le))), (2, .int (nI (cs t le))), (1, .int (nI (sideOf t le))), (0, .ref tx)]) hx hb dX4_fault_69 hl (k := 2) rfl (nI_inc i) (by decide) rfl (fun ls hl => ?_)
                refine lv_goto (tgt := 14) hx hb dX4_fault_72 (by decide) ?_
                exact ih14 (i + 1) (by omega) (by omega) (frs_go hI (bad_no (by assumption) hg.1 hg.2 (by assumption))) _ _ hP hD hS _ (lv_sub hl [1, 0, 3, 4, 5] rfl)
              · have hdp : dp t (t i) i = true := zB_eq1.mp (by assumption)
                refine lv_iload hx hb dX4_fault_59 (lv_at hl 2 rfl) ?_
                refine rTop (show nI i = flc t le from by first | exact flc_hit hI hil (bad_1 (by assumption)) | exact flc_hit hI hil (bad_2 hti (by assumption)) | exact flc_hit hI hil (bad_3 hti (by assumption)) | exact flc_hit hI hil (bad_4 hdp)) ?_
                exact rIret hx hb hr hlk hP hK hD hS dX4_fault_61
  exact LP14 (le + 1 - 0) 0 (by omega) (by omega) rfl _ _ hP hD hS _ (lv_sub hl [1, 0, 2, 3, 4] rfl)

set_option maxHeartbeats 4000000 in
set_option maxRecDepth 100000 in
theorem mX1_layFrom (l : Launch) (D : va_G) (G : Nat → ClassId) (ob nu fr n : Nat) (N Z : Nat → Int32) (tx tc le : Nat) (t : Nat → Nat) (hle : le ≤ 60) (htt : ∀ j, t j < 65536) (hsd : sideOf t le = 3 ∨ sideOf t le = 4) (hcl : le = cs t le) : CT l yX1_layFrom wsX1_layFrom 3 64 D G [.ref ob, .ref tx] [(ob, .inr (1, [.int (nI n), .ref nu, .ref fr])), (nu, .inl (G 0, 16, .inl N)), (fr, .inl (G 0, 16, .inl Z)), (tx, .inr (4, [.ref tc, .int (nI le)])), (tc, .inl (G 2, 60, .inl (ch t)))] [(ob, .inr (1, [.int (nI (sideOf t le)), .ref nu, .ref fr])), (nu, .inl (G 0, 16, .inl (fst_ (nrA t le) N le))), (fr, .inl (G 0, 16, .inl Z)), (tx, .inr (4, [.ref tc, .int (nI le)])), (tc, .inl (G 2, 60, .inl (ch t)))] none := by
  refine CT.of (cc := cX1_layFrom) (maxL := 3) (ret := none) (by decide) rfl RX1 rfl (Nat.le_of_ble_eq_true rfl) (fun pp ee s mm bl me cc A ls hx hb hr hml hts hown hlk hnm hA hP hK hD hN hS hl => ?_)
  have hl : lv_has ls 3 [(0, .ref ob), (1, .ref tx)] := hl
  have hP : va_P D vwCl [(ob, .inr (1, [.int (nI n), .ref nu, .ref fr])), (nu, .inl (G 0, 16, .inl N)), (fr, .inl (G 0, 16, .inl Z)), (tx, .inr (4, [.ref tc, .int (nI le)])), (tc, .inl (G 2, 60, .inl (ch t)))] s.heap := hP
  have inX1 : ∀ w ∈ wsX10, w ∈ wsX1_layFrom := fun w h => List.mem_cons_of_mem _ (List.mem_append_left _ (List.mem_append_right _ h))
  have k11 := hts (.fieldLink RX1 11 "SquareStakes$Square" "side" "I") (List.mem_of_getElem? (i := 1) rfl)
  have k15 := hts (.fieldLink RX1 15 "SquareStakes$Square" "numbers" "[I") (List.mem_of_getElem? (i := 2) rfl)
  have hcs := cs_le t le
  refine lv_aload_n hx hb dX1_layFrom_0 rfl (lv_at hl 0 rfl) ?_
  refine lv_aload_n hx hb dX1_layFrom_1 rfl (lv_at hl 1 rfl) ?_
  refine cVr (As := []) (rest := [.ref ob]) ⟨hx, hb, hml, hown, hts⟩ hP hK hD hS hN hA (mX4_sideOfSquare l D G tx tc le t (by first | assumption | omega) (by first | assumption | omega)) (cwV 0 hts gX1_layFrom_X4_sideOfSquare rfl rfl rfl (by decide +kernel) ⟨Nat.le_of_ble_eq_true rfl, Nat.le_of_ble_eq_true rfl⟩) [3, 4] rfl (by decide) 3 4 rfl rfl rfl hl.1 rfl (Nat.le_of_ble_eq_true rfl) dX1_layFrom_2 ⟨Nat.zero_le _, Nat.zero_le _⟩ (fun H locs hP hS => ?_)
  refine va_put (D := D) (ci := 1) (v := .int (nI (sideOf t le))) (ty := .int) (C := RX1) (T := TX1) (N := 3) hx hb hts inX1 tyX1 tyX1_ok nmX1 hown hK hP hD hS 0 rfl rfl 0 (by decide) k11 (fun _ h9 => h9) rfl (by decide +kernel) rfl rfl (Nat.le_of_ble_eq_true rfl) dX1_layFrom_5 (fun H locs hP hD hS => ?_)
  have hP : va_P D vwCl [(ob, .inr (1, [.int (nI (sideOf t le)), .ref nu, .ref fr])), (nu, .inl (G 0, 16, .inl N)), (fr, .inl (G 0, 16, .inl Z)), (tx, .inr (4, [.ref tc, .int (nI le)])), (tc, .inl (G 2, 60, .inl (ch t)))] H := hP
  have hD : va_D A [(ob, .inr (1, [.int (nI (sideOf t le)), .ref nu, .ref fr])), (nu, .inl (G 0, 16, .inl N)), (fr, .inl (G 0, 16, .inl Z)), (tx, .inr (4, [.ref tc, .int (nI le)])), (tc, .inl (G 2, 60, .inl (ch t)))] := hD
  refine lv_iconst (v := nI 0) hx hb dX1_layFrom_8 (by decide +kernel) ?_
  refine lv_istore_n (lv' := [(2, .int (nI 0)), (0, .ref ob), (1, .ref tx)]) hx hb dX1_layFrom_9 rfl hl (by decide) rfl (fun ls hl => ?_)
  have LP10 : ∀ (nn10 k : Nat), k ≤ le → le < k + nn10  → ∀ (H : Heap) (locs : List Loc), va_P D vwCl [(ob, .inr (1, [.int (nI (sideOf t le)), .ref nu, .ref fr])), (nu, .inl (G 0, 16, .inl (fst_ (nrA t le) N k))), (fr, .inl (G 0, 16, .inl Z)), (tx, .inr (4, [.ref tc, .int (nI le)])), (tc, .inl (G 2, 60, .inl (ch t)))] H → va_D A [(ob, .inr (1, [.int (nI (sideOf t le)), .ref nu, .ref fr])), (nu, .inl (G 0, 16, .inl (fst_ (nrA t le) N k))), (fr, .inl (G 0, 16, .inl Z)), (tx, .inr (4, [.ref tc, .int (nI le)])), (tc, .inl (G 2, 60, .inl (ch t)))] → va_S A s.heap H locs → ∀ ls : Array Slot, lv_has ls 3 [(2, .int (nI k)), (0, .ref ob), (1, .ref tx)] → W pp l ee (rmA 3 64) s mm ([.ref ob, .ref tx] : List Value).toArray bl me cc H locs 0 0 (MQ bl (Qres none D G [(ob, .inr (1, [.int (nI (sideOf t le)), .ref nu, .ref fr])), (nu, .inl (G 0, 16, .inl (fst_ (nrA t le) N le))), (fr, .inl (G 0, 16, .inl Z)), (tx, .inr (4, [.ref tc, .int (nI le)])), (tc, .inl (G 2, 60, .inl (ch t)))] A) ([.ref ob, .ref tx] : List Value).toArray s 0 0 A) (F0 mm 10 ls []) := by
    intro nn10
    induction nn10 with
    | zero => intro k h1 h2; exact absurd h2 (by omega)
    | succ nn10 ih10 =>
      intro k hkk hnk  H locs hP hD hS ls hl
      refine lv_iload_n hx hb dX1_layFrom_10 rfl (lv_at hl 0 rfl) ?_
      refine lv_aload_n hx hb dX1_layFrom_11 rfl (lv_at hl 1 rfl) ?_
      refine cVr (As := []) (rest := [.int (nI k)]) ⟨hx, hb, hml, hown, hts⟩ hP hK hD hS hN hA (mX1_cells l D G ob nu fr (sideOf t le) (fst_ (nrA t le) N k) Z (by first | assumption | omega)) (cwV 0 hts gX1_layFrom_X1_cells rfl rfl rfl (by decide +kernel) ⟨Nat.le_of_ble_eq_true rfl, Nat.le_of_ble_eq_true rfl⟩) [0, 1, 2] rfl (by decide) 0 1 rfl rfl rfl hl.1 rfl (Nat.le_of_ble_eq_true rfl) dX1_layFrom_12 ⟨Nat.zero_le _, Nat.zero_le _⟩ (fun H locs hP hS => ?_)
      refine rTop (show nI ((sideOf t le) * (sideOf t le)) = nI le from congrArg nI hcl.symm) ?_
      refine bGe (tgt := 44) hx hb dX1_layFrom_15 (by decide) (by omega) (by omega) (fun c1 => ?_) (fun c1 => ?_)
      · obtain rfl : le = k := by omega
        exact rVret hx hb hr hlk hP hK hD hS dX1_layFrom_44
      · refine lv_iload_n hx hb dX1_layFrom_18 rfl (lv_at hl 0 rfl) ?_
        refine lv_aload_n hx hb dX1_layFrom_19 rfl (lv_at hl 1 rfl) ?_
        refine va_get (D := D) (ci := 1) (v := .ref nu) (C := RX1) (T := TX1) (N := 3) hx hb hts inX1 hown hK hP 0 rfl rfl 1 (by decide) k15 (fun _ h9 => h9) rfl dX1_layFrom_20 ?_
        refine va_alen (v := nI 16) hx hb hK hP 1 0 rfl rfl rfl dX1_layFrom_23 ?_
        refine bGe (tgt := 44) hx hb dX1_layFrom_24 (by decide) (by omega) (by omega) (fun c2 => by exfalso; omega) (fun c2 => ?_)
        refine lv_aload_n hx hb dX1_layFrom_27 rfl (lv_at hl 1 rfl) ?_
        refine va_get (D := D) (ci := 1) (v := .ref nu) (C := RX1) (T := TX1) (N := 3) hx hb hts inX1 hown hK hP 0 rfl rfl 1 (by decide) k15 (fun _ h9 => h9) rfl dX1_layFrom_28 ?_
        refine lv_iload_n hx hb dX1_layFrom_31 rfl (lv_at hl 0 rfl) ?_
        refine lv_aload_n hx hb dX1_layFrom_32 rfl (lv_at hl 2 rfl) ?_
        refine lv_iload_n hx hb dX1_layFrom_33 rfl (lv_at hl 0 rfl) ?_
        refine cVr (As := [.int (nI k)]) (rest := [.int (nI k), .ref nu]) ⟨hx, hb, hml, hown, hts⟩ hP hK hD hS hN hA (mX4_numberAt l D G tx tc le t k (by first | assumption | omega) (by first | assumption | omega) (by first | assumption | omega)) (cwV 1 hts gX1_layFrom_X4_numberAt rfl rfl rfl (by decide +kernel) ⟨Nat.le_of_ble_eq_true rfl, Nat.le_of_ble_eq_true rfl⟩) [3, 4] rfl (by decide) 3 4 rfl rfl rfl hl.1 rfl (Nat.le_of_ble_eq_true rfl) dX1_layFrom_34 ⟨Nat.zero_le _, Nat.zero_le _⟩ (fun H locs hP hS => ?_)
        refine rIast hx hb hK hP hD hS 1 rfl k (by omega) (by decide) dX1_layFrom_37 (fun H locs hP hD hS => ?_)
        have hP : va_P D vwCl [(ob, .inr (1, [.int (nI (sideOf t le)), .ref nu, .ref fr])), (nu, .inl (G 0, 16, .inl (upd (fst_ (nrA t le) N k) k (nrA t le k)))), (fr, .inl (G 0, 16, .inl Z)), (tx, .inr (4, [.ref tc, .int (nI le)])), (tc, .inl (G 2, 60, .inl (ch t)))] H := hP
        have hD : va_D A [(ob, .inr (1, [.int (nI (sideOf t le)), .ref nu, .ref fr])), (nu, .inl (G 0, 16, .inl (upd (fst_ (nrA t le) N k) k (nrA t le k)))), (fr, .inl (G 0, 16, .inl Z)), (tx, .inr (4, [.ref tc, .int (nI le)])), (tc, .inl (G 2, 60, .inl (ch t)))] := hD
        refine lv_iinc (v := nI (k + 1)) (lv' := [(2, .int (nI (k + 1))), (0, .ref ob), (1, .ref tx)]) hx hb dX1_layFrom_38 hl (k := 0) rfl (nI_inc k) (by decide) rfl (fun ls hl => ?_)
        refine lv_goto (tgt := 10) hx hb dX1_layFrom_41 (by decide) ?_
        obtain ⟨hP, hD⟩ := wI (g := fst_ (nrA t le) N (k + 1)) hP hD 1 rfl (fun j hj => fst_s rfl)
        replace hP : va_P D vwCl [(ob, .inr (1, [.int (nI (sideOf t le)), .ref nu, .ref fr])), (nu, .inl (G 0, 16, .inl (fst_ (nrA t le) N (k + 1)))), (fr, .inl (G 0, 16, .inl Z)), (tx, .inr (4, [.ref tc, .int (nI le)])), (tc, .inl (G 2, 60, .inl (ch t)))] _ := hP
        have hD : va_D A [(ob, .inr (1, [.int (nI (sideOf t le)), .ref nu, .ref fr])), (nu, .inl (G 0, 16, .inl (fst_ (nrA t le) N (k + 1)))), (fr, .inl (G 0, 16, .inl Z)), (tx, .inr (4, [.ref tc, .int (nI le)])), (tc, .inl (G 2, 60, .inl (ch t)))] := hD
        exact ih10 (k + 1) (by omega) (by omega)  _ _ hP hD hS _ (lv_sub hl [0, 1, 2] rfl)
  obtain ⟨hP, hD⟩ := wI (g := fst_ (nrA t le) N 0) hP hD 1 rfl (fun j hj => by rw [fst_0])
  replace hP : va_P D vwCl [(ob, .inr (1, [.int (nI (sideOf t le)), .ref nu, .ref fr])), (nu, .inl (G 0, 16, .inl (fst_ (nrA t le) N 0))), (fr, .inl (G 0, 16, .inl Z)), (tx, .inr (4, [.ref tc, .int (nI le)])), (tc, .inl (G 2, 60, .inl (ch t)))] _ := hP
  have hD : va_D A [(ob, .inr (1, [.int (nI (sideOf t le)), .ref nu, .ref fr])), (nu, .inl (G 0, 16, .inl (fst_ (nrA t le) N 0))), (fr, .inl (G 0, 16, .inl Z)), (tx, .inr (4, [.ref tc, .int (nI le)])), (tc, .inl (G 2, 60, .inl (ch t)))] := hD
  exact LP10 (le + 1 - 0) 0 (by omega) (by omega)  _ _ hP hD hS _ (lv_sub hl [0, 1, 2] rfl)
