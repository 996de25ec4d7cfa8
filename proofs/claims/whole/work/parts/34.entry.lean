/-! what holds at the law's entry -/
theorem arr_at {U : State} {args : Array Value} {ty : FieldType} (h : (Cond.arrayClass ty).before args U = true) : ∃ cA : ClassId, ArrOfT U cA ty ∧ U.vm.findClass ("[" ++ ty.toString) = some cA := by
  obtain ⟨c, k, comp, h1, h2, h3⟩ := Cond.arrayClass_spec h
  exact ⟨c, fun n z => ⟨fun k h => (by cases h), k, h2, comp, h3⟩, h1⟩
theorem arq_at {U : State} {C : String} (h : va_AO C U) : ∃ cA : ClassId, ArrOfT U cA (.object C) ∧ va_RA U cA (.object C) := by
  obtain ⟨comp, c, k, f4, -, f2, f3, f1⟩ := Cond.arrayOver_spec (show (Cond.arrayOver (.object C)).before #[] U = true from h)
  exact ⟨c, fun n z => ⟨fun k h => (by cases h), k, f2, comp, f3⟩, k, comp, f2, f3, f4, f1⟩
set_option maxRecDepth 100000 in
theorem at_entry {s : State} {b : Nat} (hts : ∀ w ∈ lw_tbl, w.before #[Value.ref b] s = true) : nst s ∧ ∃ (D : va_G) (G : Nat → ClassId), va_K D vwCl (tyl G) s := by
  have hN : nst s := ⟨va_Nw.of rfl (hts gW44 (List.mem_of_getElem? (i := 102) (by decide +kernel))), va_Nw.of rfl (hts gW113 (List.mem_of_getElem? (i := 104) (by decide +kernel))), va_AO.of (hts (.arrayOver (.object RX2)) (List.mem_of_getElem? (i := 138) (by decide +kernel)))⟩
  refine ⟨hN, ?_⟩
  obtain ⟨c0, i0, h0⟩ := u_known (C := RX0) (T := TX0) (N := 2) (n := 2) hts inX0 (hts (.instantiable RX0 2) (List.mem_of_getElem? (i := 132) (by decide +kernel)))
  obtain ⟨c1, i1, h1⟩ := u_known (C := RX1) (T := TX1) (N := 3) (n := 3) hts inX1 (hts (.instantiable RX1 3) (List.mem_of_getElem? (i := 68) (by decide +kernel)))
  obtain ⟨c2, i2, h2⟩ := u_known (C := RX2) (T := TX2) (N := 9) (n := 9) hts inX2 (hts (.instantiable RX2 9) (List.mem_of_getElem? (i := 62) (by decide +kernel)))
  obtain ⟨c3, i3, h3⟩ := u_known (C := RX3) (T := TX3) (N := 3) (n := 3) hts inX3 (hts (.instantiable RX3 3) (List.mem_of_getElem? (i := 85) (by decide +kernel)))
  obtain ⟨c4, i4, h4⟩ := u_known (C := RX4) (T := TX4) (N := 2) (n := 2) hts inX4 (hts (.instantiable RX4 2) (List.mem_of_getElem? (i := 148) (by decide +kernel)))
  obtain ⟨c5, i5, h5⟩ := u_known (C := RX5) (T := TX5) (N := 5) (n := 5) hts inX5 (hts (.instantiable RX5 5) (List.mem_of_getElem? (i := 54) (by decide +kernel)))
  obtain ⟨c6, i6, h6⟩ := u_known (C := RX6) (T := TX6) (N := 7) (n := 7) hts inX6 (hts (.instantiable RX6 7) (List.mem_of_getElem? (i := 658) (by decide +kernel)))
  obtain ⟨g0, a0, b0⟩ := arr_at (hts (.arrayClass .int) (List.mem_of_getElem? (i := 83) (by decide +kernel)))
  obtain ⟨g1, a1, b1⟩ := arr_at (hts (.arrayClass .float) (List.mem_of_getElem? (i := 100) (by decide +kernel)))
  obtain ⟨g2, a2, b2⟩ := arr_at (hts (.arrayClass .char) (List.mem_of_getElem? (i := 160) (by decide +kernel)))
  obtain ⟨g3, a3, b3⟩ := arq_at hN.2.2
  refine ⟨(fun k => match k with | 0 => c0 | 1 => c1 | 2 => c2 | 3 => c3 | 4 => c4 | 5 => c5 | _ => c6, fun k => match k with | 0 => i0 | 1 => i1 | 2 => i2 | 3 => i3 | 4 => i4 | 5 => i5 | _ => i6), fun k => match k with | 0 => g0 | 1 => g1 | 2 => g2 | _ => g3, ?_, ?_⟩
  · intro k q hq
    match k, hq with
    | 0, hq => cases hq; exact h0
    | 1, hq => cases hq; exact h1
    | 2, hq => cases hq; exact h2
    | 3, hq => cases hq; exact h3
    | 4, hq => cases hq; exact h4
    | 5, hq => cases hq; exact h5
    | 6, hq => cases hq; exact h6
    | k + 7, hq => cases hq
  · intro k q hq
    match k, hq with
    | 0, hq => cases hq; exact ⟨a0, b0⟩
    | 1, hq => cases hq; exact ⟨a1, b1⟩
    | 2, hq => cases hq; exact ⟨a2, b2⟩
    | 3, hq => cases hq; exact ⟨a3, b3⟩
    | k + 4, hq => cases hq
