theorem law_nw {a : Array Value} {s : State} (hts : ∀ w ∈ lw_tbl, w.before a s = true) : nwU s := ⟨va_Nw.of rfl (hts (.fieldLinkNest "BreathBags" 96 "BreathBags$Text" "length" "I" "BreathBags") (by decide +kernel)), va_Nw.of rfl (hts (.fieldLinkNest "BreathBags$Sums" 30 "BreathBags$Camp" "bags" "I" "BreathBags") (by decide +kernel)), va_Nw.of rfl (hts (.fieldLinkNest "BreathBags" 70 "BreathBags$Camp" "bags" "I" "BreathBags") (by decide +kernel)), va_Nw.of rfl (hts (.fieldLinkNest "BreathBags$Text" 41 "BreathBags$Camp" "bags" "I" "BreathBags") (by decide +kernel)), va_Nw.of rfl (hts (.fieldLinkNest "BreathBags$Sums" 34 "BreathBags$Camp" "men" "I" "BreathBags") (by decide +kernel)), va_Nw.of rfl (hts (.fieldLinkNest "BreathBags" 74 "BreathBags$Camp" "men" "I" "BreathBags") (by decide +kernel)), va_Nw.of rfl (hts (.fieldLinkNest "BreathBags$Text" 51 "BreathBags$Camp" "men" "I" "BreathBags") (by decide +kernel)), va_Nw.of rfl (hts (.fieldLinkNest "BreathBags" 92 "BreathBags$Past" "count" "I" "BreathBags") (by decide +kernel)), va_Nw.of rfl (hts (.fieldLinkNest "BreathBags" 95 "BreathBags$Felt" "count" "I" "BreathBags") (by decide +kernel)), va_Nw.of rfl (hts (.methodLinkNest "BreathBags" 9 ⟨"BreathBags$Text", "<init>", "()V"⟩ "BreathBags") (by decide +kernel)), va_Nw.of rfl (hts (.methodLinkNest "BreathBags" 18 ⟨"BreathBags$Camp", "<init>", "()V"⟩ "BreathBags") (by decide +kernel)), va_Nw.of rfl (hts (.methodLinkNest "BreathBags" 28 ⟨"BreathBags$Past", "<init>", "()V"⟩ "BreathBags") (by decide +kernel)), va_Nw.of rfl (hts (.methodLinkNest "BreathBags" 35 ⟨"BreathBags$Slots", "<init>", "()V"⟩ "BreathBags") (by decide +kernel)), va_Nw.of rfl (hts (.methodLinkNest "BreathBags" 42 ⟨"BreathBags$Felt", "<init>", "()V"⟩ "BreathBags") (by decide +kernel))⟩
theorem law_kvX {a : Array Value} {s : State} (hts : ∀ w ∈ lw_tbl, w.before a s = true) (hgv : (Jvm.Cond.and given_1 narrow_1).before a s = true) : kvX (fun q : Nat => s.heap.size ≤ q) s s.heap := by
  have hs := flat_of_before _ hgv
  have hA : ∀ q : Nat, q < s.heap.size → ¬ (fun q : Nat => s.heap.size ≤ q) q := fun q h => Nat.not_le.mpr h
  have harr : (Cond.arrayOf (.static "BreathBags$Sums" "FACTORIALS" "[I") .int).before a s = true := hs _ (by decide +kernel)
  have hlen := va_eqt (t := .length (.static "BreathBags$Sums" "FACTORIALS" "[I")) (z := 6) (hs _ (by decide +kernel))
  have e0 := va_eqt (t := .elem (.static "BreathBags$Sums" "FACTORIALS" "[I") (.int 0)) (z := 1) (hs _ (by decide +kernel))
  have e1 := va_eqt (t := .elem (.static "BreathBags$Sums" "FACTORIALS" "[I") (.int 1)) (z := 1) (hs _ (by decide +kernel))
  have e2 := va_eqt (t := .elem (.static "BreathBags$Sums" "FACTORIALS" "[I") (.int 2)) (z := 2) (hs _ (by decide +kernel))
  have e3 := va_eqt (t := .elem (.static "BreathBags$Sums" "FACTORIALS" "[I") (.int 3)) (z := 6) (hs _ (by decide +kernel))
  have e4 := va_eqt (t := .elem (.static "BreathBags$Sums" "FACTORIALS" "[I") (.int 4)) (z := 24) (hs _ (by decide +kernel))
  have e5 := va_eqt (t := .elem (.static "BreathBags$Sums" "FACTORIALS" "[I") (.int 5)) (z := 120) (hs _ (by decide +kernel))
  obtain ⟨t, ht, hT⟩ := va_Tof (N := 6) (f := kvF) (A := fun q : Nat => s.heap.size ≤ q) (by decide) harr hlen (fun j hj => by
    rcases (show j = 0 ∨ j = 1 ∨ j = 2 ∨ j = 3 ∨ j = 4 ∨ j = 5 by omega) with rfl | rfl | rfl | rfl | rfl | rfl
    · exact e0
    · exact e1
    · exact e2
    · exact e3
    · exact e4
    · exact e5) hA
  exact ⟨law_nw hts, t, va_Zof (hts (.laysStatic "BreathBags$Sums" "FACTORIALS" "[I") (by decide +kernel)) (hts (.initialized "BreathBags$Sums") (by decide +kernel)) ht hA, hT⟩
theorem law_arr {a : Array Value} {s : State} {ty : FieldType} (hc : ∀ C, ty ≠ .object C) (h : (Cond.arrayClass ty).before a s = true) : ∃ cA : ClassId, ArrOfT s cA ty ∧ s.vm.findClass ("[" ++ ty.toString) = some cA := by
  obtain ⟨cA, kA, comp, h1, h2, h3⟩ := Cond.arrayClass_spec h
  exact ⟨cA, fun n z => ⟨fun k h => (by cases h), kA, h2, comp, h3⟩, h1⟩
set_option maxHeartbeats 4000000 in
set_option maxRecDepth 100000 in
/-- what the law knows of classes -/
theorem law_K {a : Array Value} {s : State} (hts : ∀ w ∈ lw_tbl, w.before a s = true) : ∃ (dC : Nat → ClassId) (dI : Nat → Nat → Nat) (cI cZ : ClassId), va_K (dC, dI) vwCl (tys2 cI cZ) s := by
  obtain ⟨c0, i0, hKn0⟩ := u_known (C := RX0) (T := TX0) (N := 5) (n := 5) hts lwx_0 (hts (.instantiable RX0 5) (by decide +kernel))
  obtain ⟨c1, i1, hKn1⟩ := u_known (C := RX1) (T := TX1) (N := 5) (n := 5) hts lwx_1 (hts (.instantiable RX1 5) (by decide +kernel))
  obtain ⟨c2, i2, hKn2⟩ := u_known (C := RX2) (T := TX2) (N := 3) (n := 3) hts lwx_2 (hts (.instantiable RX2 3) (by decide +kernel))
  obtain ⟨c3, i3, hKn3⟩ := u_known (C := RX3) (T := TX3) (N := 2) (n := 2) hts lwx_3 (hts (.instantiable RX3 2) (by decide +kernel))
  obtain ⟨c4, i4, hKn4⟩ := u_known (C := RX5) (T := TX5) (N := 2) (n := 2) hts lwx_5 (hts (.instantiable RX5 2) (by decide +kernel))
  obtain ⟨c5, i5, hKn5⟩ := u_known (C := RX6) (T := TX6) (N := 7) (n := 7) hts lwx_6 (hts (.instantiable RX6 7) (by decide +kernel))
  obtain ⟨c6, i6, hKn6⟩ := u_known (C := RX7) (T := TX7) (N := 33) (n := 33) hts lwx_7 (hts (.instantiable RX7 33) (by decide +kernel))
  obtain ⟨cI, hI1, hI2⟩ := law_arr (ty := .int) (fun C h => by cases h) (hts (.arrayClass .int) (by decide +kernel))
  obtain ⟨cZ, hZ1, hZ2⟩ := law_arr (ty := .boolean) (fun C h => by cases h) (hts (.arrayClass .boolean) (by decide +kernel))
  refine ⟨fun k => match k with | 0 => c0 | 1 => c1 | 2 => c2 | 3 => c3 | 4 => c4 | 5 => c5 | _ => c6, fun k => match k with | 0 => i0 | 1 => i1 | 2 => i2 | 3 => i3 | 4 => i4 | 5 => i5 | _ => i6, cI, cZ, ?_, ?_⟩
  · intro k q hq
    match k, hq with
    | 0, hq => cases hq; exact hKn0
    | 1, hq => cases hq; exact hKn1
    | 2, hq => cases hq; exact hKn2
    | 3, hq => cases hq; exact hKn3
    | 4, hq => cases hq; exact hKn4
    | 5, hq => cases hq; exact hKn5
    | 6, hq => cases hq; exact hKn6
    | k + 7, hq => simp [vwCl] at hq
  · intro k q hq
    match k, hq with
    | 0, hq => cases hq; exact ⟨hI1, hI2⟩
    | 1, hq => cases hq; exact ⟨hZ1, hZ2⟩
    | k + 2, hq => simp [tys2] at hq
