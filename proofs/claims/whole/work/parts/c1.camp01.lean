def wpJ6_bitCount_0f7a4 (x0 : Int32) (post : Int32 → Prop) : Prop := ∀ y_1 : Int32, y_1 = (x0 - ((x0.toUInt32 >>> ((1 : Int32).toUInt32 &&& Int32.toUInt32 31)).toInt32 &&& (1431655765 : Int32))) → ∀ y_2 : Int32, y_2 = ((y_1 &&& (858993459 : Int32)) + ((y_1.toUInt32 >>> ((2 : Int32).toUInt32 &&& Int32.toUInt32 31)).toInt32 &&& (858993459 : Int32))) → ∀ y_3 : Int32, y_3 = ((y_2 + (y_2.toUInt32 >>> ((4 : Int32).toUInt32 &&& Int32.toUInt32 31)).toInt32) &&& (252645135 : Int32)) → ∀ y_4 : Int32, y_4 = (y_3 + (y_3.toUInt32 >>> ((8 : Int32).toUInt32 &&& Int32.toUInt32 31)).toInt32) → ∀ y_5 : Int32, y_5 = (y_4 + (y_4.toUInt32 >>> ((16 : Int32).toUInt32 &&& Int32.toUInt32 31)).toInt32) → post (y_5 &&& (63 : Int32))
abbrev rmJ6_bitCount_0f7a4 : Room := { frames := 0, cells := 0, slots := 0, locals := 0 }
set_option maxHeartbeats 4000000 in
set_option maxRecDepth 100000 in
theorem mtJ6_bitCount_0f7a4 (l : Launch) (dC : Nat → ClassId) (dI : Nat → Nat → Nat) (cI cZ : ClassId) (sz : Nat) (x0 : Int32) (post : Int32 → Prop) (hw : wpJ6_bitCount_0f7a4 x0 post) : Met l yJ6_bitCount_0f7a4 wsJ6_bitCount_0f7a4 rmJ6_bitCount_0f7a4 (va_Pc [.int x0] (kvPre (dC, dI) cI cZ sz [])) (va_Qi (fun (r : Int32) (u : Unit) => post r ) (kvB (dC, dI) (va_A [] sz) (fun (u : Unit) => [])) (va_A [] sz)) 0 0 (va_A [] sz) := by
  refine kv_metI (y := yJ6_bitCount_0f7a4) (ws := wsJ6_bitCount_0f7a4) (rm := rmJ6_bitCount_0f7a4) (av := [.int x0]) (sz := sz) (w := []) (cc := cJ6_bitCount_0f7a4) (maxL := 1) (own := RJ6) (post := (fun (r : Int32) (u : Unit) => post r )) (w1 := (fun (u : Unit) => [])) (by decide) rfl rfl (Nat.le_of_ble_eq_true rfl) ?_
  intro p e s m below meth c A Q hx hb hml hown hts hK hX hA hP hD hsz hret ls hl
  have hS : va_S A s.heap s.heap [] := va_S.rf
  have hl : lv_has ls 1 [(0, .int x0)] := hl
  refine lv_iload_n hx hb dJ6_bitCount_0f7a4_0 rfl (lv_at hl 0 rfl) ?_
  refine lv_iload_n hx hb dJ6_bitCount_0f7a4_1 rfl (lv_at hl 0 rfl) ?_
  refine lv_iconst (v := (1 : Int32)) hx hb dJ6_bitCount_0f7a4_2 (by decide) ?_
  refine lv_iushr hx hb dJ6_bitCount_0f7a4_3 rfl ?_
  refine lv_ldcw (v := (1431655765 : Int32)) hx hb hown (hts (.constant RJ6 265 (1431655765)) (by decide +kernel)) dJ6_bitCount_0f7a4_4 ?_
  refine lv_iand hx hb dJ6_bitCount_0f7a4_7 ?_
  refine lv_isub hx hb dJ6_bitCount_0f7a4_8 ?_
  refine lv_topi (fun y_1 ey_1 => ?_)
  have hw := hw y_1 ey_1
  refine lv_istore_n (lv' := [(0, .int y_1)]) hx hb dJ6_bitCount_0f7a4_9 rfl hl (by decide) rfl (fun ls hl => ?_)
  refine lv_iload_n hx hb dJ6_bitCount_0f7a4_10 rfl (lv_at hl 0 rfl) ?_
  refine lv_ldcw (v := (858993459 : Int32)) hx hb hown (hts (.constant RJ6 266 (858993459)) (by decide +kernel)) dJ6_bitCount_0f7a4_11 ?_
  refine lv_iand hx hb dJ6_bitCount_0f7a4_14 ?_
  refine lv_iload_n hx hb dJ6_bitCount_0f7a4_15 rfl (lv_at hl 0 rfl) ?_
  refine lv_iconst (v := (2 : Int32)) hx hb dJ6_bitCount_0f7a4_16 (by decide) ?_
  refine lv_iushr hx hb dJ6_bitCount_0f7a4_17 rfl ?_
  refine lv_ldcw (v := (858993459 : Int32)) hx hb hown (hts (.constant RJ6 266 (858993459)) (by decide +kernel)) dJ6_bitCount_0f7a4_18 ?_
  refine lv_iand hx hb dJ6_bitCount_0f7a4_21 ?_
  refine lv_iadd hx hb dJ6_bitCount_0f7a4_22 ?_
  refine lv_topi (fun y_2 ey_2 => ?_)
  have hw := hw y_2 ey_2
  refine lv_istore_n (lv' := [(0, .int y_2)]) hx hb dJ6_bitCount_0f7a4_23 rfl hl (by decide) rfl (fun ls hl => ?_)
  refine lv_iload_n hx hb dJ6_bitCount_0f7a4_24 rfl (lv_at hl 0 rfl) ?_
  refine lv_iload_n hx hb dJ6_bitCount_0f7a4_25 rfl (lv_at hl 0 rfl) ?_
  refine lv_iconst (v := (4 : Int32)) hx hb dJ6_bitCount_0f7a4_26 (by decide) ?_
  refine lv_iushr hx hb dJ6_bitCount_0f7a4_27 rfl ?_
  refine lv_iadd hx hb dJ6_bitCount_0f7a4_28 ?_
  refine lv_ldcw (v := (252645135 : Int32)) hx hb hown (hts (.constant RJ6 267 (252645135)) (by decide +kernel)) dJ6_bitCount_0f7a4_29 ?_
  refine lv_iand hx hb dJ6_bitCount_0f7a4_32 ?_
  refine lv_topi (fun y_3 ey_3 => ?_)
  have hw := hw y_3 ey_3
  refine lv_istore_n (lv' := [(0, .int y_3)]) hx hb dJ6_bitCount_0f7a4_33 rfl hl (by decide) rfl (fun ls hl => ?_)
  refine lv_iload_n hx hb dJ6_bitCount_0f7a4_34 rfl (lv_at hl 0 rfl) ?_
  refine lv_iload_n hx hb dJ6_bitCount_0f7a4_35 rfl (lv_at hl 0 rfl) ?_
  refine lv_bipush (v := (8 : Int32)) hx hb dJ6_bitCount_0f7a4_36 (by decide) ?_
  refine lv_iushr hx hb dJ6_bitCount_0f7a4_38 rfl ?_
  refine lv_iadd hx hb dJ6_bitCount_0f7a4_39 ?_
  refine lv_topi (fun y_4 ey_4 => ?_)
  have hw := hw y_4 ey_4
  refine lv_istore_n (lv' := [(0, .int y_4)]) hx hb dJ6_bitCount_0f7a4_40 rfl hl (by decide) rfl (fun ls hl => ?_)
  refine lv_iload_n hx hb dJ6_bitCount_0f7a4_41 rfl (lv_at hl 0 rfl) ?_
  refine lv_iload_n hx hb dJ6_bitCount_0f7a4_42 rfl (lv_at hl 0 rfl) ?_
  refine lv_bipush (v := (16 : Int32)) hx hb dJ6_bitCount_0f7a4_43 (by decide) ?_
  refine lv_iushr hx hb dJ6_bitCount_0f7a4_45 rfl ?_
  refine lv_iadd hx hb dJ6_bitCount_0f7a4_46 ?_
  refine lv_topi (fun y_5 ey_5 => ?_)
  have hw := hw y_5 ey_5
  refine lv_istore_n (lv' := [(0, .int y_5)]) hx hb dJ6_bitCount_0f7a4_47 rfl hl (by decide) rfl (fun ls hl => ?_)
  refine lv_iload_n hx hb dJ6_bitCount_0f7a4_48 rfl (lv_at hl 0 rfl) ?_
  refine lv_bipush (v := (63 : Int32)) hx hb dJ6_bitCount_0f7a4_49 (by decide) ?_
  refine lv_iand hx hb dJ6_bitCount_0f7a4_51 ?_
  exact hret (y_5 &&& (63 : Int32)) () s.heap _ _ ls hw hP hD hS dJ6_bitCount_0f7a4_52

def wpX0_empty_L12 (t_bags_12 : Int32) (t_men_12 : Int32) (post : Int32 → Int32 → (Nat → Int32) → Prop) : Nat → (Nat → Int32) → Int32 → Prop
  | 0, _, _ => False
  | n + 1, t_cells_12, x1_12 => (((23 : Int32) ≤ x1_12 → post t_bags_12 t_men_12 t_cells_12) ∧ (¬ (23 : Int32) ≤ x1_12 → vp_in x1_12 23 ∧ (∀ g_2 : Nat → Int32, g_2 = (upd t_cells_12 x1_12.toNatClampNeg (0 : Int32)) → ∀ y_3 : Int32, y_3 = (x1_12 + (1 : Int32)) → wpX0_empty_L12 t_bags_12 t_men_12 post n g_2 y_3)))
def wpX0_empty_E12 (post : Int32 → Int32 → (Nat → Int32) → Prop) (t_bags_12 : Int32) (t_men_12 : Int32) (t_cells_12 : Nat → Int32) (x1_12 : Int32) : Prop := ∃ n : Nat, wpX0_empty_L12 t_bags_12 t_men_12 post n t_cells_12 x1_12
def wpX0_empty (t_bags : Int32) (t_men : Int32) (t_cells : Nat → Int32) (post : Int32 → Int32 → (Nat → Int32) → Prop) : Prop := wpX0_empty_E12 post (0 : Int32) (0 : Int32) t_cells (0 : Int32)
abbrev rmX0_empty : Room := { frames := 0, cells := 0, slots := 0, locals := 0 }
set_option maxHeartbeats 4000000 in
set_option maxRecDepth 100000 in
theorem mtX0_empty (l : Launch) (dC : Nat → ClassId) (dI : Nat → Nat → Nat) (cI cZ : ClassId) (a_t : Nat) (a_t_bagKinds : Nat) (a_t_manKinds : Nat) (a_t_cells : Nat) (sz : Nat) (t_bags : Int32) (t_men : Int32) (t_cells : Nat → Int32) (post : Int32 → Int32 → (Nat → Int32) → Prop) (hw : wpX0_empty t_bags t_men t_cells post) : Met l yX0_empty wsX0_empty rmX0_empty (va_Pc [.ref a_t] (kvPre (dC, dI) cI cZ sz [(a_t, .inr (0, [.int t_bags, .int t_men, .ref a_t_bagKinds, .ref a_t_manKinds, .ref a_t_cells])), (a_t_cells, .inl (cI, 23, .inl t_cells))])) (va_Qv (fun (u : Int32 × Int32 × (Nat → Int32)) => post u.1 u.2.1 u.2.2) (kvB (dC, dI) (va_A [(a_t, .inr (0, [.int t_bags, .int t_men, .ref a_t_bagKinds, .ref a_t_manKinds, .ref a_t_cells])), (a_t_cells, .inl (cI, 23, .inl t_cells))] sz) (fun (u : Int32 × Int32 × (Nat → Int32)) => [(a_t, .inr (0, [.int u.1, .int u.2.1, .ref a_t_bagKinds, .ref a_t_manKinds, .ref a_t_cells])), (a_t_cells, .inl (cI, 23, .inl u.2.2))])) (va_A [(a_t, .inr (0, [.int t_bags, .int t_men, .ref a_t_bagKinds, .ref a_t_manKinds, .ref a_t_cells])), (a_t_cells, .inl (cI, 23, .inl t_cells))] sz)) 0 0 (va_A [(a_t, .inr (0, [.int t_bags, .int t_men, .ref a_t_bagKinds, .ref a_t_manKinds, .ref a_t_cells])), (a_t_cells, .inl (cI, 23, .inl t_cells))] sz) := by
  refine kv_metV (y := yX0_empty) (ws := wsX0_empty) (rm := rmX0_empty) (av := [.ref a_t]) (sz := sz) (w := [(a_t, .inr (0, [.int t_bags, .int t_men, .ref a_t_bagKinds, .ref a_t_manKinds, .ref a_t_cells])), (a_t_cells, .inl (cI, 23, .inl t_cells))]) (cc := cX0_empty) (maxL := 2) (own := RX0) (post := (fun (u : Int32 × Int32 × (Nat → Int32)) => post u.1 u.2.1 u.2.2)) (w1 := (fun (u : Int32 × Int32 × (Nat → Int32)) => [(a_t, .inr (0, [.int u.1, .int u.2.1, .ref a_t_bagKinds, .ref a_t_manKinds, .ref a_t_cells])), (a_t_cells, .inl (cI, 23, .inl u.2.2))])) (by decide) rfl rfl (Nat.le_of_ble_eq_true rfl) ?_
  intro p e s m below meth c A Q hx hb hml hown hts hK hX hA hP hD hsz hret ls hl
  have hS : va_S A s.heap s.heap [] := va_S.rf
  have hl : lv_has ls 2 [(0, .ref a_t)] := hl
  have inX0 : ∀ w ∈ u_ws RX0 TX0 5, w ∈ wsX0_empty := by decide +kernel
  have fl25 := hts (.fieldLink RX0 25 "BreathBags$Camp" "cells" "[I") (by decide +kernel)
  have fl11 := hts (.fieldLink RX0 11 "BreathBags$Camp" "bags" "I") (by decide +kernel)
  have fl15 := hts (.fieldLink RX0 15 "BreathBags$Camp" "men" "I") (by decide +kernel)
  have L12 : ∀ (t_bags_12 : Int32) (t_men_12 : Int32) (n12 : Nat) (t_cells_12 : Nat → Int32) (x1_12 : Int32) (H : Heap) (locs : List Loc) (ls : Array Slot), wpX0_empty_L12 t_bags_12 t_men_12 post n12 t_cells_12 x1_12 → va_P (dC, dI) vwCl [(a_t, .inr (0, [.int t_bags_12, .int t_men_12, .ref a_t_bagKinds, .ref a_t_manKinds, .ref a_t_cells])), (a_t_cells, .inl (cI, 23, .inl t_cells_12))] H → va_D A [(a_t, .inr (0, [.int t_bags_12, .int t_men_12, .ref a_t_bagKinds, .ref a_t_manKinds, .ref a_t_cells])), (a_t_cells, .inl (cI, 23, .inl t_cells_12))] → va_S A s.heap H locs → lv_has ls 2 [(0, .ref a_t), (1, .int x1_12)] → W p l e rmX0_empty s m [.ref a_t].toArray below meth c H locs 0 0 Q (F0 m 12 ls []) := by
    intro t_bags_12 t_men_12 n12
    induction n12 with
    | zero => intro t_cells_12 x1_12 H locs ls hw hP hD hS hl; exact hw.elim
    | succ n12 ih12 =>
      intro t_cells_12 x1_12 H locs ls hw hP hD hS hl
      refine lv_iload_n hx hb dX0_empty_12 rfl (lv_at hl 1 rfl) ?_
      refine lv_aload_n hx hb dX0_empty_13 rfl (lv_at hl 0 rfl) ?_
      refine va_get (D := (dC, dI)) (ci := 0) (v := .ref a_t_cells) (C := RX0) (T := TX0) (N := 5) hx hb hts inX0 hown hK hP 0 rfl rfl 4 (by decide) fl25 (fun _ h9 => h9) rfl dX0_empty_14 ?_
      refine va_alen (v := (23 : Int32)) hx hb hK hP 1 0 rfl rfl rfl dX0_empty_17 ?_
      refine lv_icmp_ge (tgt := 34) hx hb dX0_empty_18 (by decide) (fun c_1 => ?_) (fun c_1 => ?_)
      · have hw := hw.1 c_1
        exact hret (t_bags_12, t_men_12, t_cells_12) H _ _ ls hw hP hD hS dX0_empty_34
      · have hw := hw.2 c_1
        refine lv_aload_n hx hb dX0_empty_21 rfl (lv_at hl 0 rfl) ?_
        refine va_get (D := (dC, dI)) (ci := 0) (v := .ref a_t_cells) (C := RX0) (T := TX0) (N := 5) hx hb hts inX0 hown hK hP 0 rfl rfl 4 (by decide) fl25 (fun _ h9 => h9) rfl dX0_empty_22 ?_
        refine lv_iload_n hx hb dX0_empty_25 rfl (lv_at hl 1 rfl) ?_
        refine lv_iconst (v := (0 : Int32)) hx hb dX0_empty_26 (by decide) ?_
        refine va_iast hx hb hK hP hD hS 1 0 rfl rfl hw.1 dX0_empty_27 (fun H locs hP hD hS => ?_)
        have hw := hw.2
        have hP : va_P (dC, dI) vwCl [(a_t, .inr (0, [.int t_bags_12, .int t_men_12, .ref a_t_bagKinds, .ref a_t_manKinds, .ref a_t_cells])), (a_t_cells, .inl (cI, 23, .inl (upd t_cells_12 x1_12.toNatClampNeg (0 : Int32))))] H := hP
        have hD : va_D A [(a_t, .inr (0, [.int t_bags_12, .int t_men_12, .ref a_t_bagKinds, .ref a_t_manKinds, .ref a_t_cells])), (a_t_cells, .inl (cI, 23, .inl (upd t_cells_12 x1_12.toNatClampNeg (0 : Int32))))] := hD
        obtain ⟨g_2, eg_2⟩ : ∃ g : Nat → Int32, g = (upd t_cells_12 x1_12.toNatClampNeg (0 : Int32)) := ⟨_, rfl⟩
        have hw := hw g_2 eg_2
        rw [← eg_2] at hP hD
        obtain ⟨y_3, ey_3⟩ : ∃ y : Int32, y = (x1_12 + (1 : Int32)) := ⟨_, rfl⟩
        have hw := hw y_3 ey_3
        refine lv_iinc (v := y_3) (lv' := [(1, .int y_3), (0, .ref a_t)]) hx hb dX0_empty_28 hl (k := 1) rfl (by rw [ey_3]; rfl) (by decide) rfl (fun ls hl => ?_)
        refine lv_goto (tgt := 12) hx hb dX0_empty_31 (by decide) ?_
        exact ih12 g_2 y_3 H _ ls hw hP hD hS (lv_sub hl [1, 0] rfl)
  have E12 : ∀ (t_bags_12 : Int32) (t_men_12 : Int32) (t_cells_12 : Nat → Int32) (x1_12 : Int32) (H : Heap) (locs : List Loc) (ls : Array Slot), wpX0_empty_E12 post t_bags_12 t_men_12 t_cells_12 x1_12 → va_P (dC, dI) vwCl [(a_t, .inr (0, [.int t_bags_12, .int t_men_12, .ref a_t_bagKinds, .ref a_t_manKinds, .ref a_t_cells])), (a_t_cells, .inl (cI, 23, .inl t_cells_12))] H → va_D A [(a_t, .inr (0, [.int t_bags_12, .int t_men_12, .ref a_t_bagKinds, .ref a_t_manKinds, .ref a_t_cells])), (a_t_cells, .inl (cI, 23, .inl t_cells_12))] → va_S A s.heap H locs → lv_has ls 2 [(0, .ref a_t), (1, .int x1_12)] → W p l e rmX0_empty s m [.ref a_t].toArray below meth c H locs 0 0 Q (F0 m 12 ls []) := by
    intro t_bags_12 t_men_12 t_cells_12 x1_12 H locs ls hw hP hD hS hl
    obtain ⟨n, hw⟩ := hw
    exact L12 t_bags_12 t_men_12 n t_cells_12 x1_12 H locs ls hw hP hD hS hl
  refine lv_aload_n hx hb dX0_empty_0 rfl (lv_at hl 0 rfl) ?_
  refine lv_iconst (v := (0 : Int32)) hx hb dX0_empty_1 (by decide) ?_
  refine va_put (D := (dC, dI)) (ci := 0) (v := .int (0 : Int32)) (ty := .int) (C := RX0) (T := TX0) (N := 5) hx hb hts inX0 tyX0 tyX0_ok nmX0 hown hK hP hD hS 0 rfl rfl 0 (by decide) fl11 (fun _ h9 => h9) rfl (by decide +kernel) rfl rfl (Nat.le_of_ble_eq_true rfl) dX0_empty_2 (fun H locs hP hD hS => ?_)
  have hP : va_P (dC, dI) vwCl [(a_t, .inr (0, [.int (0 : Int32), .int t_men, .ref a_t_bagKinds, .ref a_t_manKinds, .ref a_t_cells])), (a_t_cells, .inl (cI, 23, .inl t_cells))] H := hP
  have hD : va_D A [(a_t, .inr (0, [.int (0 : Int32), .int t_men, .ref a_t_bagKinds, .ref a_t_manKinds, .ref a_t_cells])), (a_t_cells, .inl (cI, 23, .inl t_cells))] := hD
  refine lv_aload_n hx hb dX0_empty_5 rfl (lv_at hl 0 rfl) ?_
  refine lv_iconst (v := (0 : Int32)) hx hb dX0_empty_6 (by decide) ?_
  refine va_put (D := (dC, dI)) (ci := 0) (v := .int (0 : Int32)) (ty := .int) (C := RX0) (T := TX0) (N := 5) hx hb hts inX0 tyX0 tyX0_ok nmX0 hown hK hP hD hS 0 rfl rfl 1 (by decide) fl15 (fun _ h9 => h9) rfl (by decide +kernel) rfl rfl (Nat.le_of_ble_eq_true rfl) dX0_empty_7 (fun H locs hP hD hS => ?_)
  have hP : va_P (dC, dI) vwCl [(a_t, .inr (0, [.int (0 : Int32), .int (0 : Int32), .ref a_t_bagKinds, .ref a_t_manKinds, .ref a_t_cells])), (a_t_cells, .inl (cI, 23, .inl t_cells))] H := hP
  have hD : va_D A [(a_t, .inr (0, [.int (0 : Int32), .int (0 : Int32), .ref a_t_bagKinds, .ref a_t_manKinds, .ref a_t_cells])), (a_t_cells, .inl (cI, 23, .inl t_cells))] := hD
  refine lv_iconst (v := (0 : Int32)) hx hb dX0_empty_10 (by decide) ?_
  refine lv_istore_n (lv' := [(1, .int (0 : Int32)), (0, .ref a_t)]) hx hb dX0_empty_11 rfl hl (by decide) rfl (fun ls hl => ?_)
  exact E12 (0 : Int32) (0 : Int32) t_cells (0 : Int32) H _ ls hw hP hD hS (lv_sub hl [1, 0] rfl)

def wpX0_becomeAll_L68 (p1_bags : Int32) (p1_men : Int32) (p1_bagKinds : Nat → Int32) (p1_manKinds : Nat → Int32) (p1_cells : Nat → Int32) (t_bags_68 : Int32) (t_men_68 : Int32) (t_bagKinds_68 : Nat → Int32) (t_manKinds_68 : Nat → Int32) (post : Int32 → Int32 → (Nat → Int32) → (Nat → Int32) → (Nat → Int32) → Prop) : Nat → (Nat → Int32) → Int32 → Prop
  | 0, _, _ => False
  | n + 1, t_cells_68, x2_68 => (((23 : Int32) ≤ x2_68 → post t_bags_68 t_men_68 t_bagKinds_68 t_manKinds_68 t_cells_68) ∧ (¬ (23 : Int32) ≤ x2_68 → vp_in x2_68 23 ∧ (vp_in x2_68 23 ∧ (∀ g_2 : Nat → Int32, g_2 = (upd t_cells_68 x2_68.toNatClampNeg (p1_cells x2_68.toNatClampNeg)) → ∀ y_3 : Int32, y_3 = (x2_68 + (1 : Int32)) → wpX0_becomeAll_L68 p1_bags p1_men p1_bagKinds p1_manKinds p1_cells t_bags_68 t_men_68 t_bagKinds_68 t_manKinds_68 post n g_2 y_3))))
def wpX0_becomeAll_E68 (p1_bags : Int32) (p1_men : Int32) (p1_bagKinds : Nat → Int32) (p1_manKinds : Nat → Int32) (p1_cells : Nat → Int32) (post : Int32 → Int32 → (Nat → Int32) → (Nat → Int32) → (Nat → Int32) → Prop) (t_bags_68 : Int32) (t_men_68 : Int32) (t_bagKinds_68 : Nat → Int32) (t_manKinds_68 : Nat → Int32) (t_cells_68 : Nat → Int32) (x2_68 : Int32) : Prop := ∃ n : Nat, wpX0_becomeAll_L68 p1_bags p1_men p1_bagKinds p1_manKinds p1_cells t_bags_68 t_men_68 t_bagKinds_68 t_manKinds_68 post n t_cells_68 x2_68
def wpX0_becomeAll_J66 (p1_bags : Int32) (p1_men : Int32) (p1_bagKinds : Nat → Int32) (p1_manKinds : Nat → Int32) (p1_cells : Nat → Int32) (post : Int32 → Int32 → (Nat → Int32) → (Nat → Int32) → (Nat → Int32) → Prop) (t_bags_66 : Int32) (t_men_66 : Int32) (t_bagKinds_66 : Nat → Int32) (t_manKinds_66 : Nat → Int32) (t_cells_66 : Nat → Int32) : Prop := wpX0_becomeAll_E68 p1_bags p1_men p1_bagKinds p1_manKinds p1_cells post t_bags_66 t_men_66 t_bagKinds_66 t_manKinds_66 t_cells_66 (0 : Int32)
def wpX0_becomeAll_L43 (p1_bags : Int32) (p1_men : Int32) (p1_bagKinds : Nat → Int32) (p1_manKinds : Nat → Int32) (p1_cells : Nat → Int32) (t_bags_43 : Int32) (t_men_43 : Int32) (t_bagKinds_43 : Nat → Int32) (t_cells_43 : Nat → Int32) (kJ66 : Int32 → Int32 → (Nat → Int32) → (Nat → Int32) → (Nat → Int32) → Prop) (post : Int32 → Int32 → (Nat → Int32) → (Nat → Int32) → (Nat → Int32) → Prop) : Nat → (Nat → Int32) → Int32 → Prop
  | 0, _, _ => False
  | n + 1, t_manKinds_43, x2_43 => (((5 : Int32) ≤ x2_43 → kJ66 t_bags_43 t_men_43 t_bagKinds_43 t_manKinds_43 t_cells_43) ∧ (¬ (5 : Int32) ≤ x2_43 → vp_in x2_43 5 ∧ (vp_in x2_43 5 ∧ (∀ g_5 : Nat → Int32, g_5 = (upd t_manKinds_43 x2_43.toNatClampNeg (p1_manKinds x2_43.toNatClampNeg)) → ∀ y_6 : Int32, y_6 = (x2_43 + (1 : Int32)) → wpX0_becomeAll_L43 p1_bags p1_men p1_bagKinds p1_manKinds p1_cells t_bags_43 t_men_43 t_bagKinds_43 t_cells_43 kJ66 post n g_5 y_6))))
def wpX0_becomeAll_E43 (p1_bags : Int32) (p1_men : Int32) (p1_bagKinds : Nat → Int32) (p1_manKinds : Nat → Int32) (p1_cells : Nat → Int32) (post : Int32 → Int32 → (Nat → Int32) → (Nat → Int32) → (Nat → Int32) → Prop) (t_bags_43 : Int32) (t_men_43 : Int32) (t_bagKinds_43 : Nat → Int32) (t_manKinds_43 : Nat → Int32) (t_cells_43 : Nat → Int32) (x2_43 : Int32) : Prop := ∃ n : Nat, wpX0_becomeAll_L43 p1_bags p1_men p1_bagKinds p1_manKinds p1_cells t_bags_43 t_men_43 t_bagKinds_43 t_cells_43 (wpX0_becomeAll_J66 p1_bags p1_men p1_bagKinds p1_manKinds p1_cells post) post n t_manKinds_43 x2_43
def wpX0_becomeAll_J41 (p1_bags : Int32) (p1_men : Int32) (p1_bagKinds : Nat → Int32) (p1_manKinds : Nat → Int32) (p1_cells : Nat → Int32) (post : Int32 → Int32 → (Nat → Int32) → (Nat → Int32) → (Nat → Int32) → Prop) (t_bags_41 : Int32) (t_men_41 : Int32) (t_bagKinds_41 : Nat → Int32) (t_manKinds_41 : Nat → Int32) (t_cells_41 : Nat → Int32) : Prop := wpX0_becomeAll_E43 p1_bags p1_men p1_bagKinds p1_manKinds p1_cells post t_bags_41 t_men_41 t_bagKinds_41 t_manKinds_41 t_cells_41 (0 : Int32)
def wpX0_becomeAll_L18 (p1_bags : Int32) (p1_men : Int32) (p1_bagKinds : Nat → Int32) (p1_manKinds : Nat → Int32) (p1_cells : Nat → Int32) (t_bags_18 : Int32) (t_men_18 : Int32) (t_manKinds_18 : Nat → Int32) (t_cells_18 : Nat → Int32) (kJ41 : Int32 → Int32 → (Nat → Int32) → (Nat → Int32) → (Nat → Int32) → Prop) (post : Int32 → Int32 → (Nat → Int32) → (Nat → Int32) → (Nat → Int32) → Prop) : Nat → (Nat → Int32) → Int32 → Prop
  | 0, _, _ => False
  | n + 1, t_bagKinds_18, x2_18 => (((3 : Int32) ≤ x2_18 → kJ41 t_bags_18 t_men_18 t_bagKinds_18 t_manKinds_18 t_cells_18) ∧ (¬ (3 : Int32) ≤ x2_18 → vp_in x2_18 3 ∧ (vp_in x2_18 3 ∧ (∀ g_8 : Nat → Int32, g_8 = (upd t_bagKinds_18 x2_18.toNatClampNeg (p1_bagKinds x2_18.toNatClampNeg)) → ∀ y_9 : Int32, y_9 = (x2_18 + (1 : Int32)) → wpX0_becomeAll_L18 p1_bags p1_men p1_bagKinds p1_manKinds p1_cells t_bags_18 t_men_18 t_manKinds_18 t_cells_18 kJ41 post n g_8 y_9))))
def wpX0_becomeAll_E18 (p1_bags : Int32) (p1_men : Int32) (p1_bagKinds : Nat → Int32) (p1_manKinds : Nat → Int32) (p1_cells : Nat → Int32) (post : Int32 → Int32 → (Nat → Int32) → (Nat → Int32) → (Nat → Int32) → Prop) (t_bags_18 : Int32) (t_men_18 : Int32) (t_bagKinds_18 : Nat → Int32) (t_manKinds_18 : Nat → Int32) (t_cells_18 : Nat → Int32) (x2_18 : Int32) : Prop := ∃ n : Nat, wpX0_becomeAll_L18 p1_bags p1_men p1_bagKinds p1_manKinds p1_cells t_bags_18 t_men_18 t_manKinds_18 t_cells_18 (wpX0_becomeAll_J41 p1_bags p1_men p1_bagKinds p1_manKinds p1_cells post) post n t_bagKinds_18 x2_18
def wpX0_becomeAll (t_bags : Int32) (t_men : Int32) (t_bagKinds : Nat → Int32) (t_manKinds : Nat → Int32) (t_cells : Nat → Int32) (p1_bags : Int32) (p1_men : Int32) (p1_bagKinds : Nat → Int32) (p1_manKinds : Nat → Int32) (p1_cells : Nat → Int32) (post : Int32 → Int32 → (Nat → Int32) → (Nat → Int32) → (Nat → Int32) → Prop) : Prop := wpX0_becomeAll_E18 p1_bags p1_men p1_bagKinds p1_manKinds p1_cells post p1_bags p1_men t_bagKinds t_manKinds t_cells (0 : Int32)
abbrev rmX0_becomeAll : Room := { frames := 0, cells := 0, slots := 0, locals := 0 }
set_option maxHeartbeats 4000000 in
set_option maxRecDepth 100000 in
theorem mtX0_becomeAll (l : Launch) (dC : Nat → ClassId) (dI : Nat → Nat → Nat) (cI cZ : ClassId) (a_t : Nat) (a_t_bagKinds : Nat) (a_t_manKinds : Nat) (a_t_cells : Nat) (a_p1 : Nat) (a_p1_bagKinds : Nat) (a_p1_manKinds : Nat) (a_p1_cells : Nat) (sz : Nat) (t_bags : Int32) (t_men : Int32) (t_bagKinds : Nat → Int32) (t_manKinds : Nat → Int32) (t_cells : Nat → Int32) (p1_bags : Int32) (p1_men : Int32) (p1_bagKinds : Nat → Int32) (p1_manKinds : Nat → Int32) (p1_cells : Nat → Int32) (post : Int32 → Int32 → (Nat → Int32) → (Nat → Int32) → (Nat → Int32) → Prop) (hw : wpX0_becomeAll t_bags t_men t_bagKinds t_manKinds t_cells p1_bags p1_men p1_bagKinds p1_manKinds p1_cells post) : Met l yX0_becomeAll wsX0_becomeAll rmX0_becomeAll (va_Pc [.ref a_t, .ref a_p1] (kvPre (dC, dI) cI cZ sz [(a_t, .inr (0, [.int t_bags, .int t_men, .ref a_t_bagKinds, .ref a_t_manKinds, .ref a_t_cells])), (a_t_bagKinds, .inl (cI, 3, .inl t_bagKinds)), (a_t_manKinds, .inl (cI, 5, .inl t_manKinds)), (a_t_cells, .inl (cI, 23, .inl t_cells)), (a_p1, .inr (0, [.int p1_bags, .int p1_men, .ref a_p1_bagKinds, .ref a_p1_manKinds, .ref a_p1_cells])), (a_p1_bagKinds, .inl (cI, 3, .inl p1_bagKinds)), (a_p1_manKinds, .inl (cI, 5, .inl p1_manKinds)), (a_p1_cells, .inl (cI, 23, .inl p1_cells))])) (va_Qv (fun (u : Int32 × Int32 × (Nat → Int32) × (Nat → Int32) × (Nat → Int32)) => post u.1 u.2.1 u.2.2.1 u.2.2.2.1 u.2.2.2.2) (kvB (dC, dI) (va_A [(a_t, .inr (0, [.int t_bags, .int t_men, .ref a_t_bagKinds, .ref a_t_manKinds, .ref a_t_cells])), (a_t_bagKinds, .inl (cI, 3, .inl t_bagKinds)), (a_t_manKinds, .inl (cI, 5, .inl t_manKinds)), (a_t_cells, .inl (cI, 23, .inl t_cells)), (a_p1, .inr (0, [.int p1_bags, .int p1_men, .ref a_p1_bagKinds, .ref a_p1_manKinds, .ref a_p1_cells])), (a_p1_bagKinds, .inl (cI, 3, .inl p1_bagKinds)), (a_p1_manKinds, .inl (cI, 5, .inl p1_manKinds)), (a_p1_cells, .inl (cI, 23, .inl p1_cells))] sz) (fun (u : Int32 × Int32 × (Nat → Int32) × (Nat → Int32) × (Nat → Int32)) => [(a_t, .inr (0, [.int u.1, .int u.2.1, .ref a_t_bagKinds, .ref a_t_manKinds, .ref a_t_cells])), (a_t_bagKinds, .inl (cI, 3, .inl u.2.2.1)), (a_t_manKinds, .inl (cI, 5, .inl u.2.2.2.1)), (a_t_cells, .inl (cI, 23, .inl u.2.2.2.2)), (a_p1, .inr (0, [.int p1_bags, .int p1_men, .ref a_p1_bagKinds, .ref a_p1_manKinds, .ref a_p1_cells])), (a_p1_bagKinds, .inl (cI, 3, .inl p1_bagKinds)), (a_p1_manKinds, .inl (cI, 5, .inl p1_manKinds)), (a_p1_cells, .inl (cI, 23, .inl p1_cells))])) (va_A [(a_t, .inr (0, [.int t_bags, .int t_men, .ref a_t_bagKinds, .ref a_t_manKinds, .ref a_t_cells])), (a_t_bagKinds, .inl (cI, 3, .inl t_bagKinds)), (a_t_manKinds, .inl (cI, 5, .inl t_manKinds)), (a_t_cells, .inl (cI, 23, .inl t_cells)), (a_p1, .inr (0, [.int p1_bags, .int p1_men, .ref a_p1_bagKinds, .ref a_p1_manKinds, .ref a_p1_cells])), (a_p1_bagKinds, .inl (cI, 3, .inl p1_bagKinds)), (a_p1_manKinds, .inl (cI, 5, .inl p1_manKinds)), (a_p1_cells, .inl (cI, 23, .inl p1_cells))] sz)) 0 0 (va_A [(a_t, .inr (0, [.int t_bags, .int t_men, .ref a_t_bagKinds, .ref a_t_manKinds, .ref a_t_cells])), (a_t_bagKinds, .inl (cI, 3, .inl t_bagKinds)), (a_t_manKinds, .inl (cI, 5, .inl t_manKinds)), (a_t_cells, .inl (cI, 23, .inl t_cells)), (a_p1, .inr (0, [.int p1_bags, .int p1_men, .ref a_p1_bagKinds, .ref a_p1_manKinds, .ref a_p1_cells])), (a_p1_bagKinds, .inl (cI, 3, .inl p1_bagKinds)), (a_p1_manKinds, .inl (cI, 5, .inl p1_manKinds)), (a_p1_cells, .inl (cI, 23, .inl p1_cells))] sz) := by
  refine kv_metV (y := yX0_becomeAll) (ws := wsX0_becomeAll) (rm := rmX0_becomeAll) (av := [.ref a_t, .ref a_p1]) (sz := sz) (w := [(a_t, .inr (0, [.int t_bags, .int t_men, .ref a_t_bagKinds, .ref a_t_manKinds, .ref a_t_cells])), (a_t_bagKinds, .inl (cI, 3, .inl t_bagKinds)), (a_t_manKinds, .inl (cI, 5, .inl t_manKinds)), (a_t_cells, .inl (cI, 23, .inl t_cells)), (a_p1, .inr (0, [.int p1_bags, .int p1_men, .ref a_p1_bagKinds, .ref a_p1_manKinds, .ref a_p1_cells])), (a_p1_bagKinds, .inl (cI, 3, .inl p1_bagKinds)), (a_p1_manKinds, .inl (cI, 5, .inl p1_manKinds)), (a_p1_cells, .inl (cI, 23, .inl p1_cells))]) (cc := cX0_becomeAll) (maxL := 3) (own := RX0) (post := (fun (u : Int32 × Int32 × (Nat → Int32) × (Nat → Int32) × (Nat → Int32)) => post u.1 u.2.1 u.2.2.1 u.2.2.2.1 u.2.2.2.2)) (w1 := (fun (u : Int32 × Int32 × (Nat → Int32) × (Nat → Int32) × (Nat → Int32)) => [(a_t, .inr (0, [.int u.1, .int u.2.1, .ref a_t_bagKinds, .ref a_t_manKinds, .ref a_t_cells])), (a_t_bagKinds, .inl (cI, 3, .inl u.2.2.1)), (a_t_manKinds, .inl (cI, 5, .inl u.2.2.2.1)), (a_t_cells, .inl (cI, 23, .inl u.2.2.2.2)), (a_p1, .inr (0, [.int p1_bags, .int p1_men, .ref a_p1_bagKinds, .ref a_p1_manKinds, .ref a_p1_cells])), (a_p1_bagKinds, .inl (cI, 3, .inl p1_bagKinds)), (a_p1_manKinds, .inl (cI, 5, .inl p1_manKinds)), (a_p1_cells, .inl (cI, 23, .inl p1_cells))])) (by decide) rfl rfl (Nat.le_of_ble_eq_true rfl) ?_
  intro p e s m below meth c A Q hx hb hml hown hts hK hX hA hP hD hsz hret ls hl
  have hS : va_S A s.heap s.heap [] := va_S.rf
  have hl : lv_has ls 3 [(0, .ref a_t), (1, .ref a_p1)] := hl
  have inX0 : ∀ w ∈ u_ws RX0 TX0 5, w ∈ wsX0_becomeAll := by decide +kernel
  have fl25 := hts (.fieldLink RX0 25 "BreathBags$Camp" "cells" "[I") (by decide +kernel)
  have fl22 := hts (.fieldLink RX0 22 "BreathBags$Camp" "manKinds" "[I") (by decide +kernel)
  have fl18 := hts (.fieldLink RX0 18 "BreathBags$Camp" "bagKinds" "[I") (by decide +kernel)
  have fl11 := hts (.fieldLink RX0 11 "BreathBags$Camp" "bags" "I") (by decide +kernel)
  have fl15 := hts (.fieldLink RX0 15 "BreathBags$Camp" "men" "I") (by decide +kernel)
  have L68 : ∀ (t_bags_68 : Int32) (t_men_68 : Int32) (t_bagKinds_68 : Nat → Int32) (t_manKinds_68 : Nat → Int32) (n68 : Nat) (t_cells_68 : Nat → Int32) (x2_68 : Int32) (H : Heap) (locs : List Loc) (ls : Array Slot), wpX0_becomeAll_L68 p1_bags p1_men p1_bagKinds p1_manKinds p1_cells t_bags_68 t_men_68 t_bagKinds_68 t_manKinds_68 post n68 t_cells_68 x2_68 → va_P (dC, dI) vwCl [(a_t, .inr (0, [.int t_bags_68, .int t_men_68, .ref a_t_bagKinds, .ref a_t_manKinds, .ref a_t_cells])), (a_t_bagKinds, .inl (cI, 3, .inl t_bagKinds_68)), (a_t_manKinds, .inl (cI, 5, .inl t_manKinds_68)), (a_t_cells, .inl (cI, 23, .inl t_cells_68)), (a_p1, .inr (0, [.int p1_bags, .int p1_men, .ref a_p1_bagKinds, .ref a_p1_manKinds, .ref a_p1_cells])), (a_p1_bagKinds, .inl (cI, 3, .inl p1_bagKinds)), (a_p1_manKinds, .inl (cI, 5, .inl p1_manKinds)), (a_p1_cells, .inl (cI, 23, .inl p1_cells))] H → va_D A [(a_t, .inr (0, [.int t_bags_68, .int t_men_68, .ref a_t_bagKinds, .ref a_t_manKinds, .ref a_t_cells])), (a_t_bagKinds, .inl (cI, 3, .inl t_bagKinds_68)), (a_t_manKinds, .inl (cI, 5, .inl t_manKinds_68)), (a_t_cells, .inl (cI, 23, .inl t_cells_68)), (a_p1, .inr (0, [.int p1_bags, .int p1_men, .ref a_p1_bagKinds, .ref a_p1_manKinds, .ref a_p1_cells])), (a_p1_bagKinds, .inl (cI, 3, .inl p1_bagKinds)), (a_p1_manKinds, .inl (cI, 5, .inl p1_manKinds)), (a_p1_cells, .inl (cI, 23, .inl p1_cells))] → va_S A s.heap H locs → lv_has ls 3 [(0, .ref a_t), (1, .ref a_p1), (2, .int x2_68)] → W p l e rmX0_becomeAll s m [.ref a_t, .ref a_p1].toArray below meth c H locs 0 0 Q (F0 m 68 ls []) := by
    intro t_bags_68 t_men_68 t_bagKinds_68 t_manKinds_68 n68
    induction n68 with
    | zero => intro t_cells_68 x2_68 H locs ls hw hP hD hS hl; exact hw.elim
    | succ n68 ih68 =>
      intro t_cells_68 x2_68 H locs ls hw hP hD hS hl
      refine lv_iload_n hx hb dX0_becomeAll_68 rfl (lv_at hl 2 rfl) ?_
      refine lv_bipush (v := (23 : Int32)) hx hb dX0_becomeAll_69 (by decide) ?_
      refine lv_icmp_ge (tgt := 92) hx hb dX0_becomeAll_71 (by decide) (fun c_1 => ?_) (fun c_1 => ?_)
      · have hw := hw.1 c_1
        exact hret (t_bags_68, t_men_68, t_bagKinds_68, t_manKinds_68, t_cells_68) H _ _ ls hw hP hD hS dX0_becomeAll_92
      · have hw := hw.2 c_1
        refine lv_aload_n hx hb dX0_becomeAll_74 rfl (lv_at hl 0 rfl) ?_
        refine va_get (D := (dC, dI)) (ci := 0) (v := .ref a_t_cells) (C := RX0) (T := TX0) (N := 5) hx hb hts inX0 hown hK hP 0 rfl rfl 4 (by decide) fl25 (fun _ h9 => h9) rfl dX0_becomeAll_75 ?_
        refine lv_iload_n hx hb dX0_becomeAll_78 rfl (lv_at hl 2 rfl) ?_
        refine lv_aload_n hx hb dX0_becomeAll_79 rfl (lv_at hl 1 rfl) ?_
        refine va_get (D := (dC, dI)) (ci := 0) (v := .ref a_p1_cells) (C := RX0) (T := TX0) (N := 5) hx hb hts inX0 hown hK hP 4 rfl rfl 4 (by decide) fl25 (fun _ h9 => h9) rfl dX0_becomeAll_80 ?_
        refine lv_iload_n hx hb dX0_becomeAll_83 rfl (lv_at hl 2 rfl) ?_
        refine va_iald hx hb hK hP 7 0 rfl rfl hw.1 dX0_becomeAll_84 ?_
        have hw := hw.2
        refine va_iast hx hb hK hP hD hS 3 0 rfl rfl hw.1 dX0_becomeAll_85 (fun H locs hP hD hS => ?_)
        have hw := hw.2
        have hP : va_P (dC, dI) vwCl [(a_t, .inr (0, [.int t_bags_68, .int t_men_68, .ref a_t_bagKinds, .ref a_t_manKinds, .ref a_t_cells])), (a_t_bagKinds, .inl (cI, 3, .inl t_bagKinds_68)), (a_t_manKinds, .inl (cI, 5, .inl t_manKinds_68)), (a_t_cells, .inl (cI, 23, .inl (upd t_cells_68 x2_68.toNatClampNeg (p1_cells x2_68.toNatClampNeg)))), (a_p1, .inr (0, [.int p1_bags, .int p1_men, .ref a_p1_bagKinds, .ref a_p1_manKinds, .ref a_p1_cells])), (a_p1_bagKinds, .inl (cI, 3, .inl p1_bagKinds)), (a_p1_manKinds, .inl (cI, 5, .inl p1_manKinds)), (a_p1_cells, .inl (cI, 23, .inl p1_cells))] H := hP
        have hD : va_D A [(a_t, .inr (0, [.int t_bags_68, .int t_men_68, .ref a_t_bagKinds, .ref a_t_manKinds, .ref a_t_cells])), (a_t_bagKinds, .inl (cI, 3, .inl t_bagKinds_68)), (a_t_manKinds, .inl (cI, 5, .inl t_manKinds_68)), (a_t_cells, .inl (cI, 23, .inl (upd t_cells_68 x2_68.toNatClampNeg (p1_cells x2_68.toNatClampNeg)))), (a_p1, .inr (0, [.int p1_bags, .int p1_men, .ref a_p1_bagKinds, .ref a_p1_manKinds, .ref a_p1_cells])), (a_p1_bagKinds, .inl (cI, 3, .inl p1_bagKinds)), (a_p1_manKinds, .inl (cI, 5, .inl p1_manKinds)), (a_p1_cells, .inl (cI, 23, .inl p1_cells))] := hD
        obtain ⟨g_2, eg_2⟩ : ∃ g : Nat → Int32, g = (upd t_cells_68 x2_68.toNatClampNeg (p1_cells x2_68.toNatClampNeg)) := ⟨_, rfl⟩
        have hw := hw g_2 eg_2
        rw [← eg_2] at hP hD
        obtain ⟨y_3, ey_3⟩ : ∃ y : Int32, y = (x2_68 + (1 : Int32)) := ⟨_, rfl⟩
        have hw := hw y_3 ey_3
        refine lv_iinc (v := y_3) (lv' := [(2, .int y_3), (0, .ref a_t), (1, .ref a_p1)]) hx hb dX0_becomeAll_86 hl (k := 2) rfl (by rw [ey_3]; rfl) (by decide) rfl (fun ls hl => ?_)
        refine lv_goto (tgt := 68) hx hb dX0_becomeAll_89 (by decide) ?_
        exact ih68 g_2 y_3 H _ ls hw hP hD hS (lv_sub hl [1, 2, 0] rfl)
  have E68 : ∀ (t_bags_68 : Int32) (t_men_68 : Int32) (t_bagKinds_68 : Nat → Int32) (t_manKinds_68 : Nat → Int32) (t_cells_68 : Nat → Int32) (x2_68 : Int32) (H : Heap) (locs : List Loc) (ls : Array Slot), wpX0_becomeAll_E68 p1_bags p1_men p1_bagKinds p1_manKinds p1_cells post t_bags_68 t_men_68 t_bagKinds_68 t_manKinds_68 t_cells_68 x2_68 → va_P (dC, dI) vwCl [(a_t, .inr (0, [.int t_bags_68, .int t_men_68, .ref a_t_bagKinds, .ref a_t_manKinds, .ref a_t_cells])), (a_t_bagKinds, .inl (cI, 3, .inl t_bagKinds_68)), (a_t_manKinds, .inl (cI, 5, .inl t_manKinds_68)), (a_t_cells, .inl (cI, 23, .inl t_cells_68)), (a_p1, .inr (0, [.int p1_bags, .int p1_men, .ref a_p1_bagKinds, .ref a_p1_manKinds, .ref a_p1_cells])), (a_p1_bagKinds, .inl (cI, 3, .inl p1_bagKinds)), (a_p1_manKinds, .inl (cI, 5, .inl p1_manKinds)), (a_p1_cells, .inl (cI, 23, .inl p1_cells))] H → va_D A [(a_t, .inr (0, [.int t_bags_68, .int t_men_68, .ref a_t_bagKinds, .ref a_t_manKinds, .ref a_t_cells])), (a_t_bagKinds, .inl (cI, 3, .inl t_bagKinds_68)), (a_t_manKinds, .inl (cI, 5, .inl t_manKinds_68)), (a_t_cells, .inl (cI, 23, .inl t_cells_68)), (a_p1, .inr (0, [.int p1_bags, .int p1_men, .ref a_p1_bagKinds, .ref a_p1_manKinds, .ref a_p1_cells])), (a_p1_bagKinds, .inl (cI, 3, .inl p1_bagKinds)), (a_p1_manKinds, .inl (cI, 5, .inl p1_manKinds)), (a_p1_cells, .inl (cI, 23, .inl p1_cells))] → va_S A s.heap H locs → lv_has ls 3 [(0, .ref a_t), (1, .ref a_p1), (2, .int x2_68)] → W p l e rmX0_becomeAll s m [.ref a_t, .ref a_p1].toArray below meth c H locs 0 0 Q (F0 m 68 ls []) := by
    intro t_bags_68 t_men_68 t_bagKinds_68 t_manKinds_68 t_cells_68 x2_68 H locs ls hw hP hD hS hl
    obtain ⟨n, hw⟩ := hw
    exact L68 t_bags_68 t_men_68 t_bagKinds_68 t_manKinds_68 n t_cells_68 x2_68 H locs ls hw hP hD hS hl
  have B66 : ∀ (t_bags_66 : Int32) (t_men_66 : Int32) (t_bagKinds_66 : Nat → Int32) (t_manKinds_66 : Nat → Int32) (t_cells_66 : Nat → Int32) (H : Heap) (locs : List Loc) (ls : Array Slot), wpX0_becomeAll_J66 p1_bags p1_men p1_bagKinds p1_manKinds p1_cells post t_bags_66 t_men_66 t_bagKinds_66 t_manKinds_66 t_cells_66 → va_P (dC, dI) vwCl [(a_t, .inr (0, [.int t_bags_66, .int t_men_66, .ref a_t_bagKinds, .ref a_t_manKinds, .ref a_t_cells])), (a_t_bagKinds, .inl (cI, 3, .inl t_bagKinds_66)), (a_t_manKinds, .inl (cI, 5, .inl t_manKinds_66)), (a_t_cells, .inl (cI, 23, .inl t_cells_66)), (a_p1, .inr (0, [.int p1_bags, .int p1_men, .ref a_p1_bagKinds, .ref a_p1_manKinds, .ref a_p1_cells])), (a_p1_bagKinds, .inl (cI, 3, .inl p1_bagKinds)), (a_p1_manKinds, .inl (cI, 5, .inl p1_manKinds)), (a_p1_cells, .inl (cI, 23, .inl p1_cells))] H → va_D A [(a_t, .inr (0, [.int t_bags_66, .int t_men_66, .ref a_t_bagKinds, .ref a_t_manKinds, .ref a_t_cells])), (a_t_bagKinds, .inl (cI, 3, .inl t_bagKinds_66)), (a_t_manKinds, .inl (cI, 5, .inl t_manKinds_66)), (a_t_cells, .inl (cI, 23, .inl t_cells_66)), (a_p1, .inr (0, [.int p1_bags, .int p1_men, .ref a_p1_bagKinds, .ref a_p1_manKinds, .ref a_p1_cells])), (a_p1_bagKinds, .inl (cI, 3, .inl p1_bagKinds)), (a_p1_manKinds, .inl (cI, 5, .inl p1_manKinds)), (a_p1_cells, .inl (cI, 23, .inl p1_cells))] → va_S A s.heap H locs → lv_has ls 3 [(0, .ref a_t), (1, .ref a_p1)] → W p l e rmX0_becomeAll s m [.ref a_t, .ref a_p1].toArray below meth c H locs 0 0 Q (F0 m 66 ls []) := by
    intro t_bags_66 t_men_66 t_bagKinds_66 t_manKinds_66 t_cells_66 H locs ls hw hP hD hS hl
    refine lv_iconst (v := (0 : Int32)) hx hb dX0_becomeAll_66 (by decide) ?_
    refine lv_istore_n (lv' := [(2, .int (0 : Int32)), (0, .ref a_t), (1, .ref a_p1)]) hx hb dX0_becomeAll_67 rfl hl (by decide) rfl (fun ls hl => ?_)
    exact E68 t_bags_66 t_men_66 t_bagKinds_66 t_manKinds_66 t_cells_66 (0 : Int32) H _ ls hw hP hD hS (lv_sub hl [1, 2, 0] rfl)
  have L43 : ∀ (t_bags_43 : Int32) (t_men_43 : Int32) (t_bagKinds_43 : Nat → Int32) (t_cells_43 : Nat → Int32) (n43 : Nat) (t_manKinds_43 : Nat → Int32) (x2_43 : Int32) (H : Heap) (locs : List Loc) (ls : Array Slot), wpX0_becomeAll_L43 p1_bags p1_men p1_bagKinds p1_manKinds p1_cells t_bags_43 t_men_43 t_bagKinds_43 t_cells_43 (wpX0_becomeAll_J66 p1_bags p1_men p1_bagKinds p1_manKinds p1_cells post) post n43 t_manKinds_43 x2_43 → va_P (dC, dI) vwCl [(a_t, .inr (0, [.int t_bags_43, .int t_men_43, .ref a_t_bagKinds, .ref a_t_manKinds, .ref a_t_cells])), (a_t_bagKinds, .inl (cI, 3, .inl t_bagKinds_43)), (a_t_manKinds, .inl (cI, 5, .inl t_manKinds_43)), (a_t_cells, .inl (cI, 23, .inl t_cells_43)), (a_p1, .inr (0, [.int p1_bags, .int p1_men, .ref a_p1_bagKinds, .ref a_p1_manKinds, .ref a_p1_cells])), (a_p1_bagKinds, .inl (cI, 3, .inl p1_bagKinds)), (a_p1_manKinds, .inl (cI, 5, .inl p1_manKinds)), (a_p1_cells, .inl (cI, 23, .inl p1_cells))] H → va_D A [(a_t, .inr (0, [.int t_bags_43, .int t_men_43, .ref a_t_bagKinds, .ref a_t_manKinds, .ref a_t_cells])), (a_t_bagKinds, .inl (cI, 3, .inl t_bagKinds_43)), (a_t_manKinds, .inl (cI, 5, .inl t_manKinds_43)), (a_t_cells, .inl (cI, 23, .inl t_cells_43)), (a_p1, .inr (0, [.int p1_bags, .int p1_men, .ref a_p1_bagKinds, .ref a_p1_manKinds, .ref a_p1_cells])), (a_p1_bagKinds, .inl (cI, 3, .inl p1_bagKinds)), (a_p1_manKinds, .inl (cI, 5, .inl p1_manKinds)), (a_p1_cells, .inl (cI, 23, .inl p1_cells))] → va_S A s.heap H locs → lv_has ls 3 [(0, .ref a_t), (1, .ref a_p1), (2, .int x2_43)] → W p l e rmX0_becomeAll s m [.ref a_t, .ref a_p1].toArray below meth c H locs 0 0 Q (F0 m 43 ls []) := by
    intro t_bags_43 t_men_43 t_bagKinds_43 t_cells_43 n43
    induction n43 with
    | zero => intro t_manKinds_43 x2_43 H locs ls hw hP hD hS hl; exact hw.elim
    | succ n43 ih43 =>
      intro t_manKinds_43 x2_43 H locs ls hw hP hD hS hl
      refine lv_iload_n hx hb dX0_becomeAll_43 rfl (lv_at hl 2 rfl) ?_
      refine lv_iconst (v := (5 : Int32)) hx hb dX0_becomeAll_44 (by decide) ?_
      refine lv_icmp_ge (tgt := 66) hx hb dX0_becomeAll_45 (by decide) (fun c_4 => ?_) (fun c_4 => ?_)
      · have hw := hw.1 c_4
        exact B66 t_bags_43 t_men_43 t_bagKinds_43 t_manKinds_43 t_cells_43 H _ ls hw hP hD hS (lv_sub hl [0, 1] rfl)
      · have hw := hw.2 c_4
        refine lv_aload_n hx hb dX0_becomeAll_48 rfl (lv_at hl 0 rfl) ?_
        refine va_get (D := (dC, dI)) (ci := 0) (v := .ref a_t_manKinds) (C := RX0) (T := TX0) (N := 5) hx hb hts inX0 hown hK hP 0 rfl rfl 3 (by decide) fl22 (fun _ h9 => h9) rfl dX0_becomeAll_49 ?_
        refine lv_iload_n hx hb dX0_becomeAll_52 rfl (lv_at hl 2 rfl) ?_
        refine lv_aload_n hx hb dX0_becomeAll_53 rfl (lv_at hl 1 rfl) ?_
        refine va_get (D := (dC, dI)) (ci := 0) (v := .ref a_p1_manKinds) (C := RX0) (T := TX0) (N := 5) hx hb hts inX0 hown hK hP 4 rfl rfl 3 (by decide) fl22 (fun _ h9 => h9) rfl dX0_becomeAll_54 ?_
        refine lv_iload_n hx hb dX0_becomeAll_57 rfl (lv_at hl 2 rfl) ?_
        refine va_iald hx hb hK hP 6 0 rfl rfl hw.1 dX0_becomeAll_58 ?_
        have hw := hw.2
        refine va_iast hx hb hK hP hD hS 2 0 rfl rfl hw.1 dX0_becomeAll_59 (fun H locs hP hD hS => ?_)
        have hw := hw.2
        have hP : va_P (dC, dI) vwCl [(a_t, .inr (0, [.int t_bags_43, .int t_men_43, .ref a_t_bagKinds, .ref a_t_manKinds, .ref a_t_cells])), (a_t_bagKinds, .inl (cI, 3, .inl t_bagKinds_43)), (a_t_manKinds, .inl (cI, 5, .inl (upd t_manKinds_43 x2_43.toNatClampNeg (p1_manKinds x2_43.toNatClampNeg)))), (a_t_cells, .inl (cI, 23, .inl t_cells_43)), (a_p1, .inr (0, [.int p1_bags, .int p1_men, .ref a_p1_bagKinds, .ref a_p1_manKinds, .ref a_p1_cells])), (a_p1_bagKinds, .inl (cI, 3, .inl p1_bagKinds)), (a_p1_manKinds, .inl (cI, 5, .inl p1_manKinds)), (a_p1_cells, .inl (cI, 23, .inl p1_cells))] H := hP
        have hD : va_D A [(a_t, .inr (0, [.int t_bags_43, .int t_men_43, .ref a_t_bagKinds, .ref a_t_manKinds, .ref a_t_cells])), (a_t_bagKinds, .inl (cI, 3, .inl t_bagKinds_43)), (a_t_manKinds, .inl (cI, 5, .inl (upd t_manKinds_43 x2_43.toNatClampNeg (p1_manKinds x2_43.toNatClampNeg)))), (a_t_cells, .inl (cI, 23, .inl t_cells_43)), (a_p1, .inr (0, [.int p1_bags, .int p1_men, .ref a_p1_bagKinds, .ref a_p1_manKinds, .ref a_p1_cells])), (a_p1_bagKinds, .inl (cI, 3, .inl p1_bagKinds)), (a_p1_manKinds, .inl (cI, 5, .inl p1_manKinds)), (a_p1_cells, .inl (cI, 23, .inl p1_cells))] := hD
        obtain ⟨g_5, eg_5⟩ : ∃ g : Nat → Int32, g = (upd t_manKinds_43 x2_43.toNatClampNeg (p1_manKinds x2_43.toNatClampNeg)) := ⟨_, rfl⟩
        have hw := hw g_5 eg_5
        rw [← eg_5] at hP hD
        obtain ⟨y_6, ey_6⟩ : ∃ y : Int32, y = (x2_43 + (1 : Int32)) := ⟨_, rfl⟩
        have hw := hw y_6 ey_6
        refine lv_iinc (v := y_6) (lv' := [(2, .int y_6), (0, .ref a_t), (1, .ref a_p1)]) hx hb dX0_becomeAll_60 hl (k := 2) rfl (by rw [ey_6]; rfl) (by decide) rfl (fun ls hl => ?_)
        refine lv_goto (tgt := 43) hx hb dX0_becomeAll_63 (by decide) ?_
        exact ih43 g_5 y_6 H _ ls hw hP hD hS (lv_sub hl [1, 2, 0] rfl)
  have E43 : ∀ (t_bags_43 : Int32) (t_men_43 : Int32) (t_bagKinds_43 : Nat → Int32) (t_manKinds_43 : Nat → Int32) (t_cells_43 : Nat → Int32) (x2_43 : Int32) (H : Heap) (locs : List Loc) (ls : Array Slot), wpX0_becomeAll_E43 p1_bags p1_men p1_bagKinds p1_manKinds p1_cells post t_bags_43 t_men_43 t_bagKinds_43 t_manKinds_43 t_cells_43 x2_43 → va_P (dC, dI) vwCl [(a_t, .inr (0, [.int t_bags_43, .int t_men_43, .ref a_t_bagKinds, .ref a_t_manKinds, .ref a_t_cells])), (a_t_bagKinds, .inl (cI, 3, .inl t_bagKinds_43)), (a_t_manKinds, .inl (cI, 5, .inl t_manKinds_43)), (a_t_cells, .inl (cI, 23, .inl t_cells_43)), (a_p1, .inr (0, [.int p1_bags, .int p1_men, .ref a_p1_bagKinds, .ref a_p1_manKinds, .ref a_p1_cells])), (a_p1_bagKinds, .inl (cI, 3, .inl p1_bagKinds)), (a_p1_manKinds, .inl (cI, 5, .inl p1_manKinds)), (a_p1_cells, .inl (cI, 23, .inl p1_cells))] H → va_D A [(a_t, .inr (0, [.int t_bags_43, .int t_men_43, .ref a_t_bagKinds, .ref a_t_manKinds, .ref a_t_cells])), (a_t_bagKinds, .inl (cI, 3, .inl t_bagKinds_43)), (a_t_manKinds, .inl (cI, 5, .inl t_manKinds_43)), (a_t_cells, .inl (cI, 23, .inl t_cells_43)), (a_p1, .inr (0, [.int p1_bags, .int p1_men, .ref a_p1_bagKinds, .ref a_p1_manKinds, .ref a_p1_cells])), (a_p1_bagKinds, .inl (cI, 3, .inl p1_bagKinds)), (a_p1_manKinds, .inl (cI, 5, .inl p1_manKinds)), (a_p1_cells, .inl (cI, 23, .inl p1_cells))] → va_S A s.heap H locs → lv_has ls 3 [(0, .ref a_t), (1, .ref a_p1), (2, .int x2_43)] → W p l e rmX0_becomeAll s m [.ref a_t, .ref a_p1].toArray below meth c H locs 0 0 Q (F0 m 43 ls []) := by
    intro t_bags_43 t_men_43 t_bagKinds_43 t_manKinds_43 t_cells_43 x2_43 H locs ls hw hP hD hS hl
    obtain ⟨n, hw⟩ := hw
    exact L43 t_bags_43 t_men_43 t_bagKinds_43 t_cells_43 n t_manKinds_43 x2_43 H locs ls hw hP hD hS hl
  have B41 : ∀ (t_bags_41 : Int32) (t_men_41 : Int32) (t_bagKinds_41 : Nat → Int32) (t_manKinds_41 : Nat → Int32) (t_cells_41 : Nat → Int32) (H : Heap) (locs : List Loc) (ls : Array Slot), wpX0_becomeAll_J41 p1_bags p1_men p1_bagKinds p1_manKinds p1_cells post t_bags_41 t_men_41 t_bagKinds_41 t_manKinds_41 t_cells_41 → va_P (dC, dI) vwCl [(a_t, .inr (0, [.int t_bags_41, .int t_men_41, .ref a_t_bagKinds, .ref a_t_manKinds, .ref a_t_cells])), (a_t_bagKinds, .inl (cI, 3, .inl t_bagKinds_41)), (a_t_manKinds, .inl (cI, 5, .inl t_manKinds_41)), (a_t_cells, .inl (cI, 23, .inl t_cells_41)), (a_p1, .inr (0, [.int p1_bags, .int p1_men, .ref a_p1_bagKinds, .ref a_p1_manKinds, .ref a_p1_cells])), (a_p1_bagKinds, .inl (cI, 3, .inl p1_bagKinds)), (a_p1_manKinds, .inl (cI, 5, .inl p1_manKinds)), (a_p1_cells, .inl (cI, 23, .inl p1_cells))] H → va_D A [(a_t, .inr (0, [.int t_bags_41, .int t_men_41, .ref a_t_bagKinds, .ref a_t_manKinds, .ref a_t_cells])), (a_t_bagKinds, .inl (cI, 3, .inl t_bagKinds_41)), (a_t_manKinds, .inl (cI, 5, .inl t_manKinds_41)), (a_t_cells, .inl (cI, 23, .inl t_cells_41)), (a_p1, .inr (0, [.int p1_bags, .int p1_men, .ref a_p1_bagKinds, .ref a_p1_manKinds, .ref a_p1_cells])), (a_p1_bagKinds, .inl (cI, 3, .inl p1_bagKinds)), (a_p1_manKinds, .inl (cI, 5, .inl p1_manKinds)), (a_p1_cells, .inl (cI, 23, .inl p1_cells))] → va_S A s.heap H locs → lv_has ls 3 [(0, .ref a_t), (1, .ref a_p1)] → W p l e rmX0_becomeAll s m [.ref a_t, .ref a_p1].toArray below meth c H locs 0 0 Q (F0 m 41 ls []) := by
    intro t_bags_41 t_men_41 t_bagKinds_41 t_manKinds_41 t_cells_41 H locs ls hw hP hD hS hl
    refine lv_iconst (v := (0 : Int32)) hx hb dX0_becomeAll_41 (by decide) ?_
    refine lv_istore_n (lv' := [(2, .int (0 : Int32)), (0, .ref a_t), (1, .ref a_p1)]) hx hb dX0_becomeAll_42 rfl hl (by decide) rfl (fun ls hl => ?_)
    exact E43 t_bags_41 t_men_41 t_bagKinds_41 t_manKinds_41 t_cells_41 (0 : Int32) H _ ls hw hP hD hS (lv_sub hl [1, 2, 0] rfl)
  have L18 : ∀ (t_bags_18 : Int32) (t_men_18 : Int32) (t_manKinds_18 : Nat → Int32) (t_cells_18 : Nat → Int32) (n18 : Nat) (t_bagKinds_18 : Nat → Int32) (x2_18 : Int32) (H : Heap) (locs : List Loc) (ls : Array Slot), wpX0_becomeAll_L18 p1_bags p1_men p1_bagKinds p1_manKinds p1_cells t_bags_18 t_men_18 t_manKinds_18 t_cells_18 (wpX0_becomeAll_J41 p1_bags p1_men p1_bagKinds p1_manKinds p1_cells post) post n18 t_bagKinds_18 x2_18 → va_P (dC, dI) vwCl [(a_t, .inr (0, [.int t_bags_18, .int t_men_18, .ref a_t_bagKinds, .ref a_t_manKinds, .ref a_t_cells])), (a_t_bagKinds, .inl (cI, 3, .inl t_bagKinds_18)), (a_t_manKinds, .inl (cI, 5, .inl t_manKinds_18)), (a_t_cells, .inl (cI, 23, .inl t_cells_18)), (a_p1, .inr (0, [.int p1_bags, .int p1_men, .ref a_p1_bagKinds, .ref a_p1_manKinds, .ref a_p1_cells])), (a_p1_bagKinds, .inl (cI, 3, .inl p1_bagKinds)), (a_p1_manKinds, .inl (cI, 5, .inl p1_manKinds)), (a_p1_cells, .inl (cI, 23, .inl p1_cells))] H → va_D A [(a_t, .inr (0, [.int t_bags_18, .int t_men_18, .ref a_t_bagKinds, .ref a_t_manKinds, .ref a_t_cells])), (a_t_bagKinds, .inl (cI, 3, .inl t_bagKinds_18)), (a_t_manKinds, .inl (cI, 5, .inl t_manKinds_18)), (a_t_cells, .inl (cI, 23, .inl t_cells_18)), (a_p1, .inr (0, [.int p1_bags, .int p1_men, .ref a_p1_bagKinds, .ref a_p1_manKinds, .ref a_p1_cells])), (a_p1_bagKinds, .inl (cI, 3, .inl p1_bagKinds)), (a_p1_manKinds, .inl (cI, 5, .inl p1_manKinds)), (a_p1_cells, .inl (cI, 23, .inl p1_cells))] → va_S A s.heap H locs → lv_has ls 3 [(0, .ref a_t), (1, .ref a_p1), (2, .int x2_18)] → W p l e rmX0_becomeAll s m [.ref a_t, .ref a_p1].toArray below meth c H locs 0 0 Q (F0 m 18 ls []) := by
    intro t_bags_18 t_men_18 t_manKinds_18 t_cells_18 n18
    induction n18 with
    | zero => intro t_bagKinds_18 x2_18 H locs ls hw hP hD hS hl; exact hw.elim
    | succ n18 ih18 =>
      intro t_bagKinds_18 x2_18 H locs ls hw hP hD hS hl
      refine lv_iload_n hx hb dX0_becomeAll_18 rfl (lv_at hl 2 rfl) ?_
      refine lv_iconst (v := (3 : Int32)) hx hb dX0_becomeAll_19 (by decide) ?_
      refine lv_icmp_ge (tgt := 41) hx hb dX0_becomeAll_20 (by decide) (fun c_7 => ?_) (fun c_7 => ?_)
      · have hw := hw.1 c_7
        exact B41 t_bags_18 t_men_18 t_bagKinds_18 t_manKinds_18 t_cells_18 H _ ls hw hP hD hS (lv_sub hl [0, 1] rfl)
      · have hw := hw.2 c_7
        refine lv_aload_n hx hb dX0_becomeAll_23 rfl (lv_at hl 0 rfl) ?_
        refine va_get (D := (dC, dI)) (ci := 0) (v := .ref a_t_bagKinds) (C := RX0) (T := TX0) (N := 5) hx hb hts inX0 hown hK hP 0 rfl rfl 2 (by decide) fl18 (fun _ h9 => h9) rfl dX0_becomeAll_24 ?_
        refine lv_iload_n hx hb dX0_becomeAll_27 rfl (lv_at hl 2 rfl) ?_
        refine lv_aload_n hx hb dX0_becomeAll_28 rfl (lv_at hl 1 rfl) ?_
        refine va_get (D := (dC, dI)) (ci := 0) (v := .ref a_p1_bagKinds) (C := RX0) (T := TX0) (N := 5) hx hb hts inX0 hown hK hP 4 rfl rfl 2 (by decide) fl18 (fun _ h9 => h9) rfl dX0_becomeAll_29 ?_
        refine lv_iload_n hx hb dX0_becomeAll_32 rfl (lv_at hl 2 rfl) ?_
        refine va_iald hx hb hK hP 5 0 rfl rfl hw.1 dX0_becomeAll_33 ?_
        have hw := hw.2
        refine va_iast hx hb hK hP hD hS 1 0 rfl rfl hw.1 dX0_becomeAll_34 (fun H locs hP hD hS => ?_)
        have hw := hw.2
        have hP : va_P (dC, dI) vwCl [(a_t, .inr (0, [.int t_bags_18, .int t_men_18, .ref a_t_bagKinds, .ref a_t_manKinds, .ref a_t_cells])), (a_t_bagKinds, .inl (cI, 3, .inl (upd t_bagKinds_18 x2_18.toNatClampNeg (p1_bagKinds x2_18.toNatClampNeg)))), (a_t_manKinds, .inl (cI, 5, .inl t_manKinds_18)), (a_t_cells, .inl (cI, 23, .inl t_cells_18)), (a_p1, .inr (0, [.int p1_bags, .int p1_men, .ref a_p1_bagKinds, .ref a_p1_manKinds, .ref a_p1_cells])), (a_p1_bagKinds, .inl (cI, 3, .inl p1_bagKinds)), (a_p1_manKinds, .inl (cI, 5, .inl p1_manKinds)), (a_p1_cells, .inl (cI, 23, .inl p1_cells))] H := hP
        have hD : va_D A [(a_t, .inr (0, [.int t_bags_18, .int t_men_18, .ref a_t_bagKinds, .ref a_t_manKinds, .ref a_t_cells])), (a_t_bagKinds, .inl (cI, 3, .inl (upd t_bagKinds_18 x2_18.toNatClampNeg (p1_bagKinds x2_18.toNatClampNeg)))), (a_t_manKinds, .inl (cI, 5, .inl t_manKinds_18)), (a_t_cells, .inl (cI, 23, .inl t_cells_18)), (a_p1, .inr (0, [.int p1_bags, .int p1_men, .ref a_p1_bagKinds, .ref a_p1_manKinds, .ref a_p1_cells])), (a_p1_bagKinds, .inl (cI, 3, .inl p1_bagKinds)), (a_p1_manKinds, .inl (cI, 5, .inl p1_manKinds)), (a_p1_cells, .inl (cI, 23, .inl p1_cells))] := hD
        obtain ⟨g_8, eg_8⟩ : ∃ g : Nat → Int32, g = (upd t_bagKinds_18 x2_18.toNatClampNeg (p1_bagKinds x2_18.toNatClampNeg)) := ⟨_, rfl⟩
        have hw := hw g_8 eg_8
        rw [← eg_8] at hP hD
        obtain ⟨y_9, ey_9⟩ : ∃ y : Int32, y = (x2_18 + (1 : Int32)) := ⟨_, rfl⟩
        have hw := hw y_9 ey_9
        refine lv_iinc (v := y_9) (lv' := [(2, .int y_9), (0, .ref a_t), (1, .ref a_p1)]) hx hb dX0_becomeAll_35 hl (k := 2) rfl (by rw [ey_9]; rfl) (by decide) rfl (fun ls hl => ?_)
        refine lv_goto (tgt := 18) hx hb dX0_becomeAll_38 (by decide) ?_
        exact ih18 g_8 y_9 H _ ls hw hP hD hS (lv_sub hl [1, 2, 0] rfl)
  have E18 : ∀ (t_bags_18 : Int32) (t_men_18 : Int32) (t_bagKinds_18 : Nat → Int32) (t_manKinds_18 : Nat → Int32) (t_cells_18 : Nat → Int32) (x2_18 : Int32) (H : Heap) (locs : List Loc) (ls : Array Slot), wpX0_becomeAll_E18 p1_bags p1_men p1_bagKinds p1_manKinds p1_cells post t_bags_18 t_men_18 t_bagKinds_18 t_manKinds_18 t_cells_18 x2_18 → va_P (dC, dI) vwCl [(a_t, .inr (0, [.int t_bags_18, .int t_men_18, .ref a_t_bagKinds, .ref a_t_manKinds, .ref a_t_cells])), (a_t_bagKinds, .inl (cI, 3, .inl t_bagKinds_18)), (a_t_manKinds, .inl (cI, 5, .inl t_manKinds_18)), (a_t_cells, .inl (cI, 23, .inl t_cells_18)), (a_p1, .inr (0, [.int p1_bags, .int p1_men, .ref a_p1_bagKinds, .ref a_p1_manKinds, .ref a_p1_cells])), (a_p1_bagKinds, .inl (cI, 3, .inl p1_bagKinds)), (a_p1_manKinds, .inl (cI, 5, .inl p1_manKinds)), (a_p1_cells, .inl (cI, 23, .inl p1_cells))] H → va_D A [(a_t, .inr (0, [.int t_bags_18, .int t_men_18, .ref a_t_bagKinds, .ref a_t_manKinds, .ref a_t_cells])), (a_t_bagKinds, .inl (cI, 3, .inl t_bagKinds_18)), (a_t_manKinds, .inl (cI, 5, .inl t_manKinds_18)), (a_t_cells, .inl (cI, 23, .inl t_cells_18)), (a_p1, .inr (0, [.int p1_bags, .int p1_men, .ref a_p1_bagKinds, .ref a_p1_manKinds, .ref a_p1_cells])), (a_p1_bagKinds, .inl (cI, 3, .inl p1_bagKinds)), (a_p1_manKinds, .inl (cI, 5, .inl p1_manKinds)), (a_p1_cells, .inl (cI, 23, .inl p1_cells))] → va_S A s.heap H locs → lv_has ls 3 [(0, .ref a_t), (1, .ref a_p1), (2, .int x2_18)] → W p l e rmX0_becomeAll s m [.ref a_t, .ref a_p1].toArray below meth c H locs 0 0 Q (F0 m 18 ls []) := by
    intro t_bags_18 t_men_18 t_bagKinds_18 t_manKinds_18 t_cells_18 x2_18 H locs ls hw hP hD hS hl
    obtain ⟨n, hw⟩ := hw
    exact L18 t_bags_18 t_men_18 t_manKinds_18 t_cells_18 n t_bagKinds_18 x2_18 H locs ls hw hP hD hS hl
  refine lv_aload_n hx hb dX0_becomeAll_0 rfl (lv_at hl 0 rfl) ?_
  refine lv_aload_n hx hb dX0_becomeAll_1 rfl (lv_at hl 1 rfl) ?_
  refine va_get (D := (dC, dI)) (ci := 0) (v := .int p1_bags) (C := RX0) (T := TX0) (N := 5) hx hb hts inX0 hown hK hP 4 rfl rfl 0 (by decide) fl11 (fun _ h9 => h9) rfl dX0_becomeAll_2 ?_
  refine va_put (D := (dC, dI)) (ci := 0) (v := .int p1_bags) (ty := .int) (C := RX0) (T := TX0) (N := 5) hx hb hts inX0 tyX0 tyX0_ok nmX0 hown hK hP hD hS 0 rfl rfl 0 (by decide) fl11 (fun _ h9 => h9) rfl (by decide +kernel) rfl rfl (Nat.le_of_ble_eq_true rfl) dX0_becomeAll_5 (fun H locs hP hD hS => ?_)
  have hP : va_P (dC, dI) vwCl [(a_t, .inr (0, [.int p1_bags, .int t_men, .ref a_t_bagKinds, .ref a_t_manKinds, .ref a_t_cells])), (a_t_bagKinds, .inl (cI, 3, .inl t_bagKinds)), (a_t_manKinds, .inl (cI, 5, .inl t_manKinds)), (a_t_cells, .inl (cI, 23, .inl t_cells)), (a_p1, .inr (0, [.int p1_bags, .int p1_men, .ref a_p1_bagKinds, .ref a_p1_manKinds, .ref a_p1_cells])), (a_p1_bagKinds, .inl (cI, 3, .inl p1_bagKinds)), (a_p1_manKinds, .inl (cI, 5, .inl p1_manKinds)), (a_p1_cells, .inl (cI, 23, .inl p1_cells))] H := hP
  have hD : va_D A [(a_t, .inr (0, [.int p1_bags, .int t_men, .ref a_t_bagKinds, .ref a_t_manKinds, .ref a_t_cells])), (a_t_bagKinds, .inl (cI, 3, .inl t_bagKinds)), (a_t_manKinds, .inl (cI, 5, .inl t_manKinds)), (a_t_cells, .inl (cI, 23, .inl t_cells)), (a_p1, .inr (0, [.int p1_bags, .int p1_men, .ref a_p1_bagKinds, .ref a_p1_manKinds, .ref a_p1_cells])), (a_p1_bagKinds, .inl (cI, 3, .inl p1_bagKinds)), (a_p1_manKinds, .inl (cI, 5, .inl p1_manKinds)), (a_p1_cells, .inl (cI, 23, .inl p1_cells))] := hD
  refine lv_aload_n hx hb dX0_becomeAll_8 rfl (lv_at hl 0 rfl) ?_
  refine lv_aload_n hx hb dX0_becomeAll_9 rfl (lv_at hl 1 rfl) ?_
  refine va_get (D := (dC, dI)) (ci := 0) (v := .int p1_men) (C := RX0) (T := TX0) (N := 5) hx hb hts inX0 hown hK hP 4 rfl rfl 1 (by decide) fl15 (fun _ h9 => h9) rfl dX0_becomeAll_10 ?_
  refine va_put (D := (dC, dI)) (ci := 0) (v := .int p1_men) (ty := .int) (C := RX0) (T := TX0) (N := 5) hx hb hts inX0 tyX0 tyX0_ok nmX0 hown hK hP hD hS 0 rfl rfl 1 (by decide) fl15 (fun _ h9 => h9) rfl (by decide +kernel) rfl rfl (Nat.le_of_ble_eq_true rfl) dX0_becomeAll_13 (fun H locs hP hD hS => ?_)
  have hP : va_P (dC, dI) vwCl [(a_t, .inr (0, [.int p1_bags, .int p1_men, .ref a_t_bagKinds, .ref a_t_manKinds, .ref a_t_cells])), (a_t_bagKinds, .inl (cI, 3, .inl t_bagKinds)), (a_t_manKinds, .inl (cI, 5, .inl t_manKinds)), (a_t_cells, .inl (cI, 23, .inl t_cells)), (a_p1, .inr (0, [.int p1_bags, .int p1_men, .ref a_p1_bagKinds, .ref a_p1_manKinds, .ref a_p1_cells])), (a_p1_bagKinds, .inl (cI, 3, .inl p1_bagKinds)), (a_p1_manKinds, .inl (cI, 5, .inl p1_manKinds)), (a_p1_cells, .inl (cI, 23, .inl p1_cells))] H := hP
  have hD : va_D A [(a_t, .inr (0, [.int p1_bags, .int p1_men, .ref a_t_bagKinds, .ref a_t_manKinds, .ref a_t_cells])), (a_t_bagKinds, .inl (cI, 3, .inl t_bagKinds)), (a_t_manKinds, .inl (cI, 5, .inl t_manKinds)), (a_t_cells, .inl (cI, 23, .inl t_cells)), (a_p1, .inr (0, [.int p1_bags, .int p1_men, .ref a_p1_bagKinds, .ref a_p1_manKinds, .ref a_p1_cells])), (a_p1_bagKinds, .inl (cI, 3, .inl p1_bagKinds)), (a_p1_manKinds, .inl (cI, 5, .inl p1_manKinds)), (a_p1_cells, .inl (cI, 23, .inl p1_cells))] := hD
  refine lv_iconst (v := (0 : Int32)) hx hb dX0_becomeAll_16 (by decide) ?_
  refine lv_istore_n (lv' := [(2, .int (0 : Int32)), (0, .ref a_t), (1, .ref a_p1)]) hx hb dX0_becomeAll_17 rfl hl (by decide) rfl (fun ls hl => ?_)
  exact E18 p1_bags p1_men t_bagKinds t_manKinds t_cells (0 : Int32) H _ ls hw hP hD hS (lv_sub hl [1, 2, 0] rfl)

def wpX0_copyTo_J38 (n_p1 : Nat) (t_cells : Nat → Int32) (x2 : Int32) (kL2 : (Nat → Int32) → Int32 → Prop) (post : (Nat → Int32) → Prop) (p1_38 : Nat → Int32) (x3_38 : Int32) : Prop := ∀ y_1 : Int32, y_1 = (x3_38 + (1 : Int32)) → kL2 p1_38 y_1
def wpX0_copyTo_L2 (n_p1 : Nat) (t_cells : Nat → Int32) (x2 : Int32) (post : (Nat → Int32) → Prop) : Nat → (Nat → Int32) → Int32 → Prop
  | 0, _, _ => False
  | n + 1, p1_2, x3_2 => (((23 : Int32) ≤ x3_2 → post p1_2) ∧ (¬ (23 : Int32) ≤ x3_2 → ∀ y_3 : Int32, y_3 = ((x2 * (23 : Int32)) + x3_2) → ((y_3 < 0 → wpX0_copyTo_J38 n_p1 t_cells x2 (wpX0_copyTo_L2 n_p1 t_cells x2 post n) post p1_2 x3_2) ∧ (¬ y_3 < 0 → (((Int32.ofNat n_p1) ≤ y_3 → wpX0_copyTo_J38 n_p1 t_cells x2 (wpX0_copyTo_L2 n_p1 t_cells x2 post n) post p1_2 x3_2) ∧ (¬ (Int32.ofNat n_p1) ≤ y_3 → vp_in x3_2 23 ∧ (vp_in y_3 n_p1 ∧ (∀ g_6 : Nat → Int32, g_6 = (upd p1_2 y_3.toNatClampNeg (t_cells x3_2.toNatClampNeg)) → wpX0_copyTo_J38 n_p1 t_cells x2 (wpX0_copyTo_L2 n_p1 t_cells x2 post n) post g_6 x3_2))))))))
def wpX0_copyTo_E2 (n_p1 : Nat) (t_cells : Nat → Int32) (x2 : Int32) (post : (Nat → Int32) → Prop) (p1_2 : Nat → Int32) (x3_2 : Int32) : Prop := ∃ n : Nat, wpX0_copyTo_L2 n_p1 t_cells x2 post n p1_2 x3_2
def wpX0_copyTo (n_p1 : Nat) (t_cells : Nat → Int32) (p1 : Nat → Int32) (x2 : Int32) (post : (Nat → Int32) → Prop) : Prop := wpX0_copyTo_E2 n_p1 t_cells x2 post p1 (0 : Int32)
abbrev rmX0_copyTo : Room := { frames := 0, cells := 0, slots := 0, locals := 0 }
set_option maxHeartbeats 4000000 in
set_option maxRecDepth 100000 in
theorem mtX0_copyTo (l : Launch) (dC : Nat → ClassId) (dI : Nat → Nat → Nat) (cI cZ : ClassId) (a_t : Nat) (a_t_bagKinds : Nat) (a_t_manKinds : Nat) (a_t_cells : Nat) (a_p1 : Nat) (n_p1 : Nat) (sz : Nat) (d_t_bags : Int32) (d_t_men : Int32) (t_cells : Nat → Int32) (p1 : Nat → Int32) (x2 : Int32) (post : (Nat → Int32) → Prop) (hw : wpX0_copyTo n_p1 t_cells p1 x2 post) : Met l yX0_copyTo wsX0_copyTo rmX0_copyTo (va_Pc [.ref a_t, .ref a_p1, .int x2] (kvPre (dC, dI) cI cZ sz [(a_t, .inr (0, [.int d_t_bags, .int d_t_men, .ref a_t_bagKinds, .ref a_t_manKinds, .ref a_t_cells])), (a_t_cells, .inl (cI, 23, .inl t_cells)), (a_p1, .inl (cI, n_p1, .inl p1))])) (va_Qv (fun (u : (Nat → Int32)) => post u) (kvB (dC, dI) (va_A [(a_t, .inr (0, [.int d_t_bags, .int d_t_men, .ref a_t_bagKinds, .ref a_t_manKinds, .ref a_t_cells])), (a_t_cells, .inl (cI, 23, .inl t_cells)), (a_p1, .inl (cI, n_p1, .inl p1))] sz) (fun (u : (Nat → Int32)) => [(a_t, .inr (0, [.int d_t_bags, .int d_t_men, .ref a_t_bagKinds, .ref a_t_manKinds, .ref a_t_cells])), (a_t_cells, .inl (cI, 23, .inl t_cells)), (a_p1, .inl (cI, n_p1, .inl u))])) (va_A [(a_t, .inr (0, [.int d_t_bags, .int d_t_men, .ref a_t_bagKinds, .ref a_t_manKinds, .ref a_t_cells])), (a_t_cells, .inl (cI, 23, .inl t_cells)), (a_p1, .inl (cI, n_p1, .inl p1))] sz)) 0 0 (va_A [(a_t, .inr (0, [.int d_t_bags, .int d_t_men, .ref a_t_bagKinds, .ref a_t_manKinds, .ref a_t_cells])), (a_t_cells, .inl (cI, 23, .inl t_cells)), (a_p1, .inl (cI, n_p1, .inl p1))] sz) := by
  refine kv_metV (y := yX0_copyTo) (ws := wsX0_copyTo) (rm := rmX0_copyTo) (av := [.ref a_t, .ref a_p1, .int x2]) (sz := sz) (w := [(a_t, .inr (0, [.int d_t_bags, .int d_t_men, .ref a_t_bagKinds, .ref a_t_manKinds, .ref a_t_cells])), (a_t_cells, .inl (cI, 23, .inl t_cells)), (a_p1, .inl (cI, n_p1, .inl p1))]) (cc := cX0_copyTo) (maxL := 5) (own := RX0) (post := (fun (u : (Nat → Int32)) => post u)) (w1 := (fun (u : (Nat → Int32)) => [(a_t, .inr (0, [.int d_t_bags, .int d_t_men, .ref a_t_bagKinds, .ref a_t_manKinds, .ref a_t_cells])), (a_t_cells, .inl (cI, 23, .inl t_cells)), (a_p1, .inl (cI, n_p1, .inl u))])) (by decide) rfl rfl (Nat.le_of_ble_eq_true rfl) ?_
  intro p e s m below meth c A Q hx hb hml hown hts hK hX hA hP hD hsz hret ls hl
  have hS : va_S A s.heap s.heap [] := va_S.rf
  have hl : lv_has ls 5 [(0, .ref a_t), (1, .ref a_p1), (2, .int x2)] := hl
  have inX0 : ∀ w ∈ u_ws RX0 TX0 5, w ∈ wsX0_copyTo := by decide +kernel
  have fl25 := hts (.fieldLink RX0 25 "BreathBags$Camp" "cells" "[I") (by decide +kernel)
  have L2 : ∀  (n2 : Nat) (p1_2 : Nat → Int32) (x3_2 : Int32) (H : Heap) (locs : List Loc) (ls : Array Slot), wpX0_copyTo_L2 n_p1 t_cells x2 post n2 p1_2 x3_2 → va_P (dC, dI) vwCl [(a_t, .inr (0, [.int d_t_bags, .int d_t_men, .ref a_t_bagKinds, .ref a_t_manKinds, .ref a_t_cells])), (a_t_cells, .inl (cI, 23, .inl t_cells)), (a_p1, .inl (cI, n_p1, .inl p1_2))] H → va_D A [(a_t, .inr (0, [.int d_t_bags, .int d_t_men, .ref a_t_bagKinds, .ref a_t_manKinds, .ref a_t_cells])), (a_t_cells, .inl (cI, 23, .inl t_cells)), (a_p1, .inl (cI, n_p1, .inl p1_2))] → va_S A s.heap H locs → lv_has ls 5 [(0, .ref a_t), (1, .ref a_p1), (2, .int x2), (3, .int x3_2)] → W p l e rmX0_copyTo s m [.ref a_t, .ref a_p1, .int x2].toArray below meth c H locs 0 0 Q (F0 m 2 ls []) := by
    intro  n2
    induction n2 with
    | zero => intro p1_2 x3_2 H locs ls hw hP hD hS hl; exact hw.elim
    | succ n2 ih2 =>
      have B38 : ∀ (p1_38 : Nat → Int32) (x3_38 : Int32) (H : Heap) (locs : List Loc) (ls : Array Slot), wpX0_copyTo_J38 n_p1 t_cells x2 (wpX0_copyTo_L2 n_p1 t_cells x2 post n2) post p1_38 x3_38 → va_P (dC, dI) vwCl [(a_t, .inr (0, [.int d_t_bags, .int d_t_men, .ref a_t_bagKinds, .ref a_t_manKinds, .ref a_t_cells])), (a_t_cells, .inl (cI, 23, .inl t_cells)), (a_p1, .inl (cI, n_p1, .inl p1_38))] H → va_D A [(a_t, .inr (0, [.int d_t_bags, .int d_t_men, .ref a_t_bagKinds, .ref a_t_manKinds, .ref a_t_cells])), (a_t_cells, .inl (cI, 23, .inl t_cells)), (a_p1, .inl (cI, n_p1, .inl p1_38))] → va_S A s.heap H locs → lv_has ls 5 [(0, .ref a_t), (1, .ref a_p1), (2, .int x2), (3, .int x3_38)] → W p l e rmX0_copyTo s m [.ref a_t, .ref a_p1, .int x2].toArray below meth c H locs 0 0 Q (F0 m 38 ls []) := by
        intro p1_38 x3_38 H locs ls hw hP hD hS hl
        obtain ⟨y_1, ey_1⟩ : ∃ y : Int32, y = (x3_38 + (1 : Int32)) := ⟨_, rfl⟩
        have hw := hw y_1 ey_1
        refine lv_iinc (v := y_1) (lv' := [(3, .int y_1), (0, .ref a_t), (1, .ref a_p1), (2, .int x2)]) hx hb dX0_copyTo_38 hl (k := 3) rfl (by rw [ey_1]; rfl) (by decide) rfl (fun ls hl => ?_)
        refine lv_goto (tgt := 2) hx hb dX0_copyTo_41 (by decide) ?_
        exact ih2 p1_38 y_1 H _ ls hw hP hD hS (lv_sub hl [1, 2, 3, 0] rfl)
      intro p1_2 x3_2 H locs ls hw hP hD hS hl
      refine lv_iload_n hx hb dX0_copyTo_2 rfl (lv_at hl 3 rfl) ?_
      refine lv_bipush (v := (23 : Int32)) hx hb dX0_copyTo_3 (by decide) ?_
      refine lv_icmp_ge (tgt := 44) hx hb dX0_copyTo_5 (by decide) (fun c_2 => ?_) (fun c_2 => ?_)
      · have hw := hw.1 c_2
        exact hret p1_2 H _ _ ls hw hP hD hS dX0_copyTo_44
      · have hw := hw.2 c_2
        refine lv_iload_n hx hb dX0_copyTo_8 rfl (lv_at hl 2 rfl) ?_
        refine lv_bipush (v := (23 : Int32)) hx hb dX0_copyTo_9 (by decide) ?_
        refine lv_imul hx hb dX0_copyTo_11 ?_
        refine lv_iload_n hx hb dX0_copyTo_12 rfl (lv_at hl 3 rfl) ?_
        refine lv_iadd hx hb dX0_copyTo_13 ?_
        refine lv_topi (fun y_3 ey_3 => ?_)
        have hw := hw y_3 ey_3
        refine lv_istore (lv' := [(4, .int y_3), (0, .ref a_t), (1, .ref a_p1), (2, .int x2), (3, .int x3_2)]) hx hb dX0_copyTo_14 hl (by decide) rfl (fun ls hl => ?_)
        refine lv_iload hx hb dX0_copyTo_16 (lv_at hl 0 rfl) ?_
        refine lv_if_lt (tgt := 38) hx hb dX0_copyTo_18 (by decide) (fun c_4 => ?_) (fun c_4 => ?_)
        · have hw := hw.1 c_4
          exact B38 p1_2 x3_2 H _ ls hw hP hD hS (lv_sub hl [1, 2, 3, 4] rfl)
        · have hw := hw.2 c_4
          refine lv_iload hx hb dX0_copyTo_21 (lv_at hl 0 rfl) ?_
          refine lv_aload_n hx hb dX0_copyTo_23 rfl (lv_at hl 2 rfl) ?_
          refine va_alen (v := (Int32.ofNat n_p1)) hx hb hK hP 2 0 rfl rfl rfl dX0_copyTo_24 ?_
          refine lv_icmp_ge (tgt := 38) hx hb dX0_copyTo_25 (by decide) (fun c_5 => ?_) (fun c_5 => ?_)
          · have hw := hw.1 c_5
            exact B38 p1_2 x3_2 H _ ls hw hP hD hS (lv_sub hl [1, 2, 3, 4] rfl)
          · have hw := hw.2 c_5
            refine lv_aload_n hx hb dX0_copyTo_28 rfl (lv_at hl 2 rfl) ?_
            refine lv_iload hx hb dX0_copyTo_29 (lv_at hl 0 rfl) ?_
            refine lv_aload_n hx hb dX0_copyTo_31 rfl (lv_at hl 1 rfl) ?_
            refine va_get (D := (dC, dI)) (ci := 0) (v := .ref a_t_cells) (C := RX0) (T := TX0) (N := 5) hx hb hts inX0 hown hK hP 0 rfl rfl 4 (by decide) fl25 (fun _ h9 => h9) rfl dX0_copyTo_32 ?_
            refine lv_iload_n hx hb dX0_copyTo_35 rfl (lv_at hl 4 rfl) ?_
            refine va_iald hx hb hK hP 1 0 rfl rfl hw.1 dX0_copyTo_36 ?_
            have hw := hw.2
            refine va_iast hx hb hK hP hD hS 2 0 rfl rfl hw.1 dX0_copyTo_37 (fun H locs hP hD hS => ?_)
            have hw := hw.2
            have hP : va_P (dC, dI) vwCl [(a_t, .inr (0, [.int d_t_bags, .int d_t_men, .ref a_t_bagKinds, .ref a_t_manKinds, .ref a_t_cells])), (a_t_cells, .inl (cI, 23, .inl t_cells)), (a_p1, .inl (cI, n_p1, .inl (upd p1_2 y_3.toNatClampNeg (t_cells x3_2.toNatClampNeg))))] H := hP
            have hD : va_D A [(a_t, .inr (0, [.int d_t_bags, .int d_t_men, .ref a_t_bagKinds, .ref a_t_manKinds, .ref a_t_cells])), (a_t_cells, .inl (cI, 23, .inl t_cells)), (a_p1, .inl (cI, n_p1, .inl (upd p1_2 y_3.toNatClampNeg (t_cells x3_2.toNatClampNeg))))] := hD
            obtain ⟨g_6, eg_6⟩ : ∃ g : Nat → Int32, g = (upd p1_2 y_3.toNatClampNeg (t_cells x3_2.toNatClampNeg)) := ⟨_, rfl⟩
            have hw := hw g_6 eg_6
            rw [← eg_6] at hP hD
            exact B38 g_6 x3_2 H _ ls hw hP hD hS (lv_sub hl [1, 2, 3, 4] rfl)
  have E2 : ∀ (p1_2 : Nat → Int32) (x3_2 : Int32) (H : Heap) (locs : List Loc) (ls : Array Slot), wpX0_copyTo_E2 n_p1 t_cells x2 post p1_2 x3_2 → va_P (dC, dI) vwCl [(a_t, .inr (0, [.int d_t_bags, .int d_t_men, .ref a_t_bagKinds, .ref a_t_manKinds, .ref a_t_cells])), (a_t_cells, .inl (cI, 23, .inl t_cells)), (a_p1, .inl (cI, n_p1, .inl p1_2))] H → va_D A [(a_t, .inr (0, [.int d_t_bags, .int d_t_men, .ref a_t_bagKinds, .ref a_t_manKinds, .ref a_t_cells])), (a_t_cells, .inl (cI, 23, .inl t_cells)), (a_p1, .inl (cI, n_p1, .inl p1_2))] → va_S A s.heap H locs → lv_has ls 5 [(0, .ref a_t), (1, .ref a_p1), (2, .int x2), (3, .int x3_2)] → W p l e rmX0_copyTo s m [.ref a_t, .ref a_p1, .int x2].toArray below meth c H locs 0 0 Q (F0 m 2 ls []) := by
    intro p1_2 x3_2 H locs ls hw hP hD hS hl
    obtain ⟨n, hw⟩ := hw
    exact L2  n p1_2 x3_2 H locs ls hw hP hD hS hl
  refine lv_iconst (v := (0 : Int32)) hx hb dX0_copyTo_0 (by decide) ?_
  refine lv_istore_n (lv' := [(3, .int (0 : Int32)), (0, .ref a_t), (1, .ref a_p1), (2, .int x2)]) hx hb dX0_copyTo_1 rfl hl (by decide) rfl (fun ls hl => ?_)
  exact E2 p1 (0 : Int32) s.heap _ ls hw hP hD hS (lv_sub hl [1, 2, 3, 0] rfl)

def wpX0_copyFrom_J38 (n_p1 : Nat) (p1 : Nat → Int32) (x2 : Int32) (kL2 : (Nat → Int32) → Int32 → Prop) (post : (Nat → Int32) → Prop) (t_cells_38 : Nat → Int32) (x3_38 : Int32) : Prop := ∀ y_1 : Int32, y_1 = (x3_38 + (1 : Int32)) → kL2 t_cells_38 y_1
def wpX0_copyFrom_L2 (n_p1 : Nat) (p1 : Nat → Int32) (x2 : Int32) (post : (Nat → Int32) → Prop) : Nat → (Nat → Int32) → Int32 → Prop
  | 0, _, _ => False
  | n + 1, t_cells_2, x3_2 => (((23 : Int32) ≤ x3_2 → post t_cells_2) ∧ (¬ (23 : Int32) ≤ x3_2 → ∀ y_3 : Int32, y_3 = ((x2 * (23 : Int32)) + x3_2) → ((y_3 < 0 → wpX0_copyFrom_J38 n_p1 p1 x2 (wpX0_copyFrom_L2 n_p1 p1 x2 post n) post t_cells_2 x3_2) ∧ (¬ y_3 < 0 → (((Int32.ofNat n_p1) ≤ y_3 → wpX0_copyFrom_J38 n_p1 p1 x2 (wpX0_copyFrom_L2 n_p1 p1 x2 post n) post t_cells_2 x3_2) ∧ (¬ (Int32.ofNat n_p1) ≤ y_3 → vp_in y_3 n_p1 ∧ (vp_in x3_2 23 ∧ (∀ g_6 : Nat → Int32, g_6 = (upd t_cells_2 x3_2.toNatClampNeg (p1 y_3.toNatClampNeg)) → wpX0_copyFrom_J38 n_p1 p1 x2 (wpX0_copyFrom_L2 n_p1 p1 x2 post n) post g_6 x3_2))))))))
def wpX0_copyFrom_E2 (n_p1 : Nat) (p1 : Nat → Int32) (x2 : Int32) (post : (Nat → Int32) → Prop) (t_cells_2 : Nat → Int32) (x3_2 : Int32) : Prop := ∃ n : Nat, wpX0_copyFrom_L2 n_p1 p1 x2 post n t_cells_2 x3_2
def wpX0_copyFrom (n_p1 : Nat) (t_cells : Nat → Int32) (p1 : Nat → Int32) (x2 : Int32) (post : (Nat → Int32) → Prop) : Prop := wpX0_copyFrom_E2 n_p1 p1 x2 post t_cells (0 : Int32)
abbrev rmX0_copyFrom : Room := { frames := 0, cells := 0, slots := 0, locals := 0 }
set_option maxHeartbeats 4000000 in
set_option maxRecDepth 100000 in
theorem mtX0_copyFrom (l : Launch) (dC : Nat → ClassId) (dI : Nat → Nat → Nat) (cI cZ : ClassId) (a_t : Nat) (a_t_bagKinds : Nat) (a_t_manKinds : Nat) (a_t_cells : Nat) (a_p1 : Nat) (n_p1 : Nat) (sz : Nat) (d_t_bags : Int32) (d_t_men : Int32) (t_cells : Nat → Int32) (p1 : Nat → Int32) (x2 : Int32) (post : (Nat → Int32) → Prop) (hw : wpX0_copyFrom n_p1 t_cells p1 x2 post) : Met l yX0_copyFrom wsX0_copyFrom rmX0_copyFrom (va_Pc [.ref a_t, .ref a_p1, .int x2] (kvPre (dC, dI) cI cZ sz [(a_t, .inr (0, [.int d_t_bags, .int d_t_men, .ref a_t_bagKinds, .ref a_t_manKinds, .ref a_t_cells])), (a_t_cells, .inl (cI, 23, .inl t_cells)), (a_p1, .inl (cI, n_p1, .inl p1))])) (va_Qv (fun (u : (Nat → Int32)) => post u) (kvB (dC, dI) (va_A [(a_t, .inr (0, [.int d_t_bags, .int d_t_men, .ref a_t_bagKinds, .ref a_t_manKinds, .ref a_t_cells])), (a_t_cells, .inl (cI, 23, .inl t_cells)), (a_p1, .inl (cI, n_p1, .inl p1))] sz) (fun (u : (Nat → Int32)) => [(a_t, .inr (0, [.int d_t_bags, .int d_t_men, .ref a_t_bagKinds, .ref a_t_manKinds, .ref a_t_cells])), (a_t_cells, .inl (cI, 23, .inl u)), (a_p1, .inl (cI, n_p1, .inl p1))])) (va_A [(a_t, .inr (0, [.int d_t_bags, .int d_t_men, .ref a_t_bagKinds, .ref a_t_manKinds, .ref a_t_cells])), (a_t_cells, .inl (cI, 23, .inl t_cells)), (a_p1, .inl (cI, n_p1, .inl p1))] sz)) 0 0 (va_A [(a_t, .inr (0, [.int d_t_bags, .int d_t_men, .ref a_t_bagKinds, .ref a_t_manKinds, .ref a_t_cells])), (a_t_cells, .inl (cI, 23, .inl t_cells)), (a_p1, .inl (cI, n_p1, .inl p1))] sz) := by
  refine kv_metV (y := yX0_copyFrom) (ws := wsX0_copyFrom) (rm := rmX0_copyFrom) (av := [.ref a_t, .ref a_p1, .int x2]) (sz := sz) (w := [(a_t, .inr (0, [.int d_t_bags, .int d_t_men, .ref a_t_bagKinds, .ref a_t_manKinds, .ref a_t_cells])), (a_t_cells, .inl (cI, 23, .inl t_cells)), (a_p1, .inl (cI, n_p1, .inl p1))]) (cc := cX0_copyFrom) (maxL := 5) (own := RX0) (post := (fun (u : (Nat → Int32)) => post u)) (w1 := (fun (u : (Nat → Int32)) => [(a_t, .inr (0, [.int d_t_bags, .int d_t_men, .ref a_t_bagKinds, .ref a_t_manKinds, .ref a_t_cells])), (a_t_cells, .inl (cI, 23, .inl u)), (a_p1, .inl (cI, n_p1, .inl p1))])) (by decide) rfl rfl (Nat.le_of_ble_eq_true rfl) ?_
  intro p e s m below meth c A Q hx hb hml hown hts hK hX hA hP hD hsz hret ls hl
  have hS : va_S A s.heap s.heap [] := va_S.rf
  have hl : lv_has ls 5 [(0, .ref a_t), (1, .ref a_p1), (2, .int x2)] := hl
  have inX0 : ∀ w ∈ u_ws RX0 TX0 5, w ∈ wsX0_copyFrom := by decide +kernel
  have fl25 := hts (.fieldLink RX0 25 "BreathBags$Camp" "cells" "[I") (by decide +kernel)
  have L2 : ∀  (n2 : Nat) (t_cells_2 : Nat → Int32) (x3_2 : Int32) (H : Heap) (locs : List Loc) (ls : Array Slot), wpX0_copyFrom_L2 n_p1 p1 x2 post n2 t_cells_2 x3_2 → va_P (dC, dI) vwCl [(a_t, .inr (0, [.int d_t_bags, .int d_t_men, .ref a_t_bagKinds, .ref a_t_manKinds, .ref a_t_cells])), (a_t_cells, .inl (cI, 23, .inl t_cells_2)), (a_p1, .inl (cI, n_p1, .inl p1))] H → va_D A [(a_t, .inr (0, [.int d_t_bags, .int d_t_men, .ref a_t_bagKinds, .ref a_t_manKinds, .ref a_t_cells])), (a_t_cells, .inl (cI, 23, .inl t_cells_2)), (a_p1, .inl (cI, n_p1, .inl p1))] → va_S A s.heap H locs → lv_has ls 5 [(0, .ref a_t), (1, .ref a_p1), (2, .int x2), (3, .int x3_2)] → W p l e rmX0_copyFrom s m [.ref a_t, .ref a_p1, .int x2].toArray below meth c H locs 0 0 Q (F0 m 2 ls []) := by
    intro  n2
    induction n2 with
    | zero => intro t_cells_2 x3_2 H locs ls hw hP hD hS hl; exact hw.elim
    | succ n2 ih2 =>
      have B38 : ∀ (t_cells_38 : Nat → Int32) (x3_38 : Int32) (H : Heap) (locs : List Loc) (ls : Array Slot), wpX0_copyFrom_J38 n_p1 p1 x2 (wpX0_copyFrom_L2 n_p1 p1 x2 post n2) post t_cells_38 x3_38 → va_P (dC, dI) vwCl [(a_t, .inr (0, [.int d_t_bags, .int d_t_men, .ref a_t_bagKinds, .ref a_t_manKinds, .ref a_t_cells])), (a_t_cells, .inl (cI, 23, .inl t_cells_38)), (a_p1, .inl (cI, n_p1, .inl p1))] H → va_D A [(a_t, .inr (0, [.int d_t_bags, .int d_t_men, .ref a_t_bagKinds, .ref a_t_manKinds, .ref a_t_cells])), (a_t_cells, .inl (cI, 23, .inl t_cells_38)), (a_p1, .inl (cI, n_p1, .inl p1))] → va_S A s.heap H locs → lv_has ls 5 [(0, .ref a_t), (1, .ref a_p1), (2, .int x2), (3, .int x3_38)] → W p l e rmX0_copyFrom s m [.ref a_t, .ref a_p1, .int x2].toArray below meth c H locs 0 0 Q (F0 m 38 ls []) := by
        intro t_cells_38 x3_38 H locs ls hw hP hD hS hl
        obtain ⟨y_1, ey_1⟩ : ∃ y : Int32, y = (x3_38 + (1 : Int32)) := ⟨_, rfl⟩
        have hw := hw y_1 ey_1
        refine lv_iinc (v := y_1) (lv' := [(3, .int y_1), (0, .ref a_t), (1, .ref a_p1), (2, .int x2)]) hx hb dX0_copyFrom_38 hl (k := 3) rfl (by rw [ey_1]; rfl) (by decide) rfl (fun ls hl => ?_)
        refine lv_goto (tgt := 2) hx hb dX0_copyFrom_41 (by decide) ?_
        exact ih2 t_cells_38 y_1 H _ ls hw hP hD hS (lv_sub hl [1, 2, 3, 0] rfl)
      intro t_cells_2 x3_2 H locs ls hw hP hD hS hl
      refine lv_iload_n hx hb dX0_copyFrom_2 rfl (lv_at hl 3 rfl) ?_
      refine lv_bipush (v := (23 : Int32)) hx hb dX0_copyFrom_3 (by decide) ?_
      refine lv_icmp_ge (tgt := 44) hx hb dX0_copyFrom_5 (by decide) (fun c_2 => ?_) (fun c_2 => ?_)
      · have hw := hw.1 c_2
        exact hret t_cells_2 H _ _ ls hw hP hD hS dX0_copyFrom_44
      · have hw := hw.2 c_2
        refine lv_iload_n hx hb dX0_copyFrom_8 rfl (lv_at hl 2 rfl) ?_
        refine lv_bipush (v := (23 : Int32)) hx hb dX0_copyFrom_9 (by decide) ?_
        refine lv_imul hx hb dX0_copyFrom_11 ?_
        refine lv_iload_n hx hb dX0_copyFrom_12 rfl (lv_at hl 3 rfl) ?_
        refine lv_iadd hx hb dX0_copyFrom_13 ?_
        refine lv_topi (fun y_3 ey_3 => ?_)
        have hw := hw y_3 ey_3
        refine lv_istore (lv' := [(4, .int y_3), (0, .ref a_t), (1, .ref a_p1), (2, .int x2), (3, .int x3_2)]) hx hb dX0_copyFrom_14 hl (by decide) rfl (fun ls hl => ?_)
        refine lv_iload hx hb dX0_copyFrom_16 (lv_at hl 0 rfl) ?_
        refine lv_if_lt (tgt := 38) hx hb dX0_copyFrom_18 (by decide) (fun c_4 => ?_) (fun c_4 => ?_)
        · have hw := hw.1 c_4
          exact B38 t_cells_2 x3_2 H _ ls hw hP hD hS (lv_sub hl [1, 2, 3, 4] rfl)
        · have hw := hw.2 c_4
          refine lv_iload hx hb dX0_copyFrom_21 (lv_at hl 0 rfl) ?_
          refine lv_aload_n hx hb dX0_copyFrom_23 rfl (lv_at hl 2 rfl) ?_
          refine va_alen (v := (Int32.ofNat n_p1)) hx hb hK hP 2 0 rfl rfl rfl dX0_copyFrom_24 ?_
          refine lv_icmp_ge (tgt := 38) hx hb dX0_copyFrom_25 (by decide) (fun c_5 => ?_) (fun c_5 => ?_)
          · have hw := hw.1 c_5
            exact B38 t_cells_2 x3_2 H _ ls hw hP hD hS (lv_sub hl [1, 2, 3, 4] rfl)
          · have hw := hw.2 c_5
            refine lv_aload_n hx hb dX0_copyFrom_28 rfl (lv_at hl 1 rfl) ?_
            refine va_get (D := (dC, dI)) (ci := 0) (v := .ref a_t_cells) (C := RX0) (T := TX0) (N := 5) hx hb hts inX0 hown hK hP 0 rfl rfl 4 (by decide) fl25 (fun _ h9 => h9) rfl dX0_copyFrom_29 ?_
            refine lv_iload_n hx hb dX0_copyFrom_32 rfl (lv_at hl 4 rfl) ?_
            refine lv_aload_n hx hb dX0_copyFrom_33 rfl (lv_at hl 2 rfl) ?_
            refine lv_iload hx hb dX0_copyFrom_34 (lv_at hl 0 rfl) ?_
            refine va_iald hx hb hK hP 2 0 rfl rfl hw.1 dX0_copyFrom_36 ?_
            have hw := hw.2
            refine va_iast hx hb hK hP hD hS 1 0 rfl rfl hw.1 dX0_copyFrom_37 (fun H locs hP hD hS => ?_)
            have hw := hw.2
            have hP : va_P (dC, dI) vwCl [(a_t, .inr (0, [.int d_t_bags, .int d_t_men, .ref a_t_bagKinds, .ref a_t_manKinds, .ref a_t_cells])), (a_t_cells, .inl (cI, 23, .inl (upd t_cells_2 x3_2.toNatClampNeg (p1 y_3.toNatClampNeg)))), (a_p1, .inl (cI, n_p1, .inl p1))] H := hP
            have hD : va_D A [(a_t, .inr (0, [.int d_t_bags, .int d_t_men, .ref a_t_bagKinds, .ref a_t_manKinds, .ref a_t_cells])), (a_t_cells, .inl (cI, 23, .inl (upd t_cells_2 x3_2.toNatClampNeg (p1 y_3.toNatClampNeg)))), (a_p1, .inl (cI, n_p1, .inl p1))] := hD
            obtain ⟨g_6, eg_6⟩ : ∃ g : Nat → Int32, g = (upd t_cells_2 x3_2.toNatClampNeg (p1 y_3.toNatClampNeg)) := ⟨_, rfl⟩
            have hw := hw g_6 eg_6
            rw [← eg_6] at hP hD
            exact B38 g_6 x3_2 H _ ls hw hP hD hS (lv_sub hl [1, 2, 3, 4] rfl)
  have E2 : ∀ (t_cells_2 : Nat → Int32) (x3_2 : Int32) (H : Heap) (locs : List Loc) (ls : Array Slot), wpX0_copyFrom_E2 n_p1 p1 x2 post t_cells_2 x3_2 → va_P (dC, dI) vwCl [(a_t, .inr (0, [.int d_t_bags, .int d_t_men, .ref a_t_bagKinds, .ref a_t_manKinds, .ref a_t_cells])), (a_t_cells, .inl (cI, 23, .inl t_cells_2)), (a_p1, .inl (cI, n_p1, .inl p1))] H → va_D A [(a_t, .inr (0, [.int d_t_bags, .int d_t_men, .ref a_t_bagKinds, .ref a_t_manKinds, .ref a_t_cells])), (a_t_cells, .inl (cI, 23, .inl t_cells_2)), (a_p1, .inl (cI, n_p1, .inl p1))] → va_S A s.heap H locs → lv_has ls 5 [(0, .ref a_t), (1, .ref a_p1), (2, .int x2), (3, .int x3_2)] → W p l e rmX0_copyFrom s m [.ref a_t, .ref a_p1, .int x2].toArray below meth c H locs 0 0 Q (F0 m 2 ls []) := by
    intro t_cells_2 x3_2 H locs ls hw hP hD hS hl
    obtain ⟨n, hw⟩ := hw
    exact L2  n t_cells_2 x3_2 H locs ls hw hP hD hS hl
  refine lv_iconst (v := (0 : Int32)) hx hb dX0_copyFrom_0 (by decide) ?_
  refine lv_istore_n (lv' := [(3, .int (0 : Int32)), (0, .ref a_t), (1, .ref a_p1), (2, .int x2)]) hx hb dX0_copyFrom_1 rfl hl (by decide) rfl (fun ls hl => ?_)
  exact E2 t_cells (0 : Int32) s.heap _ ls hw hP hD hS (lv_sub hl [1, 2, 3, 0] rfl)

def wpX0_addBag (t_bags : Int32) (t_bagKinds : Nat → Int32) (x1 : Int32) (post : Int32 → (Nat → Int32) → Prop) : Prop := ((t_bags < 0 → post t_bags t_bagKinds) ∧ (¬ t_bags < 0 → (((3 : Int32) ≤ t_bags → post t_bags t_bagKinds) ∧ (¬ (3 : Int32) ≤ t_bags → vp_in t_bags 3 ∧ (∀ g_3 : Nat → Int32, g_3 = (upd t_bagKinds t_bags.toNatClampNeg x1) → ∀ y_4 : Int32, y_4 = (t_bags + (1 : Int32)) → post y_4 g_3)))))
abbrev rmX0_addBag : Room := { frames := 0, cells := 0, slots := 0, locals := 0 }
set_option maxHeartbeats 4000000 in
set_option maxRecDepth 100000 in
theorem mtX0_addBag (l : Launch) (dC : Nat → ClassId) (dI : Nat → Nat → Nat) (cI cZ : ClassId) (a_t : Nat) (a_t_bagKinds : Nat) (a_t_manKinds : Nat) (a_t_cells : Nat) (sz : Nat) (t_bags : Int32) (d_t_men : Int32) (t_bagKinds : Nat → Int32) (x1 : Int32) (post : Int32 → (Nat → Int32) → Prop) (hw : wpX0_addBag t_bags t_bagKinds x1 post) : Met l yX0_addBag wsX0_addBag rmX0_addBag (va_Pc [.ref a_t, .int x1] (kvPre (dC, dI) cI cZ sz [(a_t, .inr (0, [.int t_bags, .int d_t_men, .ref a_t_bagKinds, .ref a_t_manKinds, .ref a_t_cells])), (a_t_bagKinds, .inl (cI, 3, .inl t_bagKinds))])) (va_Qv (fun (u : Int32 × (Nat → Int32)) => post u.1 u.2) (kvB (dC, dI) (va_A [(a_t, .inr (0, [.int t_bags, .int d_t_men, .ref a_t_bagKinds, .ref a_t_manKinds, .ref a_t_cells])), (a_t_bagKinds, .inl (cI, 3, .inl t_bagKinds))] sz) (fun (u : Int32 × (Nat → Int32)) => [(a_t, .inr (0, [.int u.1, .int d_t_men, .ref a_t_bagKinds, .ref a_t_manKinds, .ref a_t_cells])), (a_t_bagKinds, .inl (cI, 3, .inl u.2))])) (va_A [(a_t, .inr (0, [.int t_bags, .int d_t_men, .ref a_t_bagKinds, .ref a_t_manKinds, .ref a_t_cells])), (a_t_bagKinds, .inl (cI, 3, .inl t_bagKinds))] sz)) 0 0 (va_A [(a_t, .inr (0, [.int t_bags, .int d_t_men, .ref a_t_bagKinds, .ref a_t_manKinds, .ref a_t_cells])), (a_t_bagKinds, .inl (cI, 3, .inl t_bagKinds))] sz) := by
  refine kv_metV (y := yX0_addBag) (ws := wsX0_addBag) (rm := rmX0_addBag) (av := [.ref a_t, .int x1]) (sz := sz) (w := [(a_t, .inr (0, [.int t_bags, .int d_t_men, .ref a_t_bagKinds, .ref a_t_manKinds, .ref a_t_cells])), (a_t_bagKinds, .inl (cI, 3, .inl t_bagKinds))]) (cc := cX0_addBag) (maxL := 2) (own := RX0) (post := (fun (u : Int32 × (Nat → Int32)) => post u.1 u.2)) (w1 := (fun (u : Int32 × (Nat → Int32)) => [(a_t, .inr (0, [.int u.1, .int d_t_men, .ref a_t_bagKinds, .ref a_t_manKinds, .ref a_t_cells])), (a_t_bagKinds, .inl (cI, 3, .inl u.2))])) (by decide) rfl rfl (Nat.le_of_ble_eq_true rfl) ?_
  intro p e s m below meth c A Q hx hb hml hown hts hK hX hA hP hD hsz hret ls hl
  have hS : va_S A s.heap s.heap [] := va_S.rf
  have hl : lv_has ls 2 [(0, .ref a_t), (1, .int x1)] := hl
  have inX0 : ∀ w ∈ u_ws RX0 TX0 5, w ∈ wsX0_addBag := by decide +kernel
  have fl11 := hts (.fieldLink RX0 11 "BreathBags$Camp" "bags" "I") (by decide +kernel)
  have fl18 := hts (.fieldLink RX0 18 "BreathBags$Camp" "bagKinds" "[I") (by decide +kernel)
  refine lv_aload_n hx hb dX0_addBag_0 rfl (lv_at hl 0 rfl) ?_
  refine va_get (D := (dC, dI)) (ci := 0) (v := .int t_bags) (C := RX0) (T := TX0) (N := 5) hx hb hts inX0 hown hK hP 0 rfl rfl 0 (by decide) fl11 (fun _ h9 => h9) rfl dX0_addBag_1 ?_
  refine lv_if_lt (tgt := 39) hx hb dX0_addBag_4 (by decide) (fun c_1 => ?_) (fun c_1 => ?_)
  · have hw := hw.1 c_1
    exact hret (t_bags, t_bagKinds) s.heap _ _ ls hw hP hD hS dX0_addBag_39
  · have hw := hw.2 c_1
    refine lv_aload_n hx hb dX0_addBag_7 rfl (lv_at hl 0 rfl) ?_
    refine va_get (D := (dC, dI)) (ci := 0) (v := .int t_bags) (C := RX0) (T := TX0) (N := 5) hx hb hts inX0 hown hK hP 0 rfl rfl 0 (by decide) fl11 (fun _ h9 => h9) rfl dX0_addBag_8 ?_
    refine lv_aload_n hx hb dX0_addBag_11 rfl (lv_at hl 0 rfl) ?_
    refine va_get (D := (dC, dI)) (ci := 0) (v := .ref a_t_bagKinds) (C := RX0) (T := TX0) (N := 5) hx hb hts inX0 hown hK hP 0 rfl rfl 2 (by decide) fl18 (fun _ h9 => h9) rfl dX0_addBag_12 ?_
    refine va_alen (v := (3 : Int32)) hx hb hK hP 1 0 rfl rfl rfl dX0_addBag_15 ?_
    refine lv_icmp_ge (tgt := 39) hx hb dX0_addBag_16 (by decide) (fun c_2 => ?_) (fun c_2 => ?_)
    · have hw := hw.1 c_2
      exact hret (t_bags, t_bagKinds) s.heap _ _ ls hw hP hD hS dX0_addBag_39
    · have hw := hw.2 c_2
      refine lv_aload_n hx hb dX0_addBag_19 rfl (lv_at hl 0 rfl) ?_
      refine va_get (D := (dC, dI)) (ci := 0) (v := .ref a_t_bagKinds) (C := RX0) (T := TX0) (N := 5) hx hb hts inX0 hown hK hP 0 rfl rfl 2 (by decide) fl18 (fun _ h9 => h9) rfl dX0_addBag_20 ?_
      refine lv_aload_n hx hb dX0_addBag_23 rfl (lv_at hl 0 rfl) ?_
      refine va_get (D := (dC, dI)) (ci := 0) (v := .int t_bags) (C := RX0) (T := TX0) (N := 5) hx hb hts inX0 hown hK hP 0 rfl rfl 0 (by decide) fl11 (fun _ h9 => h9) rfl dX0_addBag_24 ?_
      refine lv_iload_n hx hb dX0_addBag_27 rfl (lv_at hl 1 rfl) ?_
      refine va_iast hx hb hK hP hD hS 1 0 rfl rfl hw.1 dX0_addBag_28 (fun H locs hP hD hS => ?_)
      have hw := hw.2
      have hP : va_P (dC, dI) vwCl [(a_t, .inr (0, [.int t_bags, .int d_t_men, .ref a_t_bagKinds, .ref a_t_manKinds, .ref a_t_cells])), (a_t_bagKinds, .inl (cI, 3, .inl (upd t_bagKinds t_bags.toNatClampNeg x1)))] H := hP
      have hD : va_D A [(a_t, .inr (0, [.int t_bags, .int d_t_men, .ref a_t_bagKinds, .ref a_t_manKinds, .ref a_t_cells])), (a_t_bagKinds, .inl (cI, 3, .inl (upd t_bagKinds t_bags.toNatClampNeg x1)))] := hD
      obtain ⟨g_3, eg_3⟩ : ∃ g : Nat → Int32, g = (upd t_bagKinds t_bags.toNatClampNeg x1) := ⟨_, rfl⟩
      have hw := hw g_3 eg_3
      rw [← eg_3] at hP hD
      refine lv_aload_n hx hb dX0_addBag_29 rfl (lv_at hl 0 rfl) ?_
      refine lv_dup hx hb dX0_addBag_30 rfl ?_
      refine va_get (D := (dC, dI)) (ci := 0) (v := .int t_bags) (C := RX0) (T := TX0) (N := 5) hx hb hts inX0 hown hK hP 0 rfl rfl 0 (by decide) fl11 (fun _ h9 => h9) rfl dX0_addBag_31 ?_
      refine lv_iconst (v := (1 : Int32)) hx hb dX0_addBag_34 (by decide) ?_
      refine lv_iadd hx hb dX0_addBag_35 ?_
      refine lv_topi (fun y_4 ey_4 => ?_)
      have hw := hw y_4 ey_4
      refine va_put (D := (dC, dI)) (ci := 0) (v := .int y_4) (ty := .int) (C := RX0) (T := TX0) (N := 5) hx hb hts inX0 tyX0 tyX0_ok nmX0 hown hK hP hD hS 0 rfl rfl 0 (by decide) fl11 (fun _ h9 => h9) rfl (by decide +kernel) rfl rfl (Nat.le_of_ble_eq_true rfl) dX0_addBag_36 (fun H locs hP hD hS => ?_)
      have hP : va_P (dC, dI) vwCl [(a_t, .inr (0, [.int y_4, .int d_t_men, .ref a_t_bagKinds, .ref a_t_manKinds, .ref a_t_cells])), (a_t_bagKinds, .inl (cI, 3, .inl g_3))] H := hP
      have hD : va_D A [(a_t, .inr (0, [.int y_4, .int d_t_men, .ref a_t_bagKinds, .ref a_t_manKinds, .ref a_t_cells])), (a_t_bagKinds, .inl (cI, 3, .inl g_3))] := hD
      exact hret (y_4, g_3) H _ _ ls hw hP hD hS dX0_addBag_39

def wpX0_cell (t_cells : Nat → Int32) (x1 : Int32) (post : Int32 → Prop) : Prop := ((x1 < 0 → post (0 : Int32)) ∧ (¬ x1 < 0 → (((23 : Int32) ≤ x1 → post (0 : Int32)) ∧ (¬ (23 : Int32) ≤ x1 → vp_in x1 23 ∧ (post (t_cells x1.toNatClampNeg))))))
abbrev rmX0_cell : Room := { frames := 0, cells := 0, slots := 0, locals := 0 }
set_option maxHeartbeats 4000000 in
set_option maxRecDepth 100000 in
theorem mtX0_cell (l : Launch) (dC : Nat → ClassId) (dI : Nat → Nat → Nat) (cI cZ : ClassId) (a_t : Nat) (a_t_bagKinds : Nat) (a_t_manKinds : Nat) (a_t_cells : Nat) (sz : Nat) (d_t_bags : Int32) (d_t_men : Int32) (t_cells : Nat → Int32) (x1 : Int32) (post : Int32 → Prop) (hw : wpX0_cell t_cells x1 post) : Met l yX0_cell wsX0_cell rmX0_cell (va_Pc [.ref a_t, .int x1] (kvPre (dC, dI) cI cZ sz [(a_t, .inr (0, [.int d_t_bags, .int d_t_men, .ref a_t_bagKinds, .ref a_t_manKinds, .ref a_t_cells])), (a_t_cells, .inl (cI, 23, .inl t_cells))])) (va_Qi (fun (r : Int32) (u : Unit) => post r ) (kvB (dC, dI) (va_A [(a_t, .inr (0, [.int d_t_bags, .int d_t_men, .ref a_t_bagKinds, .ref a_t_manKinds, .ref a_t_cells])), (a_t_cells, .inl (cI, 23, .inl t_cells))] sz) (fun (u : Unit) => [(a_t, .inr (0, [.int d_t_bags, .int d_t_men, .ref a_t_bagKinds, .ref a_t_manKinds, .ref a_t_cells])), (a_t_cells, .inl (cI, 23, .inl t_cells))])) (va_A [(a_t, .inr (0, [.int d_t_bags, .int d_t_men, .ref a_t_bagKinds, .ref a_t_manKinds, .ref a_t_cells])), (a_t_cells, .inl (cI, 23, .inl t_cells))] sz)) 0 0 (va_A [(a_t, .inr (0, [.int d_t_bags, .int d_t_men, .ref a_t_bagKinds, .ref a_t_manKinds, .ref a_t_cells])), (a_t_cells, .inl (cI, 23, .inl t_cells))] sz) := by
  refine kv_metI (y := yX0_cell) (ws := wsX0_cell) (rm := rmX0_cell) (av := [.ref a_t, .int x1]) (sz := sz) (w := [(a_t, .inr (0, [.int d_t_bags, .int d_t_men, .ref a_t_bagKinds, .ref a_t_manKinds, .ref a_t_cells])), (a_t_cells, .inl (cI, 23, .inl t_cells))]) (cc := cX0_cell) (maxL := 2) (own := RX0) (post := (fun (r : Int32) (u : Unit) => post r )) (w1 := (fun (u : Unit) => [(a_t, .inr (0, [.int d_t_bags, .int d_t_men, .ref a_t_bagKinds, .ref a_t_manKinds, .ref a_t_cells])), (a_t_cells, .inl (cI, 23, .inl t_cells))])) (by decide) rfl rfl (Nat.le_of_ble_eq_true rfl) ?_
  intro p e s m below meth c A Q hx hb hml hown hts hK hX hA hP hD hsz hret ls hl
  have hS : va_S A s.heap s.heap [] := va_S.rf
  have hl : lv_has ls 2 [(0, .ref a_t), (1, .int x1)] := hl
  have inX0 : ∀ w ∈ u_ws RX0 TX0 5, w ∈ wsX0_cell := by decide +kernel
  have fl25 := hts (.fieldLink RX0 25 "BreathBags$Camp" "cells" "[I") (by decide +kernel)
  refine lv_iload_n hx hb dX0_cell_0 rfl (lv_at hl 1 rfl) ?_
  refine lv_if_lt (tgt := 22) hx hb dX0_cell_1 (by decide) (fun c_1 => ?_) (fun c_1 => ?_)
  · have hw := hw.1 c_1
    refine lv_iconst (v := (0 : Int32)) hx hb dX0_cell_22 (by decide) ?_
    exact hret (0 : Int32) () s.heap _ _ ls hw hP hD hS dX0_cell_23
  · have hw := hw.2 c_1
    refine lv_iload_n hx hb dX0_cell_4 rfl (lv_at hl 1 rfl) ?_
    refine lv_aload_n hx hb dX0_cell_5 rfl (lv_at hl 0 rfl) ?_
    refine va_get (D := (dC, dI)) (ci := 0) (v := .ref a_t_cells) (C := RX0) (T := TX0) (N := 5) hx hb hts inX0 hown hK hP 0 rfl rfl 4 (by decide) fl25 (fun _ h9 => h9) rfl dX0_cell_6 ?_
    refine va_alen (v := (23 : Int32)) hx hb hK hP 1 0 rfl rfl rfl dX0_cell_9 ?_
    refine lv_icmp_ge (tgt := 22) hx hb dX0_cell_10 (by decide) (fun c_2 => ?_) (fun c_2 => ?_)
    · have hw := hw.1 c_2
      refine lv_iconst (v := (0 : Int32)) hx hb dX0_cell_22 (by decide) ?_
      exact hret (0 : Int32) () s.heap _ _ ls hw hP hD hS dX0_cell_23
    · have hw := hw.2 c_2
      refine lv_aload_n hx hb dX0_cell_13 rfl (lv_at hl 0 rfl) ?_
      refine va_get (D := (dC, dI)) (ci := 0) (v := .ref a_t_cells) (C := RX0) (T := TX0) (N := 5) hx hb hts inX0 hown hK hP 0 rfl rfl 4 (by decide) fl25 (fun _ h9 => h9) rfl dX0_cell_14 ?_
      refine lv_iload_n hx hb dX0_cell_17 rfl (lv_at hl 1 rfl) ?_
      refine va_iald hx hb hK hP 1 0 rfl rfl hw.1 dX0_cell_18 ?_
      have hw := hw.2
      refine lv_goto (tgt := 23) hx hb dX0_cell_19 (by decide) ?_
      exact hret (t_cells x1.toNatClampNeg) () s.heap _ _ ls hw hP hD hS dX0_cell_23

def wpX0_setCell (t_cells : Nat → Int32) (x1 : Int32) (x2 : Int32) (post : (Nat → Int32) → Prop) : Prop := ((x1 < 0 → post t_cells) ∧ (¬ x1 < 0 → (((23 : Int32) ≤ x1 → post t_cells) ∧ (¬ (23 : Int32) ≤ x1 → vp_in x1 23 ∧ (∀ g_3 : Nat → Int32, g_3 = (upd t_cells x1.toNatClampNeg x2) → post g_3)))))
abbrev rmX0_setCell : Room := { frames := 0, cells := 0, slots := 0, locals := 0 }
set_option maxHeartbeats 4000000 in
set_option maxRecDepth 100000 in
theorem mtX0_setCell (l : Launch) (dC : Nat → ClassId) (dI : Nat → Nat → Nat) (cI cZ : ClassId) (a_t : Nat) (a_t_bagKinds : Nat) (a_t_manKinds : Nat) (a_t_cells : Nat) (sz : Nat) (d_t_bags : Int32) (d_t_men : Int32) (t_cells : Nat → Int32) (x1 : Int32) (x2 : Int32) (post : (Nat → Int32) → Prop) (hw : wpX0_setCell t_cells x1 x2 post) : Met l yX0_setCell wsX0_setCell rmX0_setCell (va_Pc [.ref a_t, .int x1, .int x2] (kvPre (dC, dI) cI cZ sz [(a_t, .inr (0, [.int d_t_bags, .int d_t_men, .ref a_t_bagKinds, .ref a_t_manKinds, .ref a_t_cells])), (a_t_cells, .inl (cI, 23, .inl t_cells))])) (va_Qv (fun (u : (Nat → Int32)) => post u) (kvB (dC, dI) (va_A [(a_t, .inr (0, [.int d_t_bags, .int d_t_men, .ref a_t_bagKinds, .ref a_t_manKinds, .ref a_t_cells])), (a_t_cells, .inl (cI, 23, .inl t_cells))] sz) (fun (u : (Nat → Int32)) => [(a_t, .inr (0, [.int d_t_bags, .int d_t_men, .ref a_t_bagKinds, .ref a_t_manKinds, .ref a_t_cells])), (a_t_cells, .inl (cI, 23, .inl u))])) (va_A [(a_t, .inr (0, [.int d_t_bags, .int d_t_men, .ref a_t_bagKinds, .ref a_t_manKinds, .ref a_t_cells])), (a_t_cells, .inl (cI, 23, .inl t_cells))] sz)) 0 0 (va_A [(a_t, .inr (0, [.int d_t_bags, .int d_t_men, .ref a_t_bagKinds, .ref a_t_manKinds, .ref a_t_cells])), (a_t_cells, .inl (cI, 23, .inl t_cells))] sz) := by
  refine kv_metV (y := yX0_setCell) (ws := wsX0_setCell) (rm := rmX0_setCell) (av := [.ref a_t, .int x1, .int x2]) (sz := sz) (w := [(a_t, .inr (0, [.int d_t_bags, .int d_t_men, .ref a_t_bagKinds, .ref a_t_manKinds, .ref a_t_cells])), (a_t_cells, .inl (cI, 23, .inl t_cells))]) (cc := cX0_setCell) (maxL := 3) (own := RX0) (post := (fun (u : (Nat → Int32)) => post u)) (w1 := (fun (u : (Nat → Int32)) => [(a_t, .inr (0, [.int d_t_bags, .int d_t_men, .ref a_t_bagKinds, .ref a_t_manKinds, .ref a_t_cells])), (a_t_cells, .inl (cI, 23, .inl u))])) (by decide) rfl rfl (Nat.le_of_ble_eq_true rfl) ?_
  intro p e s m below meth c A Q hx hb hml hown hts hK hX hA hP hD hsz hret ls hl
  have hS : va_S A s.heap s.heap [] := va_S.rf
  have hl : lv_has ls 3 [(0, .ref a_t), (1, .int x1), (2, .int x2)] := hl
  have inX0 : ∀ w ∈ u_ws RX0 TX0 5, w ∈ wsX0_setCell := by decide +kernel
  have fl25 := hts (.fieldLink RX0 25 "BreathBags$Camp" "cells" "[I") (by decide +kernel)
  refine lv_iload_n hx hb dX0_setCell_0 rfl (lv_at hl 1 rfl) ?_
  refine lv_if_lt (tgt := 20) hx hb dX0_setCell_1 (by decide) (fun c_1 => ?_) (fun c_1 => ?_)
  · have hw := hw.1 c_1
    exact hret t_cells s.heap _ _ ls hw hP hD hS dX0_setCell_20
  · have hw := hw.2 c_1
    refine lv_iload_n hx hb dX0_setCell_4 rfl (lv_at hl 1 rfl) ?_
    refine lv_aload_n hx hb dX0_setCell_5 rfl (lv_at hl 0 rfl) ?_
    refine va_get (D := (dC, dI)) (ci := 0) (v := .ref a_t_cells) (C := RX0) (T := TX0) (N := 5) hx hb hts inX0 hown hK hP 0 rfl rfl 4 (by decide) fl25 (fun _ h9 => h9) rfl dX0_setCell_6 ?_
    refine va_alen (v := (23 : Int32)) hx hb hK hP 1 0 rfl rfl rfl dX0_setCell_9 ?_
    refine lv_icmp_ge (tgt := 20) hx hb dX0_setCell_10 (by decide) (fun c_2 => ?_) (fun c_2 => ?_)
    · have hw := hw.1 c_2
      exact hret t_cells s.heap _ _ ls hw hP hD hS dX0_setCell_20
    · have hw := hw.2 c_2
      refine lv_aload_n hx hb dX0_setCell_13 rfl (lv_at hl 0 rfl) ?_
      refine va_get (D := (dC, dI)) (ci := 0) (v := .ref a_t_cells) (C := RX0) (T := TX0) (N := 5) hx hb hts inX0 hown hK hP 0 rfl rfl 4 (by decide) fl25 (fun _ h9 => h9) rfl dX0_setCell_14 ?_
      refine lv_iload_n hx hb dX0_setCell_17 rfl (lv_at hl 1 rfl) ?_
      refine lv_iload_n hx hb dX0_setCell_18 rfl (lv_at hl 2 rfl) ?_
      refine va_iast hx hb hK hP hD hS 1 0 rfl rfl hw.1 dX0_setCell_19 (fun H locs hP hD hS => ?_)
      have hw := hw.2
      have hP : va_P (dC, dI) vwCl [(a_t, .inr (0, [.int d_t_bags, .int d_t_men, .ref a_t_bagKinds, .ref a_t_manKinds, .ref a_t_cells])), (a_t_cells, .inl (cI, 23, .inl (upd t_cells x1.toNatClampNeg x2)))] H := hP
      have hD : va_D A [(a_t, .inr (0, [.int d_t_bags, .int d_t_men, .ref a_t_bagKinds, .ref a_t_manKinds, .ref a_t_cells])), (a_t_cells, .inl (cI, 23, .inl (upd t_cells x1.toNatClampNeg x2)))] := hD
      obtain ⟨g_3, eg_3⟩ : ∃ g : Nat → Int32, g = (upd t_cells x1.toNatClampNeg x2) := ⟨_, rfl⟩
      have hw := hw g_3 eg_3
      rw [← eg_3] at hP hD
      exact hret g_3 H _ _ ls hw hP hD hS dX0_setCell_20

def wpX0_addTo (t_cells : Nat → Int32) (x1 : Int32) (x2 : Int32) (post : (Nat → Int32) → Prop) : Prop := wpX0_cell t_cells x1 (fun r_1 => wpX0_setCell t_cells x1 (r_1 + x2) (fun t_cells_2 => post t_cells_2))
abbrev rmX0_addTo : Room := { frames := 1, cells := 0, slots := 0, locals := 22 }
set_option maxHeartbeats 4000000 in
set_option maxRecDepth 100000 in
theorem mtX0_addTo (l : Launch) (dC : Nat → ClassId) (dI : Nat → Nat → Nat) (cI cZ : ClassId) (a_t : Nat) (a_t_bagKinds : Nat) (a_t_manKinds : Nat) (a_t_cells : Nat) (sz : Nat) (d_t_bags : Int32) (d_t_men : Int32) (t_cells : Nat → Int32) (x1 : Int32) (x2 : Int32) (post : (Nat → Int32) → Prop) (hw : wpX0_addTo t_cells x1 x2 post) : Met l yX0_addTo wsX0_addTo rmX0_addTo (va_Pc [.ref a_t, .int x1, .int x2] (kvPre (dC, dI) cI cZ sz [(a_t, .inr (0, [.int d_t_bags, .int d_t_men, .ref a_t_bagKinds, .ref a_t_manKinds, .ref a_t_cells])), (a_t_cells, .inl (cI, 23, .inl t_cells))])) (va_Qv (fun (u : (Nat → Int32)) => post u) (kvB (dC, dI) (va_A [(a_t, .inr (0, [.int d_t_bags, .int d_t_men, .ref a_t_bagKinds, .ref a_t_manKinds, .ref a_t_cells])), (a_t_cells, .inl (cI, 23, .inl t_cells))] sz) (fun (u : (Nat → Int32)) => [(a_t, .inr (0, [.int d_t_bags, .int d_t_men, .ref a_t_bagKinds, .ref a_t_manKinds, .ref a_t_cells])), (a_t_cells, .inl (cI, 23, .inl u))])) (va_A [(a_t, .inr (0, [.int d_t_bags, .int d_t_men, .ref a_t_bagKinds, .ref a_t_manKinds, .ref a_t_cells])), (a_t_cells, .inl (cI, 23, .inl t_cells))] sz)) 0 0 (va_A [(a_t, .inr (0, [.int d_t_bags, .int d_t_men, .ref a_t_bagKinds, .ref a_t_manKinds, .ref a_t_cells])), (a_t_cells, .inl (cI, 23, .inl t_cells))] sz) := by
  refine kv_metV (y := yX0_addTo) (ws := wsX0_addTo) (rm := rmX0_addTo) (av := [.ref a_t, .int x1, .int x2]) (sz := sz) (w := [(a_t, .inr (0, [.int d_t_bags, .int d_t_men, .ref a_t_bagKinds, .ref a_t_manKinds, .ref a_t_cells])), (a_t_cells, .inl (cI, 23, .inl t_cells))]) (cc := cX0_addTo) (maxL := 3) (own := RX0) (post := (fun (u : (Nat → Int32)) => post u)) (w1 := (fun (u : (Nat → Int32)) => [(a_t, .inr (0, [.int d_t_bags, .int d_t_men, .ref a_t_bagKinds, .ref a_t_manKinds, .ref a_t_cells])), (a_t_cells, .inl (cI, 23, .inl u))])) (by decide) rfl rfl (Nat.le_of_ble_eq_true rfl) ?_
  intro p e s m below meth c A Q hx hb hml hown hts hK hX hA hP hD hsz hret ls hl
  have hS : va_S A s.heap s.heap [] := va_S.rf
  have hl : lv_has ls 3 [(0, .ref a_t), (1, .int x1), (2, .int x2)] := hl
  refine lv_aload_n hx hb dX0_addTo_0 rfl (lv_at hl 0 rfl) ?_
  refine lv_iload_n hx hb dX0_addTo_1 rfl (lv_at hl 1 rfl) ?_
  refine lv_aload_n hx hb dX0_addTo_2 rfl (lv_at hl 0 rfl) ?_
  refine lv_iload_n hx hb dX0_addTo_3 rfl (lv_at hl 1 rfl) ?_
  refine kv_callVi (wr := []) (wn := (fun (u : Unit) => [(a_t, .inr (0, [.int d_t_bags, .int d_t_men, .ref a_t_bagKinds, .ref a_t_manKinds, .ref a_t_cells])), (a_t_cells, .inl (cI, 23, .inl t_cells))])) (As := [.int x1]) (rest := [.int x1, .ref a_t]) ⟨hx, hb, hml, hown, hts⟩ hK hX hA hP hD hS (mtX0_cell l dC dI cI cZ a_t a_t_bagKinds a_t_manKinds a_t_cells s.heap.size d_t_bags d_t_men t_cells x1 _ hw) (cwV 1 hts gX0_addTo_X0_cell rfl rfl rfl (by decide +kernel) ⟨Nat.le_of_ble_eq_true rfl, Nat.le_of_ble_eq_true rfl⟩) 0 0 rfl rfl rfl [0, 1] [] [0, 1] rfl rfl rfl rfl (by decide) (fun _ => rfl) rfl rfl hl.1 rfl (Nat.le_of_ble_eq_true rfl) ⟨Nat.zero_le _, Nat.zero_le _⟩ dX0_addTo_4 (fun r_1 u H locs hw hP hD hS => ?_)
  refine lv_iload_n hx hb dX0_addTo_7 rfl (lv_at hl 2 rfl) ?_
  refine lv_iadd hx hb dX0_addTo_8 ?_
  refine kv_callVv (wr := []) (wn := (fun (u : (Nat → Int32)) => [(a_t, .inr (0, [.int d_t_bags, .int d_t_men, .ref a_t_bagKinds, .ref a_t_manKinds, .ref a_t_cells])), (a_t_cells, .inl (cI, 23, .inl u))])) (As := [.int x1, .int (r_1 + x2)]) (rest := []) ⟨hx, hb, hml, hown, hts⟩ hK hX hA hP hD hS (mtX0_setCell l dC dI cI cZ a_t a_t_bagKinds a_t_manKinds a_t_cells H.size d_t_bags d_t_men t_cells x1 (r_1 + x2) _ hw) (cwV 2 hts gX0_addTo_X0_setCell rfl rfl rfl (by decide +kernel) ⟨Nat.le_of_ble_eq_true rfl, Nat.le_of_ble_eq_true rfl⟩) 0 0 rfl rfl rfl [0, 1] [] [0, 1] rfl rfl rfl rfl (by decide) (fun _ => rfl) rfl rfl hl.1 rfl (Nat.le_of_ble_eq_true rfl) ⟨Nat.zero_le _, Nat.zero_le _⟩ dX0_addTo_9 (fun u H locs hw hP hD hS => ?_)
  obtain ⟨t_cells_2, rfl⟩ : ∃ z, z = u := ⟨_, rfl⟩
  have hP : va_P (dC, dI) vwCl [(a_t, .inr (0, [.int d_t_bags, .int d_t_men, .ref a_t_bagKinds, .ref a_t_manKinds, .ref a_t_cells])), (a_t_cells, .inl (cI, 23, .inl t_cells_2))] H := hP
  have hD : va_D A [(a_t, .inr (0, [.int d_t_bags, .int d_t_men, .ref a_t_bagKinds, .ref a_t_manKinds, .ref a_t_cells])), (a_t_cells, .inl (cI, 23, .inl t_cells_2))] := hD
  exact hret t_cells_2 H _ _ ls hw hP hD hS dX0_addTo_12

def wpX0_addMan (t_men : Int32) (t_manKinds : Nat → Int32) (t_cells : Nat → Int32) (x1 : Int32) (x2 : Int32) (post : Int32 → (Nat → Int32) → (Nat → Int32) → Prop) : Prop := ((t_men < 0 → post t_men t_manKinds t_cells) ∧ (¬ t_men < 0 → (((5 : Int32) ≤ t_men → post t_men t_manKinds t_cells) ∧ (¬ (5 : Int32) ≤ t_men → vp_in t_men 5 ∧ (∀ g_3 : Nat → Int32, g_3 = (upd t_manKinds t_men.toNatClampNeg x2) → ∀ y_4 : Int32, y_4 = (t_men + (1 : Int32)) → wpX0_addTo t_cells (((2 : Int32) + y_4) - (1 : Int32)) x1 (fun t_cells_5 => post y_4 g_3 t_cells_5))))))
abbrev rmX0_addMan : Room := { frames := 2, cells := 0, slots := 0, locals := 44 }
set_option maxHeartbeats 4000000 in
set_option maxRecDepth 100000 in
theorem mtX0_addMan (l : Launch) (dC : Nat → ClassId) (dI : Nat → Nat → Nat) (cI cZ : ClassId) (a_t : Nat) (a_t_bagKinds : Nat) (a_t_manKinds : Nat) (a_t_cells : Nat) (sz : Nat) (d_t_bags : Int32) (t_men : Int32) (t_manKinds : Nat → Int32) (t_cells : Nat → Int32) (x1 : Int32) (x2 : Int32) (post : Int32 → (Nat → Int32) → (Nat → Int32) → Prop) (hw : wpX0_addMan t_men t_manKinds t_cells x1 x2 post) : Met l yX0_addMan wsX0_addMan rmX0_addMan (va_Pc [.ref a_t, .int x1, .int x2] (kvPre (dC, dI) cI cZ sz [(a_t, .inr (0, [.int d_t_bags, .int t_men, .ref a_t_bagKinds, .ref a_t_manKinds, .ref a_t_cells])), (a_t_manKinds, .inl (cI, 5, .inl t_manKinds)), (a_t_cells, .inl (cI, 23, .inl t_cells))])) (va_Qv (fun (u : Int32 × (Nat → Int32) × (Nat → Int32)) => post u.1 u.2.1 u.2.2) (kvB (dC, dI) (va_A [(a_t, .inr (0, [.int d_t_bags, .int t_men, .ref a_t_bagKinds, .ref a_t_manKinds, .ref a_t_cells])), (a_t_manKinds, .inl (cI, 5, .inl t_manKinds)), (a_t_cells, .inl (cI, 23, .inl t_cells))] sz) (fun (u : Int32 × (Nat → Int32) × (Nat → Int32)) => [(a_t, .inr (0, [.int d_t_bags, .int u.1, .ref a_t_bagKinds, .ref a_t_manKinds, .ref a_t_cells])), (a_t_manKinds, .inl (cI, 5, .inl u.2.1)), (a_t_cells, .inl (cI, 23, .inl u.2.2))])) (va_A [(a_t, .inr (0, [.int d_t_bags, .int t_men, .ref a_t_bagKinds, .ref a_t_manKinds, .ref a_t_cells])), (a_t_manKinds, .inl (cI, 5, .inl t_manKinds)), (a_t_cells, .inl (cI, 23, .inl t_cells))] sz)) 0 0 (va_A [(a_t, .inr (0, [.int d_t_bags, .int t_men, .ref a_t_bagKinds, .ref a_t_manKinds, .ref a_t_cells])), (a_t_manKinds, .inl (cI, 5, .inl t_manKinds)), (a_t_cells, .inl (cI, 23, .inl t_cells))] sz) := by
  refine kv_metV (y := yX0_addMan) (ws := wsX0_addMan) (rm := rmX0_addMan) (av := [.ref a_t, .int x1, .int x2]) (sz := sz) (w := [(a_t, .inr (0, [.int d_t_bags, .int t_men, .ref a_t_bagKinds, .ref a_t_manKinds, .ref a_t_cells])), (a_t_manKinds, .inl (cI, 5, .inl t_manKinds)), (a_t_cells, .inl (cI, 23, .inl t_cells))]) (cc := cX0_addMan) (maxL := 3) (own := RX0) (post := (fun (u : Int32 × (Nat → Int32) × (Nat → Int32)) => post u.1 u.2.1 u.2.2)) (w1 := (fun (u : Int32 × (Nat → Int32) × (Nat → Int32)) => [(a_t, .inr (0, [.int d_t_bags, .int u.1, .ref a_t_bagKinds, .ref a_t_manKinds, .ref a_t_cells])), (a_t_manKinds, .inl (cI, 5, .inl u.2.1)), (a_t_cells, .inl (cI, 23, .inl u.2.2))])) (by decide) rfl rfl (Nat.le_of_ble_eq_true rfl) ?_
  intro p e s m below meth c A Q hx hb hml hown hts hK hX hA hP hD hsz hret ls hl
  have hS : va_S A s.heap s.heap [] := va_S.rf
  have hl : lv_has ls 3 [(0, .ref a_t), (1, .int x1), (2, .int x2)] := hl
  have inX0 : ∀ w ∈ u_ws RX0 TX0 5, w ∈ wsX0_addMan := by decide +kernel
  have fl15 := hts (.fieldLink RX0 15 "BreathBags$Camp" "men" "I") (by decide +kernel)
  have fl22 := hts (.fieldLink RX0 22 "BreathBags$Camp" "manKinds" "[I") (by decide +kernel)
  refine lv_aload_n hx hb dX0_addMan_0 rfl (lv_at hl 0 rfl) ?_
  refine va_get (D := (dC, dI)) (ci := 0) (v := .int t_men) (C := RX0) (T := TX0) (N := 5) hx hb hts inX0 hown hK hP 0 rfl rfl 1 (by decide) fl15 (fun _ h9 => h9) rfl dX0_addMan_1 ?_
  refine lv_if_lt (tgt := 52) hx hb dX0_addMan_4 (by decide) (fun c_1 => ?_) (fun c_1 => ?_)
  · have hw := hw.1 c_1
    exact hret (t_men, t_manKinds, t_cells) s.heap _ _ ls hw hP hD hS dX0_addMan_52
  · have hw := hw.2 c_1
    refine lv_aload_n hx hb dX0_addMan_7 rfl (lv_at hl 0 rfl) ?_
    refine va_get (D := (dC, dI)) (ci := 0) (v := .int t_men) (C := RX0) (T := TX0) (N := 5) hx hb hts inX0 hown hK hP 0 rfl rfl 1 (by decide) fl15 (fun _ h9 => h9) rfl dX0_addMan_8 ?_
    refine lv_aload_n hx hb dX0_addMan_11 rfl (lv_at hl 0 rfl) ?_
    refine va_get (D := (dC, dI)) (ci := 0) (v := .ref a_t_manKinds) (C := RX0) (T := TX0) (N := 5) hx hb hts inX0 hown hK hP 0 rfl rfl 3 (by decide) fl22 (fun _ h9 => h9) rfl dX0_addMan_12 ?_
    refine va_alen (v := (5 : Int32)) hx hb hK hP 1 0 rfl rfl rfl dX0_addMan_15 ?_
    refine lv_icmp_ge (tgt := 52) hx hb dX0_addMan_16 (by decide) (fun c_2 => ?_) (fun c_2 => ?_)
    · have hw := hw.1 c_2
      exact hret (t_men, t_manKinds, t_cells) s.heap _ _ ls hw hP hD hS dX0_addMan_52
    · have hw := hw.2 c_2
      refine lv_aload_n hx hb dX0_addMan_19 rfl (lv_at hl 0 rfl) ?_
      refine va_get (D := (dC, dI)) (ci := 0) (v := .ref a_t_manKinds) (C := RX0) (T := TX0) (N := 5) hx hb hts inX0 hown hK hP 0 rfl rfl 3 (by decide) fl22 (fun _ h9 => h9) rfl dX0_addMan_20 ?_
      refine lv_aload_n hx hb dX0_addMan_23 rfl (lv_at hl 0 rfl) ?_
      refine va_get (D := (dC, dI)) (ci := 0) (v := .int t_men) (C := RX0) (T := TX0) (N := 5) hx hb hts inX0 hown hK hP 0 rfl rfl 1 (by decide) fl15 (fun _ h9 => h9) rfl dX0_addMan_24 ?_
      refine lv_iload_n hx hb dX0_addMan_27 rfl (lv_at hl 2 rfl) ?_
      refine va_iast hx hb hK hP hD hS 1 0 rfl rfl hw.1 dX0_addMan_28 (fun H locs hP hD hS => ?_)
      have hw := hw.2
      have hP : va_P (dC, dI) vwCl [(a_t, .inr (0, [.int d_t_bags, .int t_men, .ref a_t_bagKinds, .ref a_t_manKinds, .ref a_t_cells])), (a_t_manKinds, .inl (cI, 5, .inl (upd t_manKinds t_men.toNatClampNeg x2))), (a_t_cells, .inl (cI, 23, .inl t_cells))] H := hP
      have hD : va_D A [(a_t, .inr (0, [.int d_t_bags, .int t_men, .ref a_t_bagKinds, .ref a_t_manKinds, .ref a_t_cells])), (a_t_manKinds, .inl (cI, 5, .inl (upd t_manKinds t_men.toNatClampNeg x2))), (a_t_cells, .inl (cI, 23, .inl t_cells))] := hD
      obtain ⟨g_3, eg_3⟩ : ∃ g : Nat → Int32, g = (upd t_manKinds t_men.toNatClampNeg x2) := ⟨_, rfl⟩
      have hw := hw g_3 eg_3
      rw [← eg_3] at hP hD
      refine lv_aload_n hx hb dX0_addMan_29 rfl (lv_at hl 0 rfl) ?_
      refine lv_dup hx hb dX0_addMan_30 rfl ?_
      refine va_get (D := (dC, dI)) (ci := 0) (v := .int t_men) (C := RX0) (T := TX0) (N := 5) hx hb hts inX0 hown hK hP 0 rfl rfl 1 (by decide) fl15 (fun _ h9 => h9) rfl dX0_addMan_31 ?_
      refine lv_iconst (v := (1 : Int32)) hx hb dX0_addMan_34 (by decide) ?_
      refine lv_iadd hx hb dX0_addMan_35 ?_
      refine lv_topi (fun y_4 ey_4 => ?_)
      have hw := hw y_4 ey_4
      refine va_put (D := (dC, dI)) (ci := 0) (v := .int y_4) (ty := .int) (C := RX0) (T := TX0) (N := 5) hx hb hts inX0 tyX0 tyX0_ok nmX0 hown hK hP hD hS 0 rfl rfl 1 (by decide) fl15 (fun _ h9 => h9) rfl (by decide +kernel) rfl rfl (Nat.le_of_ble_eq_true rfl) dX0_addMan_36 (fun H locs hP hD hS => ?_)
      have hP : va_P (dC, dI) vwCl [(a_t, .inr (0, [.int d_t_bags, .int y_4, .ref a_t_bagKinds, .ref a_t_manKinds, .ref a_t_cells])), (a_t_manKinds, .inl (cI, 5, .inl g_3)), (a_t_cells, .inl (cI, 23, .inl t_cells))] H := hP
      have hD : va_D A [(a_t, .inr (0, [.int d_t_bags, .int y_4, .ref a_t_bagKinds, .ref a_t_manKinds, .ref a_t_cells])), (a_t_manKinds, .inl (cI, 5, .inl g_3)), (a_t_cells, .inl (cI, 23, .inl t_cells))] := hD
      refine lv_aload_n hx hb dX0_addMan_39 rfl (lv_at hl 0 rfl) ?_
      refine lv_iconst (v := (2 : Int32)) hx hb dX0_addMan_40 (by decide) ?_
      refine lv_aload_n hx hb dX0_addMan_41 rfl (lv_at hl 0 rfl) ?_
      refine va_get (D := (dC, dI)) (ci := 0) (v := .int y_4) (C := RX0) (T := TX0) (N := 5) hx hb hts inX0 hown hK hP 0 rfl rfl 1 (by decide) fl15 (fun _ h9 => h9) rfl dX0_addMan_42 ?_
      refine lv_iadd hx hb dX0_addMan_45 ?_
      refine lv_iconst (v := (1 : Int32)) hx hb dX0_addMan_46 (by decide) ?_
      refine lv_isub hx hb dX0_addMan_47 ?_
      refine lv_iload_n hx hb dX0_addMan_48 rfl (lv_at hl 1 rfl) ?_
      refine kv_callVv (wr := [(a_t_manKinds, .inl (cI, 5, .inl g_3))]) (wn := (fun (u : (Nat → Int32)) => [(a_t, .inr (0, [.int d_t_bags, .int y_4, .ref a_t_bagKinds, .ref a_t_manKinds, .ref a_t_cells])), (a_t_manKinds, .inl (cI, 5, .inl g_3)), (a_t_cells, .inl (cI, 23, .inl u))])) (As := [.int (((2 : Int32) + y_4) - (1 : Int32)), .int x1]) (rest := []) ⟨hx, hb, hml, hown, hts⟩ hK hX hA hP hD hS (mtX0_addTo l dC dI cI cZ a_t a_t_bagKinds a_t_manKinds a_t_cells H.size d_t_bags y_4 t_cells (((2 : Int32) + y_4) - (1 : Int32)) x1 _ hw) (cwV 2 hts gX0_addMan_X0_addTo rfl rfl rfl (by decide +kernel) ⟨Nat.le_of_ble_eq_true rfl, Nat.le_of_ble_eq_true rfl⟩) 0 0 rfl rfl rfl [0, 2] [1] [1, 0, 2] rfl rfl rfl rfl (by decide) (fun _ => rfl) rfl rfl hl.1 rfl (Nat.le_of_ble_eq_true rfl) ⟨Nat.zero_le _, Nat.zero_le _⟩ dX0_addMan_49 (fun u H locs hw hP hD hS => ?_)
      obtain ⟨t_cells_5, rfl⟩ : ∃ z, z = u := ⟨_, rfl⟩
      have hP : va_P (dC, dI) vwCl [(a_t, .inr (0, [.int d_t_bags, .int y_4, .ref a_t_bagKinds, .ref a_t_manKinds, .ref a_t_cells])), (a_t_manKinds, .inl (cI, 5, .inl g_3)), (a_t_cells, .inl (cI, 23, .inl t_cells_5))] H := hP
      have hD : va_D A [(a_t, .inr (0, [.int d_t_bags, .int y_4, .ref a_t_bagKinds, .ref a_t_manKinds, .ref a_t_cells])), (a_t_manKinds, .inl (cI, 5, .inl g_3)), (a_t_cells, .inl (cI, 23, .inl t_cells_5))] := hD
      exact hret (y_4, g_3, t_cells_5) H _ _ ls hw hP hD hS dX0_addMan_52

def wpX0_isBag (t_bags : Int32) (x1 : Int32) (post : Int32 → Prop) : Prop := ((x1 < 0 → post (0 : Int32)) ∧ (¬ x1 < 0 → ((t_bags ≤ x1 → post (0 : Int32)) ∧ (¬ t_bags ≤ x1 → post (1 : Int32)))))
abbrev rmX0_isBag : Room := { frames := 0, cells := 0, slots := 0, locals := 0 }
set_option maxHeartbeats 4000000 in
set_option maxRecDepth 100000 in
theorem mtX0_isBag (l : Launch) (dC : Nat → ClassId) (dI : Nat → Nat → Nat) (cI cZ : ClassId) (a_t : Nat) (a_t_bagKinds : Nat) (a_t_manKinds : Nat) (a_t_cells : Nat) (sz : Nat) (t_bags : Int32) (d_t_men : Int32) (x1 : Int32) (post : Int32 → Prop) (hw : wpX0_isBag t_bags x1 post) : Met l yX0_isBag wsX0_isBag rmX0_isBag (va_Pc [.ref a_t, .int x1] (kvPre (dC, dI) cI cZ sz [(a_t, .inr (0, [.int t_bags, .int d_t_men, .ref a_t_bagKinds, .ref a_t_manKinds, .ref a_t_cells]))])) (va_Qi (fun (r : Int32) (u : Unit) => vb r ∧ post r ) (kvB (dC, dI) (va_A [(a_t, .inr (0, [.int t_bags, .int d_t_men, .ref a_t_bagKinds, .ref a_t_manKinds, .ref a_t_cells]))] sz) (fun (u : Unit) => [(a_t, .inr (0, [.int t_bags, .int d_t_men, .ref a_t_bagKinds, .ref a_t_manKinds, .ref a_t_cells]))])) (va_A [(a_t, .inr (0, [.int t_bags, .int d_t_men, .ref a_t_bagKinds, .ref a_t_manKinds, .ref a_t_cells]))] sz)) 0 0 (va_A [(a_t, .inr (0, [.int t_bags, .int d_t_men, .ref a_t_bagKinds, .ref a_t_manKinds, .ref a_t_cells]))] sz) := by
  refine kv_metZ (y := yX0_isBag) (ws := wsX0_isBag) (rm := rmX0_isBag) (av := [.ref a_t, .int x1]) (sz := sz) (w := [(a_t, .inr (0, [.int t_bags, .int d_t_men, .ref a_t_bagKinds, .ref a_t_manKinds, .ref a_t_cells]))]) (cc := cX0_isBag) (maxL := 2) (own := RX0) (post := (fun (r : Int32) (u : Unit) => post r )) (w1 := (fun (u : Unit) => [(a_t, .inr (0, [.int t_bags, .int d_t_men, .ref a_t_bagKinds, .ref a_t_manKinds, .ref a_t_cells]))])) (by decide) rfl rfl (Nat.le_of_ble_eq_true rfl) ?_
  intro p e s m below meth c A Q hx hb hml hown hts hK hX hA hP hD hsz hret ls hl
  have hS : va_S A s.heap s.heap [] := va_S.rf
  have hl : lv_has ls 2 [(0, .ref a_t), (1, .int x1)] := hl
  have inX0 : ∀ w ∈ u_ws RX0 TX0 5, w ∈ wsX0_isBag := by decide +kernel
  have fl11 := hts (.fieldLink RX0 11 "BreathBags$Camp" "bags" "I") (by decide +kernel)
  refine lv_iload_n hx hb dX0_isBag_0 rfl (lv_at hl 1 rfl) ?_
  refine lv_if_lt (tgt := 16) hx hb dX0_isBag_1 (by decide) (fun c_1 => ?_) (fun c_1 => ?_)
  · have hw := hw.1 c_1
    refine lv_iconst (v := (0 : Int32)) hx hb dX0_isBag_16 (by decide) ?_
    exact hret (0 : Int32) () s.heap _ _ ls vb0 hw hP hD hS dX0_isBag_17
  · have hw := hw.2 c_1
    refine lv_iload_n hx hb dX0_isBag_4 rfl (lv_at hl 1 rfl) ?_
    refine lv_aload_n hx hb dX0_isBag_5 rfl (lv_at hl 0 rfl) ?_
    refine va_get (D := (dC, dI)) (ci := 0) (v := .int t_bags) (C := RX0) (T := TX0) (N := 5) hx hb hts inX0 hown hK hP 0 rfl rfl 0 (by decide) fl11 (fun _ h9 => h9) rfl dX0_isBag_6 ?_
    refine lv_icmp_ge (tgt := 16) hx hb dX0_isBag_9 (by decide) (fun c_2 => ?_) (fun c_2 => ?_)
    · have hw := hw.1 c_2
      refine lv_iconst (v := (0 : Int32)) hx hb dX0_isBag_16 (by decide) ?_
      exact hret (0 : Int32) () s.heap _ _ ls vb0 hw hP hD hS dX0_isBag_17
    · have hw := hw.2 c_2
      refine lv_iconst (v := (1 : Int32)) hx hb dX0_isBag_12 (by decide) ?_
      refine lv_goto (tgt := 17) hx hb dX0_isBag_13 (by decide) ?_
      exact hret (1 : Int32) () s.heap _ _ ls vb1 hw hP hD hS dX0_isBag_17

def wpX0_isMan (t_men : Int32) (x1 : Int32) (post : Int32 → Prop) : Prop := ((x1 < 0 → post (0 : Int32)) ∧ (¬ x1 < 0 → ((t_men ≤ x1 → post (0 : Int32)) ∧ (¬ t_men ≤ x1 → post (1 : Int32)))))
abbrev rmX0_isMan : Room := { frames := 0, cells := 0, slots := 0, locals := 0 }
set_option maxHeartbeats 4000000 in
set_option maxRecDepth 100000 in
theorem mtX0_isMan (l : Launch) (dC : Nat → ClassId) (dI : Nat → Nat → Nat) (cI cZ : ClassId) (a_t : Nat) (a_t_bagKinds : Nat) (a_t_manKinds : Nat) (a_t_cells : Nat) (sz : Nat) (d_t_bags : Int32) (t_men : Int32) (x1 : Int32) (post : Int32 → Prop) (hw : wpX0_isMan t_men x1 post) : Met l yX0_isMan wsX0_isMan rmX0_isMan (va_Pc [.ref a_t, .int x1] (kvPre (dC, dI) cI cZ sz [(a_t, .inr (0, [.int d_t_bags, .int t_men, .ref a_t_bagKinds, .ref a_t_manKinds, .ref a_t_cells]))])) (va_Qi (fun (r : Int32) (u : Unit) => vb r ∧ post r ) (kvB (dC, dI) (va_A [(a_t, .inr (0, [.int d_t_bags, .int t_men, .ref a_t_bagKinds, .ref a_t_manKinds, .ref a_t_cells]))] sz) (fun (u : Unit) => [(a_t, .inr (0, [.int d_t_bags, .int t_men, .ref a_t_bagKinds, .ref a_t_manKinds, .ref a_t_cells]))])) (va_A [(a_t, .inr (0, [.int d_t_bags, .int t_men, .ref a_t_bagKinds, .ref a_t_manKinds, .ref a_t_cells]))] sz)) 0 0 (va_A [(a_t, .inr (0, [.int d_t_bags, .int t_men, .ref a_t_bagKinds, .ref a_t_manKinds, .ref a_t_cells]))] sz) := by
  refine kv_metZ (y := yX0_isMan) (ws := wsX0_isMan) (rm := rmX0_isMan) (av := [.ref a_t, .int x1]) (sz := sz) (w := [(a_t, .inr (0, [.int d_t_bags, .int t_men, .ref a_t_bagKinds, .ref a_t_manKinds, .ref a_t_cells]))]) (cc := cX0_isMan) (maxL := 2) (own := RX0) (post := (fun (r : Int32) (u : Unit) => post r )) (w1 := (fun (u : Unit) => [(a_t, .inr (0, [.int d_t_bags, .int t_men, .ref a_t_bagKinds, .ref a_t_manKinds, .ref a_t_cells]))])) (by decide) rfl rfl (Nat.le_of_ble_eq_true rfl) ?_
  intro p e s m below meth c A Q hx hb hml hown hts hK hX hA hP hD hsz hret ls hl
  have hS : va_S A s.heap s.heap [] := va_S.rf
  have hl : lv_has ls 2 [(0, .ref a_t), (1, .int x1)] := hl
  have inX0 : ∀ w ∈ u_ws RX0 TX0 5, w ∈ wsX0_isMan := by decide +kernel
  have fl15 := hts (.fieldLink RX0 15 "BreathBags$Camp" "men" "I") (by decide +kernel)
  refine lv_iload_n hx hb dX0_isMan_0 rfl (lv_at hl 1 rfl) ?_
  refine lv_if_lt (tgt := 16) hx hb dX0_isMan_1 (by decide) (fun c_1 => ?_) (fun c_1 => ?_)
  · have hw := hw.1 c_1
    refine lv_iconst (v := (0 : Int32)) hx hb dX0_isMan_16 (by decide) ?_
    exact hret (0 : Int32) () s.heap _ _ ls vb0 hw hP hD hS dX0_isMan_17
  · have hw := hw.2 c_1
    refine lv_iload_n hx hb dX0_isMan_4 rfl (lv_at hl 1 rfl) ?_
    refine lv_aload_n hx hb dX0_isMan_5 rfl (lv_at hl 0 rfl) ?_
    refine va_get (D := (dC, dI)) (ci := 0) (v := .int t_men) (C := RX0) (T := TX0) (N := 5) hx hb hts inX0 hown hK hP 0 rfl rfl 1 (by decide) fl15 (fun _ h9 => h9) rfl dX0_isMan_6 ?_
    refine lv_icmp_ge (tgt := 16) hx hb dX0_isMan_9 (by decide) (fun c_2 => ?_) (fun c_2 => ?_)
    · have hw := hw.1 c_2
      refine lv_iconst (v := (0 : Int32)) hx hb dX0_isMan_16 (by decide) ?_
      exact hret (0 : Int32) () s.heap _ _ ls vb0 hw hP hD hS dX0_isMan_17
    · have hw := hw.2 c_2
      refine lv_iconst (v := (1 : Int32)) hx hb dX0_isMan_12 (by decide) ?_
      refine lv_goto (tgt := 17) hx hb dX0_isMan_13 (by decide) ?_
      exact hret (1 : Int32) () s.heap _ _ ls vb1 hw hP hD hS dX0_isMan_17

def wpX0_kindOfBag (t_bags : Int32) (t_bagKinds : Nat → Int32) (x1 : Int32) (post : Int32 → Prop) : Prop := ((x1 < 0 → post (-9 : Int32)) ∧ (¬ x1 < 0 → ((t_bags ≤ x1 → post (-9 : Int32)) ∧ (¬ t_bags ≤ x1 → (((3 : Int32) ≤ x1 → post (-9 : Int32)) ∧ (¬ (3 : Int32) ≤ x1 → vp_in x1 3 ∧ (post (t_bagKinds x1.toNatClampNeg))))))))
abbrev rmX0_kindOfBag : Room := { frames := 0, cells := 0, slots := 0, locals := 0 }
set_option maxHeartbeats 4000000 in
set_option maxRecDepth 100000 in
theorem mtX0_kindOfBag (l : Launch) (dC : Nat → ClassId) (dI : Nat → Nat → Nat) (cI cZ : ClassId) (a_t : Nat) (a_t_bagKinds : Nat) (a_t_manKinds : Nat) (a_t_cells : Nat) (sz : Nat) (t_bags : Int32) (d_t_men : Int32) (t_bagKinds : Nat → Int32) (x1 : Int32) (post : Int32 → Prop) (hw : wpX0_kindOfBag t_bags t_bagKinds x1 post) : Met l yX0_kindOfBag wsX0_kindOfBag rmX0_kindOfBag (va_Pc [.ref a_t, .int x1] (kvPre (dC, dI) cI cZ sz [(a_t, .inr (0, [.int t_bags, .int d_t_men, .ref a_t_bagKinds, .ref a_t_manKinds, .ref a_t_cells])), (a_t_bagKinds, .inl (cI, 3, .inl t_bagKinds))])) (va_Qi (fun (r : Int32) (u : Unit) => post r ) (kvB (dC, dI) (va_A [(a_t, .inr (0, [.int t_bags, .int d_t_men, .ref a_t_bagKinds, .ref a_t_manKinds, .ref a_t_cells])), (a_t_bagKinds, .inl (cI, 3, .inl t_bagKinds))] sz) (fun (u : Unit) => [(a_t, .inr (0, [.int t_bags, .int d_t_men, .ref a_t_bagKinds, .ref a_t_manKinds, .ref a_t_cells])), (a_t_bagKinds, .inl (cI, 3, .inl t_bagKinds))])) (va_A [(a_t, .inr (0, [.int t_bags, .int d_t_men, .ref a_t_bagKinds, .ref a_t_manKinds, .ref a_t_cells])), (a_t_bagKinds, .inl (cI, 3, .inl t_bagKinds))] sz)) 0 0 (va_A [(a_t, .inr (0, [.int t_bags, .int d_t_men, .ref a_t_bagKinds, .ref a_t_manKinds, .ref a_t_cells])), (a_t_bagKinds, .inl (cI, 3, .inl t_bagKinds))] sz) := by
  refine kv_metI (y := yX0_kindOfBag) (ws := wsX0_kindOfBag) (rm := rmX0_kindOfBag) (av := [.ref a_t, .int x1]) (sz := sz) (w := [(a_t, .inr (0, [.int t_bags, .int d_t_men, .ref a_t_bagKinds, .ref a_t_manKinds, .ref a_t_cells])), (a_t_bagKinds, .inl (cI, 3, .inl t_bagKinds))]) (cc := cX0_kindOfBag) (maxL := 2) (own := RX0) (post := (fun (r : Int32) (u : Unit) => post r )) (w1 := (fun (u : Unit) => [(a_t, .inr (0, [.int t_bags, .int d_t_men, .ref a_t_bagKinds, .ref a_t_manKinds, .ref a_t_cells])), (a_t_bagKinds, .inl (cI, 3, .inl t_bagKinds))])) (by decide) rfl rfl (Nat.le_of_ble_eq_true rfl) ?_
  intro p e s m below meth c A Q hx hb hml hown hts hK hX hA hP hD hsz hret ls hl
  have hS : va_S A s.heap s.heap [] := va_S.rf
  have hl : lv_has ls 2 [(0, .ref a_t), (1, .int x1)] := hl
  have inX0 : ∀ w ∈ u_ws RX0 TX0 5, w ∈ wsX0_kindOfBag := by decide +kernel
  have fl11 := hts (.fieldLink RX0 11 "BreathBags$Camp" "bags" "I") (by decide +kernel)
  have fl18 := hts (.fieldLink RX0 18 "BreathBags$Camp" "bagKinds" "[I") (by decide +kernel)
  refine lv_iload_n hx hb dX0_kindOfBag_0 rfl (lv_at hl 1 rfl) ?_
  refine lv_if_lt (tgt := 30) hx hb dX0_kindOfBag_1 (by decide) (fun c_1 => ?_) (fun c_1 => ?_)
  · have hw := hw.1 c_1
    refine lv_bipush (v := (-9 : Int32)) hx hb dX0_kindOfBag_30 (by decide) ?_
    exact hret (-9 : Int32) () s.heap _ _ ls hw hP hD hS dX0_kindOfBag_32
  · have hw := hw.2 c_1
    refine lv_iload_n hx hb dX0_kindOfBag_4 rfl (lv_at hl 1 rfl) ?_
    refine lv_aload_n hx hb dX0_kindOfBag_5 rfl (lv_at hl 0 rfl) ?_
    refine va_get (D := (dC, dI)) (ci := 0) (v := .int t_bags) (C := RX0) (T := TX0) (N := 5) hx hb hts inX0 hown hK hP 0 rfl rfl 0 (by decide) fl11 (fun _ h9 => h9) rfl dX0_kindOfBag_6 ?_
    refine lv_icmp_ge (tgt := 30) hx hb dX0_kindOfBag_9 (by decide) (fun c_2 => ?_) (fun c_2 => ?_)
    · have hw := hw.1 c_2
      refine lv_bipush (v := (-9 : Int32)) hx hb dX0_kindOfBag_30 (by decide) ?_
      exact hret (-9 : Int32) () s.heap _ _ ls hw hP hD hS dX0_kindOfBag_32
    · have hw := hw.2 c_2
      refine lv_iload_n hx hb dX0_kindOfBag_12 rfl (lv_at hl 1 rfl) ?_
      refine lv_aload_n hx hb dX0_kindOfBag_13 rfl (lv_at hl 0 rfl) ?_
      refine va_get (D := (dC, dI)) (ci := 0) (v := .ref a_t_bagKinds) (C := RX0) (T := TX0) (N := 5) hx hb hts inX0 hown hK hP 0 rfl rfl 2 (by decide) fl18 (fun _ h9 => h9) rfl dX0_kindOfBag_14 ?_
      refine va_alen (v := (3 : Int32)) hx hb hK hP 1 0 rfl rfl rfl dX0_kindOfBag_17 ?_
      refine lv_icmp_ge (tgt := 30) hx hb dX0_kindOfBag_18 (by decide) (fun c_3 => ?_) (fun c_3 => ?_)
      · have hw := hw.1 c_3
        refine lv_bipush (v := (-9 : Int32)) hx hb dX0_kindOfBag_30 (by decide) ?_
        exact hret (-9 : Int32) () s.heap _ _ ls hw hP hD hS dX0_kindOfBag_32
      · have hw := hw.2 c_3
        refine lv_aload_n hx hb dX0_kindOfBag_21 rfl (lv_at hl 0 rfl) ?_
        refine va_get (D := (dC, dI)) (ci := 0) (v := .ref a_t_bagKinds) (C := RX0) (T := TX0) (N := 5) hx hb hts inX0 hown hK hP 0 rfl rfl 2 (by decide) fl18 (fun _ h9 => h9) rfl dX0_kindOfBag_22 ?_
        refine lv_iload_n hx hb dX0_kindOfBag_25 rfl (lv_at hl 1 rfl) ?_
        refine va_iald hx hb hK hP 1 0 rfl rfl hw.1 dX0_kindOfBag_26 ?_
        have hw := hw.2
        refine lv_goto (tgt := 32) hx hb dX0_kindOfBag_27 (by decide) ?_
        exact hret (t_bagKinds x1.toNatClampNeg) () s.heap _ _ ls hw hP hD hS dX0_kindOfBag_32

def wpX0_kindOfMan (t_men : Int32) (t_manKinds : Nat → Int32) (x1 : Int32) (post : Int32 → Prop) : Prop := ((x1 < 0 → post (-9 : Int32)) ∧ (¬ x1 < 0 → ((t_men ≤ x1 → post (-9 : Int32)) ∧ (¬ t_men ≤ x1 → (((5 : Int32) ≤ x1 → post (-9 : Int32)) ∧ (¬ (5 : Int32) ≤ x1 → vp_in x1 5 ∧ (post (t_manKinds x1.toNatClampNeg))))))))
abbrev rmX0_kindOfMan : Room := { frames := 0, cells := 0, slots := 0, locals := 0 }
set_option maxHeartbeats 4000000 in
set_option maxRecDepth 100000 in
theorem mtX0_kindOfMan (l : Launch) (dC : Nat → ClassId) (dI : Nat → Nat → Nat) (cI cZ : ClassId) (a_t : Nat) (a_t_bagKinds : Nat) (a_t_manKinds : Nat) (a_t_cells : Nat) (sz : Nat) (d_t_bags : Int32) (t_men : Int32) (t_manKinds : Nat → Int32) (x1 : Int32) (post : Int32 → Prop) (hw : wpX0_kindOfMan t_men t_manKinds x1 post) : Met l yX0_kindOfMan wsX0_kindOfMan rmX0_kindOfMan (va_Pc [.ref a_t, .int x1] (kvPre (dC, dI) cI cZ sz [(a_t, .inr (0, [.int d_t_bags, .int t_men, .ref a_t_bagKinds, .ref a_t_manKinds, .ref a_t_cells])), (a_t_manKinds, .inl (cI, 5, .inl t_manKinds))])) (va_Qi (fun (r : Int32) (u : Unit) => post r ) (kvB (dC, dI) (va_A [(a_t, .inr (0, [.int d_t_bags, .int t_men, .ref a_t_bagKinds, .ref a_t_manKinds, .ref a_t_cells])), (a_t_manKinds, .inl (cI, 5, .inl t_manKinds))] sz) (fun (u : Unit) => [(a_t, .inr (0, [.int d_t_bags, .int t_men, .ref a_t_bagKinds, .ref a_t_manKinds, .ref a_t_cells])), (a_t_manKinds, .inl (cI, 5, .inl t_manKinds))])) (va_A [(a_t, .inr (0, [.int d_t_bags, .int t_men, .ref a_t_bagKinds, .ref a_t_manKinds, .ref a_t_cells])), (a_t_manKinds, .inl (cI, 5, .inl t_manKinds))] sz)) 0 0 (va_A [(a_t, .inr (0, [.int d_t_bags, .int t_men, .ref a_t_bagKinds, .ref a_t_manKinds, .ref a_t_cells])), (a_t_manKinds, .inl (cI, 5, .inl t_manKinds))] sz) := by
  refine kv_metI (y := yX0_kindOfMan) (ws := wsX0_kindOfMan) (rm := rmX0_kindOfMan) (av := [.ref a_t, .int x1]) (sz := sz) (w := [(a_t, .inr (0, [.int d_t_bags, .int t_men, .ref a_t_bagKinds, .ref a_t_manKinds, .ref a_t_cells])), (a_t_manKinds, .inl (cI, 5, .inl t_manKinds))]) (cc := cX0_kindOfMan) (maxL := 2) (own := RX0) (post := (fun (r : Int32) (u : Unit) => post r )) (w1 := (fun (u : Unit) => [(a_t, .inr (0, [.int d_t_bags, .int t_men, .ref a_t_bagKinds, .ref a_t_manKinds, .ref a_t_cells])), (a_t_manKinds, .inl (cI, 5, .inl t_manKinds))])) (by decide) rfl rfl (Nat.le_of_ble_eq_true rfl) ?_
  intro p e s m below meth c A Q hx hb hml hown hts hK hX hA hP hD hsz hret ls hl
  have hS : va_S A s.heap s.heap [] := va_S.rf
  have hl : lv_has ls 2 [(0, .ref a_t), (1, .int x1)] := hl
  have inX0 : ∀ w ∈ u_ws RX0 TX0 5, w ∈ wsX0_kindOfMan := by decide +kernel
  have fl15 := hts (.fieldLink RX0 15 "BreathBags$Camp" "men" "I") (by decide +kernel)
  have fl22 := hts (.fieldLink RX0 22 "BreathBags$Camp" "manKinds" "[I") (by decide +kernel)
  refine lv_iload_n hx hb dX0_kindOfMan_0 rfl (lv_at hl 1 rfl) ?_
  refine lv_if_lt (tgt := 30) hx hb dX0_kindOfMan_1 (by decide) (fun c_1 => ?_) (fun c_1 => ?_)
  · have hw := hw.1 c_1
    refine lv_bipush (v := (-9 : Int32)) hx hb dX0_kindOfMan_30 (by decide) ?_
    exact hret (-9 : Int32) () s.heap _ _ ls hw hP hD hS dX0_kindOfMan_32
  · have hw := hw.2 c_1
    refine lv_iload_n hx hb dX0_kindOfMan_4 rfl (lv_at hl 1 rfl) ?_
    refine lv_aload_n hx hb dX0_kindOfMan_5 rfl (lv_at hl 0 rfl) ?_
    refine va_get (D := (dC, dI)) (ci := 0) (v := .int t_men) (C := RX0) (T := TX0) (N := 5) hx hb hts inX0 hown hK hP 0 rfl rfl 1 (by decide) fl15 (fun _ h9 => h9) rfl dX0_kindOfMan_6 ?_
    refine lv_icmp_ge (tgt := 30) hx hb dX0_kindOfMan_9 (by decide) (fun c_2 => ?_) (fun c_2 => ?_)
    · have hw := hw.1 c_2
      refine lv_bipush (v := (-9 : Int32)) hx hb dX0_kindOfMan_30 (by decide) ?_
      exact hret (-9 : Int32) () s.heap _ _ ls hw hP hD hS dX0_kindOfMan_32
    · have hw := hw.2 c_2
      refine lv_iload_n hx hb dX0_kindOfMan_12 rfl (lv_at hl 1 rfl) ?_
      refine lv_aload_n hx hb dX0_kindOfMan_13 rfl (lv_at hl 0 rfl) ?_
      refine va_get (D := (dC, dI)) (ci := 0) (v := .ref a_t_manKinds) (C := RX0) (T := TX0) (N := 5) hx hb hts inX0 hown hK hP 0 rfl rfl 3 (by decide) fl22 (fun _ h9 => h9) rfl dX0_kindOfMan_14 ?_
      refine va_alen (v := (5 : Int32)) hx hb hK hP 1 0 rfl rfl rfl dX0_kindOfMan_17 ?_
      refine lv_icmp_ge (tgt := 30) hx hb dX0_kindOfMan_18 (by decide) (fun c_3 => ?_) (fun c_3 => ?_)
      · have hw := hw.1 c_3
        refine lv_bipush (v := (-9 : Int32)) hx hb dX0_kindOfMan_30 (by decide) ?_
        exact hret (-9 : Int32) () s.heap _ _ ls hw hP hD hS dX0_kindOfMan_32
      · have hw := hw.2 c_3
        refine lv_aload_n hx hb dX0_kindOfMan_21 rfl (lv_at hl 0 rfl) ?_
        refine va_get (D := (dC, dI)) (ci := 0) (v := .ref a_t_manKinds) (C := RX0) (T := TX0) (N := 5) hx hb hts inX0 hown hK hP 0 rfl rfl 3 (by decide) fl22 (fun _ h9 => h9) rfl dX0_kindOfMan_22 ?_
        refine lv_iload_n hx hb dX0_kindOfMan_25 rfl (lv_at hl 1 rfl) ?_
        refine va_iald hx hb hK hP 1 0 rfl rfl hw.1 dX0_kindOfMan_26 ?_
        have hw := hw.2
        refine lv_goto (tgt := 32) hx hb dX0_kindOfMan_27 (by decide) ?_
        exact hret (t_manKinds x1.toNatClampNeg) () s.heap _ _ ls hw hP hD hS dX0_kindOfMan_32

def wpX0_today (t_cells : Nat → Int32) (post : Int32 → Prop) : Prop := wpX0_cell t_cells (0 : Int32) (fun r_1 => post r_1)
abbrev rmX0_today : Room := { frames := 1, cells := 0, slots := 0, locals := 21 }
set_option maxHeartbeats 4000000 in
set_option maxRecDepth 100000 in
theorem mtX0_today (l : Launch) (dC : Nat → ClassId) (dI : Nat → Nat → Nat) (cI cZ : ClassId) (a_t : Nat) (a_t_bagKinds : Nat) (a_t_manKinds : Nat) (a_t_cells : Nat) (sz : Nat) (d_t_bags : Int32) (d_t_men : Int32) (t_cells : Nat → Int32) (post : Int32 → Prop) (hw : wpX0_today t_cells post) : Met l yX0_today wsX0_today rmX0_today (va_Pc [.ref a_t] (kvPre (dC, dI) cI cZ sz [(a_t, .inr (0, [.int d_t_bags, .int d_t_men, .ref a_t_bagKinds, .ref a_t_manKinds, .ref a_t_cells])), (a_t_cells, .inl (cI, 23, .inl t_cells))])) (va_Qi (fun (r : Int32) (u : Unit) => post r ) (kvB (dC, dI) (va_A [(a_t, .inr (0, [.int d_t_bags, .int d_t_men, .ref a_t_bagKinds, .ref a_t_manKinds, .ref a_t_cells])), (a_t_cells, .inl (cI, 23, .inl t_cells))] sz) (fun (u : Unit) => [(a_t, .inr (0, [.int d_t_bags, .int d_t_men, .ref a_t_bagKinds, .ref a_t_manKinds, .ref a_t_cells])), (a_t_cells, .inl (cI, 23, .inl t_cells))])) (va_A [(a_t, .inr (0, [.int d_t_bags, .int d_t_men, .ref a_t_bagKinds, .ref a_t_manKinds, .ref a_t_cells])), (a_t_cells, .inl (cI, 23, .inl t_cells))] sz)) 0 0 (va_A [(a_t, .inr (0, [.int d_t_bags, .int d_t_men, .ref a_t_bagKinds, .ref a_t_manKinds, .ref a_t_cells])), (a_t_cells, .inl (cI, 23, .inl t_cells))] sz) := by
  refine kv_metI (y := yX0_today) (ws := wsX0_today) (rm := rmX0_today) (av := [.ref a_t]) (sz := sz) (w := [(a_t, .inr (0, [.int d_t_bags, .int d_t_men, .ref a_t_bagKinds, .ref a_t_manKinds, .ref a_t_cells])), (a_t_cells, .inl (cI, 23, .inl t_cells))]) (cc := cX0_today) (maxL := 1) (own := RX0) (post := (fun (r : Int32) (u : Unit) => post r )) (w1 := (fun (u : Unit) => [(a_t, .inr (0, [.int d_t_bags, .int d_t_men, .ref a_t_bagKinds, .ref a_t_manKinds, .ref a_t_cells])), (a_t_cells, .inl (cI, 23, .inl t_cells))])) (by decide) rfl rfl (Nat.le_of_ble_eq_true rfl) ?_
  intro p e s m below meth c A Q hx hb hml hown hts hK hX hA hP hD hsz hret ls hl
  have hS : va_S A s.heap s.heap [] := va_S.rf
  have hl : lv_has ls 1 [(0, .ref a_t)] := hl
  refine lv_aload_n hx hb dX0_today_0 rfl (lv_at hl 0 rfl) ?_
  refine lv_iconst (v := (0 : Int32)) hx hb dX0_today_1 (by decide) ?_
  refine kv_callVi (wr := []) (wn := (fun (u : Unit) => [(a_t, .inr (0, [.int d_t_bags, .int d_t_men, .ref a_t_bagKinds, .ref a_t_manKinds, .ref a_t_cells])), (a_t_cells, .inl (cI, 23, .inl t_cells))])) (As := [.int (0 : Int32)]) (rest := []) ⟨hx, hb, hml, hown, hts⟩ hK hX hA hP hD hS (mtX0_cell l dC dI cI cZ a_t a_t_bagKinds a_t_manKinds a_t_cells s.heap.size d_t_bags d_t_men t_cells (0 : Int32) _ hw) (cwV 1 hts gX0_today_X0_cell rfl rfl rfl (by decide +kernel) ⟨Nat.le_of_ble_eq_true rfl, Nat.le_of_ble_eq_true rfl⟩) 0 0 rfl rfl rfl [0, 1] [] [0, 1] rfl rfl rfl rfl (by decide) (fun _ => rfl) rfl rfl hl.1 rfl (Nat.le_of_ble_eq_true rfl) ⟨Nat.zero_le _, Nat.zero_le _⟩ dX0_today_2 (fun r_1 u H locs hw hP hD hS => ?_)
  exact hret r_1 () H _ _ ls hw hP hD hS dX0_today_5

def wpX0_fallenBits (t_cells : Nat → Int32) (post : Int32 → Prop) : Prop := wpX0_cell t_cells (1 : Int32) (fun r_1 => post r_1)
abbrev rmX0_fallenBits : Room := { frames := 1, cells := 0, slots := 0, locals := 21 }
set_option maxHeartbeats 4000000 in
set_option maxRecDepth 100000 in
theorem mtX0_fallenBits (l : Launch) (dC : Nat → ClassId) (dI : Nat → Nat → Nat) (cI cZ : ClassId) (a_t : Nat) (a_t_bagKinds : Nat) (a_t_manKinds : Nat) (a_t_cells : Nat) (sz : Nat) (d_t_bags : Int32) (d_t_men : Int32) (t_cells : Nat → Int32) (post : Int32 → Prop) (hw : wpX0_fallenBits t_cells post) : Met l yX0_fallenBits wsX0_fallenBits rmX0_fallenBits (va_Pc [.ref a_t] (kvPre (dC, dI) cI cZ sz [(a_t, .inr (0, [.int d_t_bags, .int d_t_men, .ref a_t_bagKinds, .ref a_t_manKinds, .ref a_t_cells])), (a_t_cells, .inl (cI, 23, .inl t_cells))])) (va_Qi (fun (r : Int32) (u : Unit) => post r ) (kvB (dC, dI) (va_A [(a_t, .inr (0, [.int d_t_bags, .int d_t_men, .ref a_t_bagKinds, .ref a_t_manKinds, .ref a_t_cells])), (a_t_cells, .inl (cI, 23, .inl t_cells))] sz) (fun (u : Unit) => [(a_t, .inr (0, [.int d_t_bags, .int d_t_men, .ref a_t_bagKinds, .ref a_t_manKinds, .ref a_t_cells])), (a_t_cells, .inl (cI, 23, .inl t_cells))])) (va_A [(a_t, .inr (0, [.int d_t_bags, .int d_t_men, .ref a_t_bagKinds, .ref a_t_manKinds, .ref a_t_cells])), (a_t_cells, .inl (cI, 23, .inl t_cells))] sz)) 0 0 (va_A [(a_t, .inr (0, [.int d_t_bags, .int d_t_men, .ref a_t_bagKinds, .ref a_t_manKinds, .ref a_t_cells])), (a_t_cells, .inl (cI, 23, .inl t_cells))] sz) := by
  refine kv_metI (y := yX0_fallenBits) (ws := wsX0_fallenBits) (rm := rmX0_fallenBits) (av := [.ref a_t]) (sz := sz) (w := [(a_t, .inr (0, [.int d_t_bags, .int d_t_men, .ref a_t_bagKinds, .ref a_t_manKinds, .ref a_t_cells])), (a_t_cells, .inl (cI, 23, .inl t_cells))]) (cc := cX0_fallenBits) (maxL := 1) (own := RX0) (post := (fun (r : Int32) (u : Unit) => post r )) (w1 := (fun (u : Unit) => [(a_t, .inr (0, [.int d_t_bags, .int d_t_men, .ref a_t_bagKinds, .ref a_t_manKinds, .ref a_t_cells])), (a_t_cells, .inl (cI, 23, .inl t_cells))])) (by decide) rfl rfl (Nat.le_of_ble_eq_true rfl) ?_
  intro p e s m below meth c A Q hx hb hml hown hts hK hX hA hP hD hsz hret ls hl
  have hS : va_S A s.heap s.heap [] := va_S.rf
  have hl : lv_has ls 1 [(0, .ref a_t)] := hl
  refine lv_aload_n hx hb dX0_fallenBits_0 rfl (lv_at hl 0 rfl) ?_
  refine lv_iconst (v := (1 : Int32)) hx hb dX0_fallenBits_1 (by decide) ?_
  refine kv_callVi (wr := []) (wn := (fun (u : Unit) => [(a_t, .inr (0, [.int d_t_bags, .int d_t_men, .ref a_t_bagKinds, .ref a_t_manKinds, .ref a_t_cells])), (a_t_cells, .inl (cI, 23, .inl t_cells))])) (As := [.int (1 : Int32)]) (rest := []) ⟨hx, hb, hml, hown, hts⟩ hK hX hA hP hD hS (mtX0_cell l dC dI cI cZ a_t a_t_bagKinds a_t_manKinds a_t_cells s.heap.size d_t_bags d_t_men t_cells (1 : Int32) _ hw) (cwV 1 hts gX0_fallenBits_X0_cell rfl rfl rfl (by decide +kernel) ⟨Nat.le_of_ble_eq_true rfl, Nat.le_of_ble_eq_true rfl⟩) 0 0 rfl rfl rfl [0, 1] [] [0, 1] rfl rfl rfl rfl (by decide) (fun _ => rfl) rfl rfl hl.1 rfl (Nat.le_of_ble_eq_true rfl) ⟨Nat.zero_le _, Nat.zero_le _⟩ dX0_fallenBits_2 (fun r_1 u H locs hw hP hD hS => ?_)
  exact hret r_1 () H _ _ ls hw hP hD hS dX0_fallenBits_5

def wpX0_hasFallen (t_cells : Nat → Int32) (x1 : Int32) (post : Int32 → Prop) : Prop := wpX0_fallenBits t_cells (fun r_1 => ((¬ ((r_1 >>> (x1 &&& 31)) &&& (1 : Int32)) = (1 : Int32) → post (0 : Int32)) ∧ (((r_1 >>> (x1 &&& 31)) &&& (1 : Int32)) = (1 : Int32) → post (1 : Int32))))
abbrev rmX0_hasFallen : Room := { frames := 2, cells := 0, slots := 0, locals := 41 }
set_option maxHeartbeats 4000000 in
set_option maxRecDepth 100000 in
theorem mtX0_hasFallen (l : Launch) (dC : Nat → ClassId) (dI : Nat → Nat → Nat) (cI cZ : ClassId) (a_t : Nat) (a_t_bagKinds : Nat) (a_t_manKinds : Nat) (a_t_cells : Nat) (sz : Nat) (d_t_bags : Int32) (d_t_men : Int32) (t_cells : Nat → Int32) (x1 : Int32) (post : Int32 → Prop) (hw : wpX0_hasFallen t_cells x1 post) : Met l yX0_hasFallen wsX0_hasFallen rmX0_hasFallen (va_Pc [.ref a_t, .int x1] (kvPre (dC, dI) cI cZ sz [(a_t, .inr (0, [.int d_t_bags, .int d_t_men, .ref a_t_bagKinds, .ref a_t_manKinds, .ref a_t_cells])), (a_t_cells, .inl (cI, 23, .inl t_cells))])) (va_Qi (fun (r : Int32) (u : Unit) => vb r ∧ post r ) (kvB (dC, dI) (va_A [(a_t, .inr (0, [.int d_t_bags, .int d_t_men, .ref a_t_bagKinds, .ref a_t_manKinds, .ref a_t_cells])), (a_t_cells, .inl (cI, 23, .inl t_cells))] sz) (fun (u : Unit) => [(a_t, .inr (0, [.int d_t_bags, .int d_t_men, .ref a_t_bagKinds, .ref a_t_manKinds, .ref a_t_cells])), (a_t_cells, .inl (cI, 23, .inl t_cells))])) (va_A [(a_t, .inr (0, [.int d_t_bags, .int d_t_men, .ref a_t_bagKinds, .ref a_t_manKinds, .ref a_t_cells])), (a_t_cells, .inl (cI, 23, .inl t_cells))] sz)) 0 0 (va_A [(a_t, .inr (0, [.int d_t_bags, .int d_t_men, .ref a_t_bagKinds, .ref a_t_manKinds, .ref a_t_cells])), (a_t_cells, .inl (cI, 23, .inl t_cells))] sz) := by
  refine kv_metZ (y := yX0_hasFallen) (ws := wsX0_hasFallen) (rm := rmX0_hasFallen) (av := [.ref a_t, .int x1]) (sz := sz) (w := [(a_t, .inr (0, [.int d_t_bags, .int d_t_men, .ref a_t_bagKinds, .ref a_t_manKinds, .ref a_t_cells])), (a_t_cells, .inl (cI, 23, .inl t_cells))]) (cc := cX0_hasFallen) (maxL := 2) (own := RX0) (post := (fun (r : Int32) (u : Unit) => post r )) (w1 := (fun (u : Unit) => [(a_t, .inr (0, [.int d_t_bags, .int d_t_men, .ref a_t_bagKinds, .ref a_t_manKinds, .ref a_t_cells])), (a_t_cells, .inl (cI, 23, .inl t_cells))])) (by decide) rfl rfl (Nat.le_of_ble_eq_true rfl) ?_
  intro p e s m below meth c A Q hx hb hml hown hts hK hX hA hP hD hsz hret ls hl
  have hS : va_S A s.heap s.heap [] := va_S.rf
  have hl : lv_has ls 2 [(0, .ref a_t), (1, .int x1)] := hl
  refine lv_aload_n hx hb dX0_hasFallen_0 rfl (lv_at hl 0 rfl) ?_
  refine kv_callVi (wr := []) (wn := (fun (u : Unit) => [(a_t, .inr (0, [.int d_t_bags, .int d_t_men, .ref a_t_bagKinds, .ref a_t_manKinds, .ref a_t_cells])), (a_t_cells, .inl (cI, 23, .inl t_cells))])) (As := []) (rest := []) ⟨hx, hb, hml, hown, hts⟩ hK hX hA hP hD hS (mtX0_fallenBits l dC dI cI cZ a_t a_t_bagKinds a_t_manKinds a_t_cells s.heap.size d_t_bags d_t_men t_cells _ hw) (cwV 0 hts gX0_hasFallen_X0_fallenBits rfl rfl rfl (by decide +kernel) ⟨Nat.le_of_ble_eq_true rfl, Nat.le_of_ble_eq_true rfl⟩) 0 0 rfl rfl rfl [0, 1] [] [0, 1] rfl rfl rfl rfl (by decide) (fun _ => rfl) rfl rfl hl.1 rfl (Nat.le_of_ble_eq_true rfl) ⟨Nat.zero_le _, Nat.zero_le _⟩ dX0_hasFallen_1 (fun r_1 u H locs hw hP hD hS => ?_)
  refine lv_iload_n hx hb dX0_hasFallen_4 rfl (lv_at hl 1 rfl) ?_
  refine lv_ishr hx hb dX0_hasFallen_5 ?_
  refine lv_iconst (v := (1 : Int32)) hx hb dX0_hasFallen_6 (by decide) ?_
  refine lv_iand hx hb dX0_hasFallen_7 ?_
  refine lv_iconst (v := (1 : Int32)) hx hb dX0_hasFallen_8 (by decide) ?_
  refine lv_icmp_ne (tgt := 16) hx hb dX0_hasFallen_9 (by decide) (fun c_2 => ?_) (fun c_2 => ?_)
  · have hw := hw.1 c_2
    refine lv_iconst (v := (0 : Int32)) hx hb dX0_hasFallen_16 (by decide) ?_
    exact hret (0 : Int32) () H _ _ ls vb0 hw hP hD hS dX0_hasFallen_17
  · have hw := hw.2 c_2
    refine lv_iconst (v := (1 : Int32)) hx hb dX0_hasFallen_12 (by decide) ?_
    refine lv_goto (tgt := 17) hx hb dX0_hasFallen_13 (by decide) ?_
    exact hret (1 : Int32) () H _ _ ls vb1 hw hP hD hS dX0_hasFallen_17

def wpX0_ofMan (t_men : Int32) (t_cells : Nat → Int32) (x1 : Int32) (x2 : Int32) (post : Int32 → Prop) : Prop := wpX0_isMan t_men x2 (fun r_1 => ((r_1 = 0 → post (0 : Int32)) ∧ (¬ r_1 = 0 → wpX0_cell t_cells (x1 + x2) (fun r_3 => post r_3))))
abbrev rmX0_ofMan : Room := { frames := 1, cells := 0, slots := 0, locals := 21 }
set_option maxHeartbeats 4000000 in
set_option maxRecDepth 100000 in
theorem mtX0_ofMan (l : Launch) (dC : Nat → ClassId) (dI : Nat → Nat → Nat) (cI cZ : ClassId) (a_t : Nat) (a_t_bagKinds : Nat) (a_t_manKinds : Nat) (a_t_cells : Nat) (sz : Nat) (d_t_bags : Int32) (t_men : Int32) (t_cells : Nat → Int32) (x1 : Int32) (x2 : Int32) (post : Int32 → Prop) (hw : wpX0_ofMan t_men t_cells x1 x2 post) : Met l yX0_ofMan wsX0_ofMan rmX0_ofMan (va_Pc [.ref a_t, .int x1, .int x2] (kvPre (dC, dI) cI cZ sz [(a_t, .inr (0, [.int d_t_bags, .int t_men, .ref a_t_bagKinds, .ref a_t_manKinds, .ref a_t_cells])), (a_t_cells, .inl (cI, 23, .inl t_cells))])) (va_Qi (fun (r : Int32) (u : Unit) => post r ) (kvB (dC, dI) (va_A [(a_t, .inr (0, [.int d_t_bags, .int t_men, .ref a_t_bagKinds, .ref a_t_manKinds, .ref a_t_cells])), (a_t_cells, .inl (cI, 23, .inl t_cells))] sz) (fun (u : Unit) => [(a_t, .inr (0, [.int d_t_bags, .int t_men, .ref a_t_bagKinds, .ref a_t_manKinds, .ref a_t_cells])), (a_t_cells, .inl (cI, 23, .inl t_cells))])) (va_A [(a_t, .inr (0, [.int d_t_bags, .int t_men, .ref a_t_bagKinds, .ref a_t_manKinds, .ref a_t_cells])), (a_t_cells, .inl (cI, 23, .inl t_cells))] sz)) 0 0 (va_A [(a_t, .inr (0, [.int d_t_bags, .int t_men, .ref a_t_bagKinds, .ref a_t_manKinds, .ref a_t_cells])), (a_t_cells, .inl (cI, 23, .inl t_cells))] sz) := by
  refine kv_metI (y := yX0_ofMan) (ws := wsX0_ofMan) (rm := rmX0_ofMan) (av := [.ref a_t, .int x1, .int x2]) (sz := sz) (w := [(a_t, .inr (0, [.int d_t_bags, .int t_men, .ref a_t_bagKinds, .ref a_t_manKinds, .ref a_t_cells])), (a_t_cells, .inl (cI, 23, .inl t_cells))]) (cc := cX0_ofMan) (maxL := 3) (own := RX0) (post := (fun (r : Int32) (u : Unit) => post r )) (w1 := (fun (u : Unit) => [(a_t, .inr (0, [.int d_t_bags, .int t_men, .ref a_t_bagKinds, .ref a_t_manKinds, .ref a_t_cells])), (a_t_cells, .inl (cI, 23, .inl t_cells))])) (by decide) rfl rfl (Nat.le_of_ble_eq_true rfl) ?_
  intro p e s m below meth c A Q hx hb hml hown hts hK hX hA hP hD hsz hret ls hl
  have hS : va_S A s.heap s.heap [] := va_S.rf
  have hl : lv_has ls 3 [(0, .ref a_t), (1, .int x1), (2, .int x2)] := hl
  refine lv_aload_n hx hb dX0_ofMan_0 rfl (lv_at hl 0 rfl) ?_
  refine lv_iload_n hx hb dX0_ofMan_1 rfl (lv_at hl 2 rfl) ?_
  refine kv_callVi (wr := [(a_t_cells, .inl (cI, 23, .inl t_cells))]) (wn := (fun (u : Unit) => [(a_t, .inr (0, [.int d_t_bags, .int t_men, .ref a_t_bagKinds, .ref a_t_manKinds, .ref a_t_cells])), (a_t_cells, .inl (cI, 23, .inl t_cells))])) (As := [.int x2]) (rest := []) ⟨hx, hb, hml, hown, hts⟩ hK hX hA hP hD hS (mtX0_isMan l dC dI cI cZ a_t a_t_bagKinds a_t_manKinds a_t_cells s.heap.size d_t_bags t_men x2 _ hw) (cwV 1 hts gX0_ofMan_X0_isMan rfl rfl rfl (by decide +kernel) ⟨Nat.le_of_ble_eq_true rfl, Nat.le_of_ble_eq_true rfl⟩) 0 0 rfl rfl rfl [0] [1] [1, 0] rfl rfl rfl rfl (by decide) (fun _ => rfl) rfl rfl hl.1 rfl (Nat.le_of_ble_eq_true rfl) ⟨Nat.zero_le _, Nat.zero_le _⟩ dX0_ofMan_2 (fun r_1 u H locs hw hP hD hS => ?_)
  obtain ⟨hb_r_1, hw⟩ := hw
  refine lv_if_eq (tgt := 18) hx hb dX0_ofMan_5 (by decide) (fun c_2 => ?_) (fun c_2 => ?_)
  · have hw := hw.1 c_2
    refine lv_iconst (v := (0 : Int32)) hx hb dX0_ofMan_18 (by decide) ?_
    exact hret (0 : Int32) () H _ _ ls hw hP hD hS dX0_ofMan_19
  · have hw := hw.2 c_2
    refine lv_aload_n hx hb dX0_ofMan_8 rfl (lv_at hl 0 rfl) ?_
    refine lv_iload_n hx hb dX0_ofMan_9 rfl (lv_at hl 1 rfl) ?_
    refine lv_iload_n hx hb dX0_ofMan_10 rfl (lv_at hl 2 rfl) ?_
    refine lv_iadd hx hb dX0_ofMan_11 ?_
    refine kv_callVi (wr := []) (wn := (fun (u : Unit) => [(a_t, .inr (0, [.int d_t_bags, .int t_men, .ref a_t_bagKinds, .ref a_t_manKinds, .ref a_t_cells])), (a_t_cells, .inl (cI, 23, .inl t_cells))])) (As := [.int (x1 + x2)]) (rest := []) ⟨hx, hb, hml, hown, hts⟩ hK hX hA hP hD hS (mtX0_cell l dC dI cI cZ a_t a_t_bagKinds a_t_manKinds a_t_cells H.size d_t_bags t_men t_cells (x1 + x2) _ hw) (cwV 1 hts gX0_ofMan_X0_cell rfl rfl rfl (by decide +kernel) ⟨Nat.le_of_ble_eq_true rfl, Nat.le_of_ble_eq_true rfl⟩) 0 0 rfl rfl rfl [0, 1] [] [0, 1] rfl rfl rfl rfl (by decide) (fun _ => rfl) rfl rfl hl.1 rfl (Nat.le_of_ble_eq_true rfl) ⟨Nat.zero_le _, Nat.zero_le _⟩ dX0_ofMan_12 (fun r_3 u H locs hw hP hD hS => ?_)
    refine lv_goto (tgt := 19) hx hb dX0_ofMan_15 (by decide) ?_
    exact hret r_3 () H _ _ ls hw hP hD hS dX0_ofMan_19

def wpX0_sumOfMen_L4 (t_men : Int32) (t_cells : Nat → Int32) (x1 : Int32) (post : Int32 → Prop) : Nat → Int32 → Int32 → Prop
  | 0, _, _ => False
  | n + 1, x2_4, x3_4 => ((t_men ≤ x3_4 → post x2_4) ∧ (¬ t_men ≤ x3_4 → wpX0_ofMan t_men t_cells x1 x3_4 (fun r_2 => ∀ y_3 : Int32, y_3 = (x2_4 + r_2) → ∀ y_4 : Int32, y_4 = (x3_4 + (1 : Int32)) → wpX0_sumOfMen_L4 t_men t_cells x1 post n y_3 y_4)))
def wpX0_sumOfMen_E4 (t_men : Int32) (t_cells : Nat → Int32) (x1 : Int32) (post : Int32 → Prop) (x2_4 : Int32) (x3_4 : Int32) : Prop := ∃ n : Nat, wpX0_sumOfMen_L4 t_men t_cells x1 post n x2_4 x3_4
def wpX0_sumOfMen (t_men : Int32) (t_cells : Nat → Int32) (x1 : Int32) (post : Int32 → Prop) : Prop := wpX0_sumOfMen_E4 t_men t_cells x1 post (0 : Int32) (0 : Int32)
abbrev rmX0_sumOfMen : Room := { frames := 2, cells := 0, slots := 0, locals := 43 }
set_option maxHeartbeats 4000000 in
set_option maxRecDepth 100000 in
theorem mtX0_sumOfMen (l : Launch) (dC : Nat → ClassId) (dI : Nat → Nat → Nat) (cI cZ : ClassId) (a_t : Nat) (a_t_bagKinds : Nat) (a_t_manKinds : Nat) (a_t_cells : Nat) (sz : Nat) (d_t_bags : Int32) (t_men : Int32) (t_cells : Nat → Int32) (x1 : Int32) (post : Int32 → Prop) (hw : wpX0_sumOfMen t_men t_cells x1 post) : Met l yX0_sumOfMen wsX0_sumOfMen rmX0_sumOfMen (va_Pc [.ref a_t, .int x1] (kvPre (dC, dI) cI cZ sz [(a_t, .inr (0, [.int d_t_bags, .int t_men, .ref a_t_bagKinds, .ref a_t_manKinds, .ref a_t_cells])), (a_t_cells, .inl (cI, 23, .inl t_cells))])) (va_Qi (fun (r : Int32) (u : Unit) => post r ) (kvB (dC, dI) (va_A [(a_t, .inr (0, [.int d_t_bags, .int t_men, .ref a_t_bagKinds, .ref a_t_manKinds, .ref a_t_cells])), (a_t_cells, .inl (cI, 23, .inl t_cells))] sz) (fun (u : Unit) => [(a_t, .inr (0, [.int d_t_bags, .int t_men, .ref a_t_bagKinds, .ref a_t_manKinds, .ref a_t_cells])), (a_t_cells, .inl (cI, 23, .inl t_cells))])) (va_A [(a_t, .inr (0, [.int d_t_bags, .int t_men, .ref a_t_bagKinds, .ref a_t_manKinds, .ref a_t_cells])), (a_t_cells, .inl (cI, 23, .inl t_cells))] sz)) 0 0 (va_A [(a_t, .inr (0, [.int d_t_bags, .int t_men, .ref a_t_bagKinds, .ref a_t_manKinds, .ref a_t_cells])), (a_t_cells, .inl (cI, 23, .inl t_cells))] sz) := by
  refine kv_metI (y := yX0_sumOfMen) (ws := wsX0_sumOfMen) (rm := rmX0_sumOfMen) (av := [.ref a_t, .int x1]) (sz := sz) (w := [(a_t, .inr (0, [.int d_t_bags, .int t_men, .ref a_t_bagKinds, .ref a_t_manKinds, .ref a_t_cells])), (a_t_cells, .inl (cI, 23, .inl t_cells))]) (cc := cX0_sumOfMen) (maxL := 4) (own := RX0) (post := (fun (r : Int32) (u : Unit) => post r )) (w1 := (fun (u : Unit) => [(a_t, .inr (0, [.int d_t_bags, .int t_men, .ref a_t_bagKinds, .ref a_t_manKinds, .ref a_t_cells])), (a_t_cells, .inl (cI, 23, .inl t_cells))])) (by decide) rfl rfl (Nat.le_of_ble_eq_true rfl) ?_
  intro p e s m below meth c A Q hx hb hml hown hts hK hX hA hP hD hsz hret ls hl
  have hS : va_S A s.heap s.heap [] := va_S.rf
  have hl : lv_has ls 4 [(0, .ref a_t), (1, .int x1)] := hl
  have inX0 : ∀ w ∈ u_ws RX0 TX0 5, w ∈ wsX0_sumOfMen := by decide +kernel
  have fl15 := hts (.fieldLink RX0 15 "BreathBags$Camp" "men" "I") (by decide +kernel)
  have L4 : ∀  (n4 : Nat) (x2_4 : Int32) (x3_4 : Int32) (H : Heap) (locs : List Loc) (ls : Array Slot), wpX0_sumOfMen_L4 t_men t_cells x1 post n4 x2_4 x3_4 → va_P (dC, dI) vwCl [(a_t, .inr (0, [.int d_t_bags, .int t_men, .ref a_t_bagKinds, .ref a_t_manKinds, .ref a_t_cells])), (a_t_cells, .inl (cI, 23, .inl t_cells))] H → va_D A [(a_t, .inr (0, [.int d_t_bags, .int t_men, .ref a_t_bagKinds, .ref a_t_manKinds, .ref a_t_cells])), (a_t_cells, .inl (cI, 23, .inl t_cells))] → va_S A s.heap H locs → lv_has ls 4 [(0, .ref a_t), (1, .int x1), (2, .int x2_4), (3, .int x3_4)] → W p l e rmX0_sumOfMen s m [.ref a_t, .int x1].toArray below meth c H locs 0 0 Q (F0 m 4 ls []) := by
    intro  n4
    induction n4 with
    | zero => intro x2_4 x3_4 H locs ls hw hP hD hS hl; exact hw.elim
    | succ n4 ih4 =>
      intro x2_4 x3_4 H locs ls hw hP hD hS hl
      refine lv_iload_n hx hb dX0_sumOfMen_4 rfl (lv_at hl 3 rfl) ?_
      refine lv_aload_n hx hb dX0_sumOfMen_5 rfl (lv_at hl 0 rfl) ?_
      refine va_get (D := (dC, dI)) (ci := 0) (v := .int t_men) (C := RX0) (T := TX0) (N := 5) hx hb hts inX0 hown hK hP 0 rfl rfl 1 (by decide) fl15 (fun _ h9 => h9) rfl dX0_sumOfMen_6 ?_
      refine lv_icmp_ge (tgt := 27) hx hb dX0_sumOfMen_9 (by decide) (fun c_1 => ?_) (fun c_1 => ?_)
      · have hw := hw.1 c_1
        refine lv_iload_n hx hb dX0_sumOfMen_27 rfl (lv_at hl 2 rfl) ?_
        exact hret x2_4 () H _ _ ls hw hP hD hS dX0_sumOfMen_28
      · have hw := hw.2 c_1
        refine lv_iload_n hx hb dX0_sumOfMen_12 rfl (lv_at hl 2 rfl) ?_
        refine lv_aload_n hx hb dX0_sumOfMen_13 rfl (lv_at hl 0 rfl) ?_
        refine lv_iload_n hx hb dX0_sumOfMen_14 rfl (lv_at hl 1 rfl) ?_
        refine lv_iload_n hx hb dX0_sumOfMen_15 rfl (lv_at hl 3 rfl) ?_
        refine kv_callVi (wr := []) (wn := (fun (u : Unit) => [(a_t, .inr (0, [.int d_t_bags, .int t_men, .ref a_t_bagKinds, .ref a_t_manKinds, .ref a_t_cells])), (a_t_cells, .inl (cI, 23, .inl t_cells))])) (As := [.int x1, .int x3_4]) (rest := [.int x2_4]) ⟨hx, hb, hml, hown, hts⟩ hK hX hA hP hD hS (mtX0_ofMan l dC dI cI cZ a_t a_t_bagKinds a_t_manKinds a_t_cells H.size d_t_bags t_men t_cells x1 x3_4 _ hw) (cwV 2 hts gX0_sumOfMen_X0_ofMan rfl rfl rfl (by decide +kernel) ⟨Nat.le_of_ble_eq_true rfl, Nat.le_of_ble_eq_true rfl⟩) 0 0 rfl rfl rfl [0, 1] [] [0, 1] rfl rfl rfl rfl (by decide) (fun _ => rfl) rfl rfl hl.1 rfl (Nat.le_of_ble_eq_true rfl) ⟨Nat.zero_le _, Nat.zero_le _⟩ dX0_sumOfMen_16 (fun r_2 u H locs hw hP hD hS => ?_)
        refine lv_iadd hx hb dX0_sumOfMen_19 ?_
        refine lv_topi (fun y_3 ey_3 => ?_)
        have hw := hw y_3 ey_3
        refine lv_istore_n (lv' := [(2, .int y_3), (0, .ref a_t), (1, .int x1), (3, .int x3_4)]) hx hb dX0_sumOfMen_20 rfl hl (by decide) rfl (fun ls hl => ?_)
        obtain ⟨y_4, ey_4⟩ : ∃ y : Int32, y = (x3_4 + (1 : Int32)) := ⟨_, rfl⟩
        have hw := hw y_4 ey_4
        refine lv_iinc (v := y_4) (lv' := [(3, .int y_4), (2, .int y_3), (0, .ref a_t), (1, .int x1)]) hx hb dX0_sumOfMen_21 hl (k := 3) rfl (by rw [ey_4]; rfl) (by decide) rfl (fun ls hl => ?_)
        refine lv_goto (tgt := 4) hx hb dX0_sumOfMen_24 (by decide) ?_
        exact ih4 y_3 y_4 H _ ls hw hP hD hS (lv_sub hl [2, 3, 1, 0] rfl)
  have E4 : ∀ (x2_4 : Int32) (x3_4 : Int32) (H : Heap) (locs : List Loc) (ls : Array Slot), wpX0_sumOfMen_E4 t_men t_cells x1 post x2_4 x3_4 → va_P (dC, dI) vwCl [(a_t, .inr (0, [.int d_t_bags, .int t_men, .ref a_t_bagKinds, .ref a_t_manKinds, .ref a_t_cells])), (a_t_cells, .inl (cI, 23, .inl t_cells))] H → va_D A [(a_t, .inr (0, [.int d_t_bags, .int t_men, .ref a_t_bagKinds, .ref a_t_manKinds, .ref a_t_cells])), (a_t_cells, .inl (cI, 23, .inl t_cells))] → va_S A s.heap H locs → lv_has ls 4 [(0, .ref a_t), (1, .int x1), (2, .int x2_4), (3, .int x3_4)] → W p l e rmX0_sumOfMen s m [.ref a_t, .int x1].toArray below meth c H locs 0 0 Q (F0 m 4 ls []) := by
    intro x2_4 x3_4 H locs ls hw hP hD hS hl
    obtain ⟨n, hw⟩ := hw
    exact L4  n x2_4 x3_4 H locs ls hw hP hD hS hl
  refine lv_iconst (v := (0 : Int32)) hx hb dX0_sumOfMen_0 (by decide) ?_
  refine lv_istore_n (lv' := [(2, .int (0 : Int32)), (0, .ref a_t), (1, .int x1)]) hx hb dX0_sumOfMen_1 rfl hl (by decide) rfl (fun ls hl => ?_)
  refine lv_iconst (v := (0 : Int32)) hx hb dX0_sumOfMen_2 (by decide) ?_
  refine lv_istore_n (lv' := [(3, .int (0 : Int32)), (2, .int (0 : Int32)), (0, .ref a_t), (1, .int x1)]) hx hb dX0_sumOfMen_3 rfl hl (by decide) rfl (fun ls hl => ?_)
  exact E4 (0 : Int32) (0 : Int32) s.heap _ ls hw hP hD hS (lv_sub hl [2, 3, 1, 0] rfl)

def wpX0_breathsIn (t_bags : Int32) (t_cells : Nat → Int32) (x1 : Int32) (post : Int32 → Prop) : Prop := wpX0_isBag t_bags x1 (fun r_1 => ((r_1 = 0 → post (0 : Int32)) ∧ (¬ r_1 = 0 → wpX0_cell t_cells ((17 : Int32) + x1) (fun r_3 => post r_3))))
abbrev rmX0_breathsIn : Room := { frames := 1, cells := 0, slots := 0, locals := 21 }
set_option maxHeartbeats 4000000 in
set_option maxRecDepth 100000 in
theorem mtX0_breathsIn (l : Launch) (dC : Nat → ClassId) (dI : Nat → Nat → Nat) (cI cZ : ClassId) (a_t : Nat) (a_t_bagKinds : Nat) (a_t_manKinds : Nat) (a_t_cells : Nat) (sz : Nat) (t_bags : Int32) (d_t_men : Int32) (t_cells : Nat → Int32) (x1 : Int32) (post : Int32 → Prop) (hw : wpX0_breathsIn t_bags t_cells x1 post) : Met l yX0_breathsIn wsX0_breathsIn rmX0_breathsIn (va_Pc [.ref a_t, .int x1] (kvPre (dC, dI) cI cZ sz [(a_t, .inr (0, [.int t_bags, .int d_t_men, .ref a_t_bagKinds, .ref a_t_manKinds, .ref a_t_cells])), (a_t_cells, .inl (cI, 23, .inl t_cells))])) (va_Qi (fun (r : Int32) (u : Unit) => post r ) (kvB (dC, dI) (va_A [(a_t, .inr (0, [.int t_bags, .int d_t_men, .ref a_t_bagKinds, .ref a_t_manKinds, .ref a_t_cells])), (a_t_cells, .inl (cI, 23, .inl t_cells))] sz) (fun (u : Unit) => [(a_t, .inr (0, [.int t_bags, .int d_t_men, .ref a_t_bagKinds, .ref a_t_manKinds, .ref a_t_cells])), (a_t_cells, .inl (cI, 23, .inl t_cells))])) (va_A [(a_t, .inr (0, [.int t_bags, .int d_t_men, .ref a_t_bagKinds, .ref a_t_manKinds, .ref a_t_cells])), (a_t_cells, .inl (cI, 23, .inl t_cells))] sz)) 0 0 (va_A [(a_t, .inr (0, [.int t_bags, .int d_t_men, .ref a_t_bagKinds, .ref a_t_manKinds, .ref a_t_cells])), (a_t_cells, .inl (cI, 23, .inl t_cells))] sz) := by
  refine kv_metI (y := yX0_breathsIn) (ws := wsX0_breathsIn) (rm := rmX0_breathsIn) (av := [.ref a_t, .int x1]) (sz := sz) (w := [(a_t, .inr (0, [.int t_bags, .int d_t_men, .ref a_t_bagKinds, .ref a_t_manKinds, .ref a_t_cells])), (a_t_cells, .inl (cI, 23, .inl t_cells))]) (cc := cX0_breathsIn) (maxL := 2) (own := RX0) (post := (fun (r : Int32) (u : Unit) => post r )) (w1 := (fun (u : Unit) => [(a_t, .inr (0, [.int t_bags, .int d_t_men, .ref a_t_bagKinds, .ref a_t_manKinds, .ref a_t_cells])), (a_t_cells, .inl (cI, 23, .inl t_cells))])) (by decide) rfl rfl (Nat.le_of_ble_eq_true rfl) ?_
  intro p e s m below meth c A Q hx hb hml hown hts hK hX hA hP hD hsz hret ls hl
  have hS : va_S A s.heap s.heap [] := va_S.rf
  have hl : lv_has ls 2 [(0, .ref a_t), (1, .int x1)] := hl
  refine lv_aload_n hx hb dX0_breathsIn_0 rfl (lv_at hl 0 rfl) ?_
  refine lv_iload_n hx hb dX0_breathsIn_1 rfl (lv_at hl 1 rfl) ?_
  refine kv_callVi (wr := [(a_t_cells, .inl (cI, 23, .inl t_cells))]) (wn := (fun (u : Unit) => [(a_t, .inr (0, [.int t_bags, .int d_t_men, .ref a_t_bagKinds, .ref a_t_manKinds, .ref a_t_cells])), (a_t_cells, .inl (cI, 23, .inl t_cells))])) (As := [.int x1]) (rest := []) ⟨hx, hb, hml, hown, hts⟩ hK hX hA hP hD hS (mtX0_isBag l dC dI cI cZ a_t a_t_bagKinds a_t_manKinds a_t_cells s.heap.size t_bags d_t_men x1 _ hw) (cwV 1 hts gX0_breathsIn_X0_isBag rfl rfl rfl (by decide +kernel) ⟨Nat.le_of_ble_eq_true rfl, Nat.le_of_ble_eq_true rfl⟩) 0 0 rfl rfl rfl [0] [1] [1, 0] rfl rfl rfl rfl (by decide) (fun _ => rfl) rfl rfl hl.1 rfl (Nat.le_of_ble_eq_true rfl) ⟨Nat.zero_le _, Nat.zero_le _⟩ dX0_breathsIn_2 (fun r_1 u H locs hw hP hD hS => ?_)
  obtain ⟨hb_r_1, hw⟩ := hw
  refine lv_if_eq (tgt := 19) hx hb dX0_breathsIn_5 (by decide) (fun c_2 => ?_) (fun c_2 => ?_)
  · have hw := hw.1 c_2
    refine lv_iconst (v := (0 : Int32)) hx hb dX0_breathsIn_19 (by decide) ?_
    exact hret (0 : Int32) () H _ _ ls hw hP hD hS dX0_breathsIn_20
  · have hw := hw.2 c_2
    refine lv_aload_n hx hb dX0_breathsIn_8 rfl (lv_at hl 0 rfl) ?_
    refine lv_bipush (v := (17 : Int32)) hx hb dX0_breathsIn_9 (by decide) ?_
    refine lv_iload_n hx hb dX0_breathsIn_11 rfl (lv_at hl 1 rfl) ?_
    refine lv_iadd hx hb dX0_breathsIn_12 ?_
    refine kv_callVi (wr := []) (wn := (fun (u : Unit) => [(a_t, .inr (0, [.int t_bags, .int d_t_men, .ref a_t_bagKinds, .ref a_t_manKinds, .ref a_t_cells])), (a_t_cells, .inl (cI, 23, .inl t_cells))])) (As := [.int ((17 : Int32) + x1)]) (rest := []) ⟨hx, hb, hml, hown, hts⟩ hK hX hA hP hD hS (mtX0_cell l dC dI cI cZ a_t a_t_bagKinds a_t_manKinds a_t_cells H.size t_bags d_t_men t_cells ((17 : Int32) + x1) _ hw) (cwV 1 hts gX0_breathsIn_X0_cell rfl rfl rfl (by decide +kernel) ⟨Nat.le_of_ble_eq_true rfl, Nat.le_of_ble_eq_true rfl⟩) 0 0 rfl rfl rfl [0, 1] [] [0, 1] rfl rfl rfl rfl (by decide) (fun _ => rfl) rfl rfl hl.1 rfl (Nat.le_of_ble_eq_true rfl) ⟨Nat.zero_le _, Nat.zero_le _⟩ dX0_breathsIn_13 (fun r_3 u H locs hw hP hD hS => ?_)
    refine lv_goto (tgt := 20) hx hb dX0_breathsIn_16 (by decide) ?_
    exact hret r_3 () H _ _ ls hw hP hD hS dX0_breathsIn_20

def wpX0_breathsInAll_L4 (t_bags : Int32) (t_cells : Nat → Int32) (post : Int32 → Prop) : Nat → Int32 → Int32 → Prop
  | 0, _, _ => False
  | n + 1, x1_4, x2_4 => ((t_bags ≤ x2_4 → post x1_4) ∧ (¬ t_bags ≤ x2_4 → wpX0_cell t_cells ((17 : Int32) + x2_4) (fun r_2 => ∀ y_3 : Int32, y_3 = (x1_4 + r_2) → ∀ y_4 : Int32, y_4 = (x2_4 + (1 : Int32)) → wpX0_breathsInAll_L4 t_bags t_cells post n y_3 y_4)))
def wpX0_breathsInAll_E4 (t_bags : Int32) (t_cells : Nat → Int32) (post : Int32 → Prop) (x1_4 : Int32) (x2_4 : Int32) : Prop := ∃ n : Nat, wpX0_breathsInAll_L4 t_bags t_cells post n x1_4 x2_4
def wpX0_breathsInAll (t_bags : Int32) (t_cells : Nat → Int32) (post : Int32 → Prop) : Prop := wpX0_breathsInAll_E4 t_bags t_cells post (0 : Int32) (0 : Int32)
abbrev rmX0_breathsInAll : Room := { frames := 1, cells := 0, slots := 0, locals := 21 }
set_option maxHeartbeats 4000000 in
set_option maxRecDepth 100000 in
theorem mtX0_breathsInAll (l : Launch) (dC : Nat → ClassId) (dI : Nat → Nat → Nat) (cI cZ : ClassId) (a_t : Nat) (a_t_bagKinds : Nat) (a_t_manKinds : Nat) (a_t_cells : Nat) (sz : Nat) (t_bags : Int32) (d_t_men : Int32) (t_cells : Nat → Int32) (post : Int32 → Prop) (hw : wpX0_breathsInAll t_bags t_cells post) : Met l yX0_breathsInAll wsX0_breathsInAll rmX0_breathsInAll (va_Pc [.ref a_t] (kvPre (dC, dI) cI cZ sz [(a_t, .inr (0, [.int t_bags, .int d_t_men, .ref a_t_bagKinds, .ref a_t_manKinds, .ref a_t_cells])), (a_t_cells, .inl (cI, 23, .inl t_cells))])) (va_Qi (fun (r : Int32) (u : Unit) => post r ) (kvB (dC, dI) (va_A [(a_t, .inr (0, [.int t_bags, .int d_t_men, .ref a_t_bagKinds, .ref a_t_manKinds, .ref a_t_cells])), (a_t_cells, .inl (cI, 23, .inl t_cells))] sz) (fun (u : Unit) => [(a_t, .inr (0, [.int t_bags, .int d_t_men, .ref a_t_bagKinds, .ref a_t_manKinds, .ref a_t_cells])), (a_t_cells, .inl (cI, 23, .inl t_cells))])) (va_A [(a_t, .inr (0, [.int t_bags, .int d_t_men, .ref a_t_bagKinds, .ref a_t_manKinds, .ref a_t_cells])), (a_t_cells, .inl (cI, 23, .inl t_cells))] sz)) 0 0 (va_A [(a_t, .inr (0, [.int t_bags, .int d_t_men, .ref a_t_bagKinds, .ref a_t_manKinds, .ref a_t_cells])), (a_t_cells, .inl (cI, 23, .inl t_cells))] sz) := by
  refine kv_metI (y := yX0_breathsInAll) (ws := wsX0_breathsInAll) (rm := rmX0_breathsInAll) (av := [.ref a_t]) (sz := sz) (w := [(a_t, .inr (0, [.int t_bags, .int d_t_men, .ref a_t_bagKinds, .ref a_t_manKinds, .ref a_t_cells])), (a_t_cells, .inl (cI, 23, .inl t_cells))]) (cc := cX0_breathsInAll) (maxL := 3) (own := RX0) (post := (fun (r : Int32) (u : Unit) => post r )) (w1 := (fun (u : Unit) => [(a_t, .inr (0, [.int t_bags, .int d_t_men, .ref a_t_bagKinds, .ref a_t_manKinds, .ref a_t_cells])), (a_t_cells, .inl (cI, 23, .inl t_cells))])) (by decide) rfl rfl (Nat.le_of_ble_eq_true rfl) ?_
  intro p e s m below meth c A Q hx hb hml hown hts hK hX hA hP hD hsz hret ls hl
  have hS : va_S A s.heap s.heap [] := va_S.rf
  have hl : lv_has ls 3 [(0, .ref a_t)] := hl
  have inX0 : ∀ w ∈ u_ws RX0 TX0 5, w ∈ wsX0_breathsInAll := by decide +kernel
  have fl11 := hts (.fieldLink RX0 11 "BreathBags$Camp" "bags" "I") (by decide +kernel)
  have L4 : ∀  (n4 : Nat) (x1_4 : Int32) (x2_4 : Int32) (H : Heap) (locs : List Loc) (ls : Array Slot), wpX0_breathsInAll_L4 t_bags t_cells post n4 x1_4 x2_4 → va_P (dC, dI) vwCl [(a_t, .inr (0, [.int t_bags, .int d_t_men, .ref a_t_bagKinds, .ref a_t_manKinds, .ref a_t_cells])), (a_t_cells, .inl (cI, 23, .inl t_cells))] H → va_D A [(a_t, .inr (0, [.int t_bags, .int d_t_men, .ref a_t_bagKinds, .ref a_t_manKinds, .ref a_t_cells])), (a_t_cells, .inl (cI, 23, .inl t_cells))] → va_S A s.heap H locs → lv_has ls 3 [(0, .ref a_t), (1, .int x1_4), (2, .int x2_4)] → W p l e rmX0_breathsInAll s m [.ref a_t].toArray below meth c H locs 0 0 Q (F0 m 4 ls []) := by
    intro  n4
    induction n4 with
    | zero => intro x1_4 x2_4 H locs ls hw hP hD hS hl; exact hw.elim
    | succ n4 ih4 =>
      intro x1_4 x2_4 H locs ls hw hP hD hS hl
      refine lv_iload_n hx hb dX0_breathsInAll_4 rfl (lv_at hl 2 rfl) ?_
      refine lv_aload_n hx hb dX0_breathsInAll_5 rfl (lv_at hl 0 rfl) ?_
      refine va_get (D := (dC, dI)) (ci := 0) (v := .int t_bags) (C := RX0) (T := TX0) (N := 5) hx hb hts inX0 hown hK hP 0 rfl rfl 0 (by decide) fl11 (fun _ h9 => h9) rfl dX0_breathsInAll_6 ?_
      refine lv_icmp_ge (tgt := 29) hx hb dX0_breathsInAll_9 (by decide) (fun c_1 => ?_) (fun c_1 => ?_)
      · have hw := hw.1 c_1
        refine lv_iload_n hx hb dX0_breathsInAll_29 rfl (lv_at hl 1 rfl) ?_
        exact hret x1_4 () H _ _ ls hw hP hD hS dX0_breathsInAll_30
      · have hw := hw.2 c_1
        refine lv_iload_n hx hb dX0_breathsInAll_12 rfl (lv_at hl 1 rfl) ?_
        refine lv_aload_n hx hb dX0_breathsInAll_13 rfl (lv_at hl 0 rfl) ?_
        refine lv_bipush (v := (17 : Int32)) hx hb dX0_breathsInAll_14 (by decide) ?_
        refine lv_iload_n hx hb dX0_breathsInAll_16 rfl (lv_at hl 2 rfl) ?_
        refine lv_iadd hx hb dX0_breathsInAll_17 ?_
        refine kv_callVi (wr := []) (wn := (fun (u : Unit) => [(a_t, .inr (0, [.int t_bags, .int d_t_men, .ref a_t_bagKinds, .ref a_t_manKinds, .ref a_t_cells])), (a_t_cells, .inl (cI, 23, .inl t_cells))])) (As := [.int ((17 : Int32) + x2_4)]) (rest := [.int x1_4]) ⟨hx, hb, hml, hown, hts⟩ hK hX hA hP hD hS (mtX0_cell l dC dI cI cZ a_t a_t_bagKinds a_t_manKinds a_t_cells H.size t_bags d_t_men t_cells ((17 : Int32) + x2_4) _ hw) (cwV 1 hts gX0_breathsInAll_X0_cell rfl rfl rfl (by decide +kernel) ⟨Nat.le_of_ble_eq_true rfl, Nat.le_of_ble_eq_true rfl⟩) 0 0 rfl rfl rfl [0, 1] [] [0, 1] rfl rfl rfl rfl (by decide) (fun _ => rfl) rfl rfl hl.1 rfl (Nat.le_of_ble_eq_true rfl) ⟨Nat.zero_le _, Nat.zero_le _⟩ dX0_breathsInAll_18 (fun r_2 u H locs hw hP hD hS => ?_)
        refine lv_iadd hx hb dX0_breathsInAll_21 ?_
        refine lv_topi (fun y_3 ey_3 => ?_)
        have hw := hw y_3 ey_3
        refine lv_istore_n (lv' := [(1, .int y_3), (0, .ref a_t), (2, .int x2_4)]) hx hb dX0_breathsInAll_22 rfl hl (by decide) rfl (fun ls hl => ?_)
        obtain ⟨y_4, ey_4⟩ : ∃ y : Int32, y = (x2_4 + (1 : Int32)) := ⟨_, rfl⟩
        have hw := hw y_4 ey_4
        refine lv_iinc (v := y_4) (lv' := [(2, .int y_4), (1, .int y_3), (0, .ref a_t)]) hx hb dX0_breathsInAll_23 hl (k := 2) rfl (by rw [ey_4]; rfl) (by decide) rfl (fun ls hl => ?_)
        refine lv_goto (tgt := 4) hx hb dX0_breathsInAll_26 (by decide) ?_
        exact ih4 y_3 y_4 H _ ls hw hP hD hS (lv_sub hl [2, 1, 0] rfl)
  have E4 : ∀ (x1_4 : Int32) (x2_4 : Int32) (H : Heap) (locs : List Loc) (ls : Array Slot), wpX0_breathsInAll_E4 t_bags t_cells post x1_4 x2_4 → va_P (dC, dI) vwCl [(a_t, .inr (0, [.int t_bags, .int d_t_men, .ref a_t_bagKinds, .ref a_t_manKinds, .ref a_t_cells])), (a_t_cells, .inl (cI, 23, .inl t_cells))] H → va_D A [(a_t, .inr (0, [.int t_bags, .int d_t_men, .ref a_t_bagKinds, .ref a_t_manKinds, .ref a_t_cells])), (a_t_cells, .inl (cI, 23, .inl t_cells))] → va_S A s.heap H locs → lv_has ls 3 [(0, .ref a_t), (1, .int x1_4), (2, .int x2_4)] → W p l e rmX0_breathsInAll s m [.ref a_t].toArray below meth c H locs 0 0 Q (F0 m 4 ls []) := by
    intro x1_4 x2_4 H locs ls hw hP hD hS hl
    obtain ⟨n, hw⟩ := hw
    exact L4  n x1_4 x2_4 H locs ls hw hP hD hS hl
  refine lv_iconst (v := (0 : Int32)) hx hb dX0_breathsInAll_0 (by decide) ?_
  refine lv_istore_n (lv' := [(1, .int (0 : Int32)), (0, .ref a_t)]) hx hb dX0_breathsInAll_1 rfl hl (by decide) rfl (fun ls hl => ?_)
  refine lv_iconst (v := (0 : Int32)) hx hb dX0_breathsInAll_2 (by decide) ?_
  refine lv_istore_n (lv' := [(2, .int (0 : Int32)), (1, .int (0 : Int32)), (0, .ref a_t)]) hx hb dX0_breathsInAll_3 rfl hl (by decide) rfl (fun ls hl => ?_)
  exact E4 (0 : Int32) (0 : Int32) s.heap _ ls hw hP hD hS (lv_sub hl [2, 1, 0] rfl)

def wpX0_hasRoom (t_bags : Int32) (t_cells : Nat → Int32) (post : Int32 → Prop) : Prop := wpX0_breathsInAll t_bags t_cells (fun r_1 => ((((9 : Int32) * t_bags) ≤ r_1 → post (0 : Int32)) ∧ (¬ ((9 : Int32) * t_bags) ≤ r_1 → post (1 : Int32))))
abbrev rmX0_hasRoom : Room := { frames := 2, cells := 0, slots := 0, locals := 43 }
set_option maxHeartbeats 4000000 in
set_option maxRecDepth 100000 in
theorem mtX0_hasRoom (l : Launch) (dC : Nat → ClassId) (dI : Nat → Nat → Nat) (cI cZ : ClassId) (a_t : Nat) (a_t_bagKinds : Nat) (a_t_manKinds : Nat) (a_t_cells : Nat) (sz : Nat) (t_bags : Int32) (d_t_men : Int32) (t_cells : Nat → Int32) (post : Int32 → Prop) (hw : wpX0_hasRoom t_bags t_cells post) : Met l yX0_hasRoom wsX0_hasRoom rmX0_hasRoom (va_Pc [.ref a_t] (kvPre (dC, dI) cI cZ sz [(a_t, .inr (0, [.int t_bags, .int d_t_men, .ref a_t_bagKinds, .ref a_t_manKinds, .ref a_t_cells])), (a_t_cells, .inl (cI, 23, .inl t_cells))])) (va_Qi (fun (r : Int32) (u : Unit) => vb r ∧ post r ) (kvB (dC, dI) (va_A [(a_t, .inr (0, [.int t_bags, .int d_t_men, .ref a_t_bagKinds, .ref a_t_manKinds, .ref a_t_cells])), (a_t_cells, .inl (cI, 23, .inl t_cells))] sz) (fun (u : Unit) => [(a_t, .inr (0, [.int t_bags, .int d_t_men, .ref a_t_bagKinds, .ref a_t_manKinds, .ref a_t_cells])), (a_t_cells, .inl (cI, 23, .inl t_cells))])) (va_A [(a_t, .inr (0, [.int t_bags, .int d_t_men, .ref a_t_bagKinds, .ref a_t_manKinds, .ref a_t_cells])), (a_t_cells, .inl (cI, 23, .inl t_cells))] sz)) 0 0 (va_A [(a_t, .inr (0, [.int t_bags, .int d_t_men, .ref a_t_bagKinds, .ref a_t_manKinds, .ref a_t_cells])), (a_t_cells, .inl (cI, 23, .inl t_cells))] sz) := by
  refine kv_metZ (y := yX0_hasRoom) (ws := wsX0_hasRoom) (rm := rmX0_hasRoom) (av := [.ref a_t]) (sz := sz) (w := [(a_t, .inr (0, [.int t_bags, .int d_t_men, .ref a_t_bagKinds, .ref a_t_manKinds, .ref a_t_cells])), (a_t_cells, .inl (cI, 23, .inl t_cells))]) (cc := cX0_hasRoom) (maxL := 1) (own := RX0) (post := (fun (r : Int32) (u : Unit) => post r )) (w1 := (fun (u : Unit) => [(a_t, .inr (0, [.int t_bags, .int d_t_men, .ref a_t_bagKinds, .ref a_t_manKinds, .ref a_t_cells])), (a_t_cells, .inl (cI, 23, .inl t_cells))])) (by decide) rfl rfl (Nat.le_of_ble_eq_true rfl) ?_
  intro p e s m below meth c A Q hx hb hml hown hts hK hX hA hP hD hsz hret ls hl
  have hS : va_S A s.heap s.heap [] := va_S.rf
  have hl : lv_has ls 1 [(0, .ref a_t)] := hl
  have inX0 : ∀ w ∈ u_ws RX0 TX0 5, w ∈ wsX0_hasRoom := by decide +kernel
  have fl11 := hts (.fieldLink RX0 11 "BreathBags$Camp" "bags" "I") (by decide +kernel)
  refine lv_aload_n hx hb dX0_hasRoom_0 rfl (lv_at hl 0 rfl) ?_
  refine kv_callVi (wr := []) (wn := (fun (u : Unit) => [(a_t, .inr (0, [.int t_bags, .int d_t_men, .ref a_t_bagKinds, .ref a_t_manKinds, .ref a_t_cells])), (a_t_cells, .inl (cI, 23, .inl t_cells))])) (As := []) (rest := []) ⟨hx, hb, hml, hown, hts⟩ hK hX hA hP hD hS (mtX0_breathsInAll l dC dI cI cZ a_t a_t_bagKinds a_t_manKinds a_t_cells s.heap.size t_bags d_t_men t_cells _ hw) (cwV 0 hts gX0_hasRoom_X0_breathsInAll rfl rfl rfl (by decide +kernel) ⟨Nat.le_of_ble_eq_true rfl, Nat.le_of_ble_eq_true rfl⟩) 0 0 rfl rfl rfl [0, 1] [] [0, 1] rfl rfl rfl rfl (by decide) (fun _ => rfl) rfl rfl hl.1 rfl (Nat.le_of_ble_eq_true rfl) ⟨Nat.zero_le _, Nat.zero_le _⟩ dX0_hasRoom_1 (fun r_1 u H locs hw hP hD hS => ?_)
  refine lv_bipush (v := (9 : Int32)) hx hb dX0_hasRoom_4 (by decide) ?_
  refine lv_aload_n hx hb dX0_hasRoom_6 rfl (lv_at hl 0 rfl) ?_
  refine va_get (D := (dC, dI)) (ci := 0) (v := .int t_bags) (C := RX0) (T := TX0) (N := 5) hx hb hts inX0 hown hK hP 0 rfl rfl 0 (by decide) fl11 (fun _ h9 => h9) rfl dX0_hasRoom_7 ?_
  refine lv_imul hx hb dX0_hasRoom_10 ?_
  refine lv_icmp_ge (tgt := 18) hx hb dX0_hasRoom_11 (by decide) (fun c_2 => ?_) (fun c_2 => ?_)
  · have hw := hw.1 c_2
    refine lv_iconst (v := (0 : Int32)) hx hb dX0_hasRoom_18 (by decide) ?_
    exact hret (0 : Int32) () H _ _ ls vb0 hw hP hD hS dX0_hasRoom_19
  · have hw := hw.2 c_2
    refine lv_iconst (v := (1 : Int32)) hx hb dX0_hasRoom_14 (by decide) ?_
    refine lv_goto (tgt := 19) hx hb dX0_hasRoom_15 (by decide) ?_
    exact hret (1 : Int32) () H _ _ ls vb1 hw hP hD hS dX0_hasRoom_19

def wpX0_owner (t_cells : Nat → Int32) (x1 : Int32) (x2 : Int32) (post : Int32 → Prop) : Prop := wpX0_cell t_cells ((20 : Int32) + x1) (fun r_1 => post ((r_1 >>> (((3 : Int32) * x2) &&& 31)) &&& (7 : Int32)))
abbrev rmX0_owner : Room := { frames := 1, cells := 0, slots := 0, locals := 21 }
set_option maxHeartbeats 4000000 in
set_option maxRecDepth 100000 in
theorem mtX0_owner (l : Launch) (dC : Nat → ClassId) (dI : Nat → Nat → Nat) (cI cZ : ClassId) (a_t : Nat) (a_t_bagKinds : Nat) (a_t_manKinds : Nat) (a_t_cells : Nat) (sz : Nat) (d_t_bags : Int32) (d_t_men : Int32) (t_cells : Nat → Int32) (x1 : Int32) (x2 : Int32) (post : Int32 → Prop) (hw : wpX0_owner t_cells x1 x2 post) : Met l yX0_owner wsX0_owner rmX0_owner (va_Pc [.ref a_t, .int x1, .int x2] (kvPre (dC, dI) cI cZ sz [(a_t, .inr (0, [.int d_t_bags, .int d_t_men, .ref a_t_bagKinds, .ref a_t_manKinds, .ref a_t_cells])), (a_t_cells, .inl (cI, 23, .inl t_cells))])) (va_Qi (fun (r : Int32) (u : Unit) => post r ) (kvB (dC, dI) (va_A [(a_t, .inr (0, [.int d_t_bags, .int d_t_men, .ref a_t_bagKinds, .ref a_t_manKinds, .ref a_t_cells])), (a_t_cells, .inl (cI, 23, .inl t_cells))] sz) (fun (u : Unit) => [(a_t, .inr (0, [.int d_t_bags, .int d_t_men, .ref a_t_bagKinds, .ref a_t_manKinds, .ref a_t_cells])), (a_t_cells, .inl (cI, 23, .inl t_cells))])) (va_A [(a_t, .inr (0, [.int d_t_bags, .int d_t_men, .ref a_t_bagKinds, .ref a_t_manKinds, .ref a_t_cells])), (a_t_cells, .inl (cI, 23, .inl t_cells))] sz)) 0 0 (va_A [(a_t, .inr (0, [.int d_t_bags, .int d_t_men, .ref a_t_bagKinds, .ref a_t_manKinds, .ref a_t_cells])), (a_t_cells, .inl (cI, 23, .inl t_cells))] sz) := by
  refine kv_metI (y := yX0_owner) (ws := wsX0_owner) (rm := rmX0_owner) (av := [.ref a_t, .int x1, .int x2]) (sz := sz) (w := [(a_t, .inr (0, [.int d_t_bags, .int d_t_men, .ref a_t_bagKinds, .ref a_t_manKinds, .ref a_t_cells])), (a_t_cells, .inl (cI, 23, .inl t_cells))]) (cc := cX0_owner) (maxL := 3) (own := RX0) (post := (fun (r : Int32) (u : Unit) => post r )) (w1 := (fun (u : Unit) => [(a_t, .inr (0, [.int d_t_bags, .int d_t_men, .ref a_t_bagKinds, .ref a_t_manKinds, .ref a_t_cells])), (a_t_cells, .inl (cI, 23, .inl t_cells))])) (by decide) rfl rfl (Nat.le_of_ble_eq_true rfl) ?_
  intro p e s m below meth c A Q hx hb hml hown hts hK hX hA hP hD hsz hret ls hl
  have hS : va_S A s.heap s.heap [] := va_S.rf
  have hl : lv_has ls 3 [(0, .ref a_t), (1, .int x1), (2, .int x2)] := hl
  refine lv_aload_n hx hb dX0_owner_0 rfl (lv_at hl 0 rfl) ?_
  refine lv_bipush (v := (20 : Int32)) hx hb dX0_owner_1 (by decide) ?_
  refine lv_iload_n hx hb dX0_owner_3 rfl (lv_at hl 1 rfl) ?_
  refine lv_iadd hx hb dX0_owner_4 ?_
  refine kv_callVi (wr := []) (wn := (fun (u : Unit) => [(a_t, .inr (0, [.int d_t_bags, .int d_t_men, .ref a_t_bagKinds, .ref a_t_manKinds, .ref a_t_cells])), (a_t_cells, .inl (cI, 23, .inl t_cells))])) (As := [.int ((20 : Int32) + x1)]) (rest := []) ⟨hx, hb, hml, hown, hts⟩ hK hX hA hP hD hS (mtX0_cell l dC dI cI cZ a_t a_t_bagKinds a_t_manKinds a_t_cells s.heap.size d_t_bags d_t_men t_cells ((20 : Int32) + x1) _ hw) (cwV 1 hts gX0_owner_X0_cell rfl rfl rfl (by decide +kernel) ⟨Nat.le_of_ble_eq_true rfl, Nat.le_of_ble_eq_true rfl⟩) 0 0 rfl rfl rfl [0, 1] [] [0, 1] rfl rfl rfl rfl (by decide) (fun _ => rfl) rfl rfl hl.1 rfl (Nat.le_of_ble_eq_true rfl) ⟨Nat.zero_le _, Nat.zero_le _⟩ dX0_owner_5 (fun r_1 u H locs hw hP hD hS => ?_)
  refine lv_iconst (v := (3 : Int32)) hx hb dX0_owner_8 (by decide) ?_
  refine lv_iload_n hx hb dX0_owner_9 rfl (lv_at hl 2 rfl) ?_
  refine lv_imul hx hb dX0_owner_10 ?_
  refine lv_ishr hx hb dX0_owner_11 ?_
  refine lv_bipush (v := (7 : Int32)) hx hb dX0_owner_12 (by decide) ?_
  refine lv_iand hx hb dX0_owner_14 ?_
  exact hret ((r_1 >>> (((3 : Int32) * x2) &&& 31)) &&& (7 : Int32)) () H _ _ ls hw hP hD hS dX0_owner_15

def wpX0_breathsOfIn_J32 (t_bags : Int32) (t_cells : Nat → Int32) (x1 : Int32) (x2 : Int32) (kL5 : Int32 → Int32 → Prop) (post : Int32 → Prop) (x4_32 : Int32) (k0_32 : Int32) (k1_32 : Int32) : Prop := ∀ y_1 : Int32, y_1 = (k1_32 + k0_32) → ∀ y_2 : Int32, y_2 = (x4_32 + (1 : Int32)) → kL5 y_1 y_2
def wpX0_breathsOfIn_L5 (t_bags : Int32) (t_cells : Nat → Int32) (x1 : Int32) (x2 : Int32) (post : Int32 → Prop) : Nat → Int32 → Int32 → Prop
  | 0, _, _ => False
  | n + 1, x3_5, x4_5 => wpX0_breathsIn t_bags t_cells x2 (fun r_3 => ((r_3 ≤ x4_5 → post x3_5) ∧ (¬ r_3 ≤ x4_5 → wpX0_owner t_cells x2 x4_5 (fun r_5 => ((¬ r_5 = x1 → wpX0_breathsOfIn_J32 t_bags t_cells x1 x2 (wpX0_breathsOfIn_L5 t_bags t_cells x1 x2 post n) post x4_5 (0 : Int32) x3_5) ∧ (r_5 = x1 → wpX0_breathsOfIn_J32 t_bags t_cells x1 x2 (wpX0_breathsOfIn_L5 t_bags t_cells x1 x2 post n) post x4_5 (1 : Int32) x3_5))))))
def wpX0_breathsOfIn_E5 (t_bags : Int32) (t_cells : Nat → Int32) (x1 : Int32) (x2 : Int32) (post : Int32 → Prop) (x3_5 : Int32) (x4_5 : Int32) : Prop := ∃ n : Nat, wpX0_breathsOfIn_L5 t_bags t_cells x1 x2 post n x3_5 x4_5
def wpX0_breathsOfIn (t_bags : Int32) (t_cells : Nat → Int32) (x1 : Int32) (x2 : Int32) (post : Int32 → Prop) : Prop := wpX0_breathsOfIn_E5 t_bags t_cells x1 x2 post (0 : Int32) (0 : Int32)
abbrev rmX0_breathsOfIn : Room := { frames := 2, cells := 0, slots := 0, locals := 43 }
set_option maxHeartbeats 4000000 in
set_option maxRecDepth 100000 in
theorem mtX0_breathsOfIn (l : Launch) (dC : Nat → ClassId) (dI : Nat → Nat → Nat) (cI cZ : ClassId) (a_t : Nat) (a_t_bagKinds : Nat) (a_t_manKinds : Nat) (a_t_cells : Nat) (sz : Nat) (t_bags : Int32) (d_t_men : Int32) (t_cells : Nat → Int32) (x1 : Int32) (x2 : Int32) (post : Int32 → Prop) (hw : wpX0_breathsOfIn t_bags t_cells x1 x2 post) : Met l yX0_breathsOfIn wsX0_breathsOfIn rmX0_breathsOfIn (va_Pc [.ref a_t, .int x1, .int x2] (kvPre (dC, dI) cI cZ sz [(a_t, .inr (0, [.int t_bags, .int d_t_men, .ref a_t_bagKinds, .ref a_t_manKinds, .ref a_t_cells])), (a_t_cells, .inl (cI, 23, .inl t_cells))])) (va_Qi (fun (r : Int32) (u : Unit) => post r ) (kvB (dC, dI) (va_A [(a_t, .inr (0, [.int t_bags, .int d_t_men, .ref a_t_bagKinds, .ref a_t_manKinds, .ref a_t_cells])), (a_t_cells, .inl (cI, 23, .inl t_cells))] sz) (fun (u : Unit) => [(a_t, .inr (0, [.int t_bags, .int d_t_men, .ref a_t_bagKinds, .ref a_t_manKinds, .ref a_t_cells])), (a_t_cells, .inl (cI, 23, .inl t_cells))])) (va_A [(a_t, .inr (0, [.int t_bags, .int d_t_men, .ref a_t_bagKinds, .ref a_t_manKinds, .ref a_t_cells])), (a_t_cells, .inl (cI, 23, .inl t_cells))] sz)) 0 0 (va_A [(a_t, .inr (0, [.int t_bags, .int d_t_men, .ref a_t_bagKinds, .ref a_t_manKinds, .ref a_t_cells])), (a_t_cells, .inl (cI, 23, .inl t_cells))] sz) := by
  refine kv_metI (y := yX0_breathsOfIn) (ws := wsX0_breathsOfIn) (rm := rmX0_breathsOfIn) (av := [.ref a_t, .int x1, .int x2]) (sz := sz) (w := [(a_t, .inr (0, [.int t_bags, .int d_t_men, .ref a_t_bagKinds, .ref a_t_manKinds, .ref a_t_cells])), (a_t_cells, .inl (cI, 23, .inl t_cells))]) (cc := cX0_breathsOfIn) (maxL := 5) (own := RX0) (post := (fun (r : Int32) (u : Unit) => post r )) (w1 := (fun (u : Unit) => [(a_t, .inr (0, [.int t_bags, .int d_t_men, .ref a_t_bagKinds, .ref a_t_manKinds, .ref a_t_cells])), (a_t_cells, .inl (cI, 23, .inl t_cells))])) (by decide) rfl rfl (Nat.le_of_ble_eq_true rfl) ?_
  intro p e s m below meth c A Q hx hb hml hown hts hK hX hA hP hD hsz hret ls hl
  have hS : va_S A s.heap s.heap [] := va_S.rf
  have hl : lv_has ls 5 [(0, .ref a_t), (1, .int x1), (2, .int x2)] := hl
  have L5 : ∀  (n5 : Nat) (x3_5 : Int32) (x4_5 : Int32) (H : Heap) (locs : List Loc) (ls : Array Slot), wpX0_breathsOfIn_L5 t_bags t_cells x1 x2 post n5 x3_5 x4_5 → va_P (dC, dI) vwCl [(a_t, .inr (0, [.int t_bags, .int d_t_men, .ref a_t_bagKinds, .ref a_t_manKinds, .ref a_t_cells])), (a_t_cells, .inl (cI, 23, .inl t_cells))] H → va_D A [(a_t, .inr (0, [.int t_bags, .int d_t_men, .ref a_t_bagKinds, .ref a_t_manKinds, .ref a_t_cells])), (a_t_cells, .inl (cI, 23, .inl t_cells))] → va_S A s.heap H locs → lv_has ls 5 [(0, .ref a_t), (1, .int x1), (2, .int x2), (3, .int x3_5), (4, .int x4_5)] → W p l e rmX0_breathsOfIn s m [.ref a_t, .int x1, .int x2].toArray below meth c H locs 0 0 Q (F0 m 5 ls []) := by
    intro  n5
    induction n5 with
    | zero => intro x3_5 x4_5 H locs ls hw hP hD hS hl; exact hw.elim
    | succ n5 ih5 =>
      have B32 : ∀ (x4_32 : Int32) (k0_32 : Int32) (k1_32 : Int32) (H : Heap) (locs : List Loc) (ls : Array Slot), wpX0_breathsOfIn_J32 t_bags t_cells x1 x2 (wpX0_breathsOfIn_L5 t_bags t_cells x1 x2 post n5) post x4_32 k0_32 k1_32 → va_P (dC, dI) vwCl [(a_t, .inr (0, [.int t_bags, .int d_t_men, .ref a_t_bagKinds, .ref a_t_manKinds, .ref a_t_cells])), (a_t_cells, .inl (cI, 23, .inl t_cells))] H → va_D A [(a_t, .inr (0, [.int t_bags, .int d_t_men, .ref a_t_bagKinds, .ref a_t_manKinds, .ref a_t_cells])), (a_t_cells, .inl (cI, 23, .inl t_cells))] → va_S A s.heap H locs → lv_has ls 5 [(0, .ref a_t), (1, .int x1), (2, .int x2), (4, .int x4_32)] → W p l e rmX0_breathsOfIn s m [.ref a_t, .int x1, .int x2].toArray below meth c H locs 0 0 Q (F0 m 32 ls [.int k0_32, .int k1_32]) := by
        intro x4_32 k0_32 k1_32 H locs ls hw hP hD hS hl
        refine lv_iadd hx hb dX0_breathsOfIn_32 ?_
        refine lv_topi (fun y_1 ey_1 => ?_)
        have hw := hw y_1 ey_1
        refine lv_istore_n (lv' := [(3, .int y_1), (0, .ref a_t), (1, .int x1), (2, .int x2), (4, .int x4_32)]) hx hb dX0_breathsOfIn_33 rfl hl (by decide) rfl (fun ls hl => ?_)
        obtain ⟨y_2, ey_2⟩ : ∃ y : Int32, y = (x4_32 + (1 : Int32)) := ⟨_, rfl⟩
        have hw := hw y_2 ey_2
        refine lv_iinc (v := y_2) (lv' := [(4, .int y_2), (3, .int y_1), (0, .ref a_t), (1, .int x1), (2, .int x2)]) hx hb dX0_breathsOfIn_34 hl (k := 4) rfl (by rw [ey_2]; rfl) (by decide) rfl (fun ls hl => ?_)
        refine lv_goto (tgt := 5) hx hb dX0_breathsOfIn_37 (by decide) ?_
        exact ih5 y_1 y_2 H _ ls hw hP hD hS (lv_sub hl [2, 3, 4, 1, 0] rfl)
      intro x3_5 x4_5 H locs ls hw hP hD hS hl
      refine lv_iload hx hb dX0_breathsOfIn_5 (lv_at hl 4 rfl) ?_
      refine lv_aload_n hx hb dX0_breathsOfIn_7 rfl (lv_at hl 0 rfl) ?_
      refine lv_iload_n hx hb dX0_breathsOfIn_8 rfl (lv_at hl 2 rfl) ?_
      refine kv_callVi (wr := []) (wn := (fun (u : Unit) => [(a_t, .inr (0, [.int t_bags, .int d_t_men, .ref a_t_bagKinds, .ref a_t_manKinds, .ref a_t_cells])), (a_t_cells, .inl (cI, 23, .inl t_cells))])) (As := [.int x2]) (rest := [.int x4_5]) ⟨hx, hb, hml, hown, hts⟩ hK hX hA hP hD hS (mtX0_breathsIn l dC dI cI cZ a_t a_t_bagKinds a_t_manKinds a_t_cells H.size t_bags d_t_men t_cells x2 _ hw) (cwV 1 hts gX0_breathsOfIn_X0_breathsIn rfl rfl rfl (by decide +kernel) ⟨Nat.le_of_ble_eq_true rfl, Nat.le_of_ble_eq_true rfl⟩) 0 0 rfl rfl rfl [0, 1] [] [0, 1] rfl rfl rfl rfl (by decide) (fun _ => rfl) rfl rfl hl.1 rfl (Nat.le_of_ble_eq_true rfl) ⟨Nat.zero_le _, Nat.zero_le _⟩ dX0_breathsOfIn_9 (fun r_3 u H locs hw hP hD hS => ?_)
      refine lv_icmp_ge (tgt := 40) hx hb dX0_breathsOfIn_12 (by decide) (fun c_4 => ?_) (fun c_4 => ?_)
      · have hw := hw.1 c_4
        refine lv_iload_n hx hb dX0_breathsOfIn_40 rfl (lv_at hl 3 rfl) ?_
        exact hret x3_5 () H _ _ ls hw hP hD hS dX0_breathsOfIn_41
      · have hw := hw.2 c_4
        refine lv_iload_n hx hb dX0_breathsOfIn_15 rfl (lv_at hl 3 rfl) ?_
        refine lv_aload_n hx hb dX0_breathsOfIn_16 rfl (lv_at hl 0 rfl) ?_
        refine lv_iload_n hx hb dX0_breathsOfIn_17 rfl (lv_at hl 2 rfl) ?_
        refine lv_iload hx hb dX0_breathsOfIn_18 (lv_at hl 4 rfl) ?_
        refine kv_callVi (wr := []) (wn := (fun (u : Unit) => [(a_t, .inr (0, [.int t_bags, .int d_t_men, .ref a_t_bagKinds, .ref a_t_manKinds, .ref a_t_cells])), (a_t_cells, .inl (cI, 23, .inl t_cells))])) (As := [.int x2, .int x4_5]) (rest := [.int x3_5]) ⟨hx, hb, hml, hown, hts⟩ hK hX hA hP hD hS (mtX0_owner l dC dI cI cZ a_t a_t_bagKinds a_t_manKinds a_t_cells H.size t_bags d_t_men t_cells x2 x4_5 _ hw) (cwV 2 hts gX0_breathsOfIn_X0_owner rfl rfl rfl (by decide +kernel) ⟨Nat.le_of_ble_eq_true rfl, Nat.le_of_ble_eq_true rfl⟩) 0 0 rfl rfl rfl [0, 1] [] [0, 1] rfl rfl rfl rfl (by decide) (fun _ => rfl) rfl rfl hl.1 rfl (Nat.le_of_ble_eq_true rfl) ⟨Nat.zero_le _, Nat.zero_le _⟩ dX0_breathsOfIn_20 (fun r_5 u H locs hw hP hD hS => ?_)
        refine lv_iload_n hx hb dX0_breathsOfIn_23 rfl (lv_at hl 1 rfl) ?_
        refine lv_icmp_ne (tgt := 31) hx hb dX0_breathsOfIn_24 (by decide) (fun c_6 => ?_) (fun c_6 => ?_)
        · have hw := hw.1 c_6
          refine lv_iconst (v := (0 : Int32)) hx hb dX0_breathsOfIn_31 (by decide) ?_
          exact B32 x4_5 (0 : Int32) x3_5 H _ ls hw hP hD hS (lv_sub hl [0, 1, 2, 4] rfl)
        · have hw := hw.2 c_6
          refine lv_iconst (v := (1 : Int32)) hx hb dX0_breathsOfIn_27 (by decide) ?_
          refine lv_goto (tgt := 32) hx hb dX0_breathsOfIn_28 (by decide) ?_
          exact B32 x4_5 (1 : Int32) x3_5 H _ ls hw hP hD hS (lv_sub hl [0, 1, 2, 4] rfl)
  have E5 : ∀ (x3_5 : Int32) (x4_5 : Int32) (H : Heap) (locs : List Loc) (ls : Array Slot), wpX0_breathsOfIn_E5 t_bags t_cells x1 x2 post x3_5 x4_5 → va_P (dC, dI) vwCl [(a_t, .inr (0, [.int t_bags, .int d_t_men, .ref a_t_bagKinds, .ref a_t_manKinds, .ref a_t_cells])), (a_t_cells, .inl (cI, 23, .inl t_cells))] H → va_D A [(a_t, .inr (0, [.int t_bags, .int d_t_men, .ref a_t_bagKinds, .ref a_t_manKinds, .ref a_t_cells])), (a_t_cells, .inl (cI, 23, .inl t_cells))] → va_S A s.heap H locs → lv_has ls 5 [(0, .ref a_t), (1, .int x1), (2, .int x2), (3, .int x3_5), (4, .int x4_5)] → W p l e rmX0_breathsOfIn s m [.ref a_t, .int x1, .int x2].toArray below meth c H locs 0 0 Q (F0 m 5 ls []) := by
    intro x3_5 x4_5 H locs ls hw hP hD hS hl
    obtain ⟨n, hw⟩ := hw
    exact L5  n x3_5 x4_5 H locs ls hw hP hD hS hl
  refine lv_iconst (v := (0 : Int32)) hx hb dX0_breathsOfIn_0 (by decide) ?_
  refine lv_istore_n (lv' := [(3, .int (0 : Int32)), (0, .ref a_t), (1, .int x1), (2, .int x2)]) hx hb dX0_breathsOfIn_1 rfl hl (by decide) rfl (fun ls hl => ?_)
  refine lv_iconst (v := (0 : Int32)) hx hb dX0_breathsOfIn_2 (by decide) ?_
  refine lv_istore (lv' := [(4, .int (0 : Int32)), (3, .int (0 : Int32)), (0, .ref a_t), (1, .int x1), (2, .int x2)]) hx hb dX0_breathsOfIn_3 hl (by decide) rfl (fun ls hl => ?_)
  exact E5 (0 : Int32) (0 : Int32) s.heap _ ls hw hP hD hS (lv_sub hl [2, 3, 4, 1, 0] rfl)

def wpX0_breathsOfThese_J45 (t_bags : Int32) (t_cells : Nat → Int32) (x1 : Int32) (kL4 : Int32 → Int32 → Prop) (post : Int32 → Prop) (x2_45 : Int32) (x3_45 : Int32) : Prop := ∀ y_1 : Int32, y_1 = (x3_45 + (1 : Int32)) → kL4 x2_45 y_1
def wpX0_breathsOfThese_L15 (t_bags : Int32) (t_cells : Nat → Int32) (x1 : Int32) (x3_15 : Int32) (kJ45 : Int32 → Int32 → Prop) (post : Int32 → Prop) : Nat → Int32 → Int32 → Prop
  | 0, _, _ => False
  | n + 1, x2_15, x4_15 => wpX0_breathsIn t_bags t_cells x3_15 (fun r_2 => ((r_2 ≤ x4_15 → kJ45 x2_15 x3_15) ∧ (¬ r_2 ≤ x4_15 → wpX0_owner t_cells x3_15 x4_15 (fun r_4 => ∀ y_5 : Int32, y_5 = (x2_15 + ((x1 >>> (r_4 &&& 31)) &&& (1 : Int32))) → ∀ y_6 : Int32, y_6 = (x4_15 + (1 : Int32)) → wpX0_breathsOfThese_L15 t_bags t_cells x1 x3_15 kJ45 post n y_5 y_6))))
def wpX0_breathsOfThese_E15 (t_bags : Int32) (t_cells : Nat → Int32) (x1 : Int32) (kL4 : Int32 → Int32 → Prop) (post : Int32 → Prop) (x2_15 : Int32) (x3_15 : Int32) (x4_15 : Int32) : Prop := ∃ n : Nat, wpX0_breathsOfThese_L15 t_bags t_cells x1 x3_15 (wpX0_breathsOfThese_J45 t_bags t_cells x1 kL4 post) post n x2_15 x4_15
def wpX0_breathsOfThese_L4 (t_bags : Int32) (t_cells : Nat → Int32) (x1 : Int32) (post : Int32 → Prop) : Nat → Int32 → Int32 → Prop
  | 0, _, _ => False
  | n + 1, x2_4, x3_4 => ((t_bags ≤ x3_4 → post x2_4) ∧ (¬ t_bags ≤ x3_4 → wpX0_breathsOfThese_E15 t_bags t_cells x1 (wpX0_breathsOfThese_L4 t_bags t_cells x1 post n) post x2_4 x3_4 (0 : Int32)))
def wpX0_breathsOfThese_E4 (t_bags : Int32) (t_cells : Nat → Int32) (x1 : Int32) (post : Int32 → Prop) (x2_4 : Int32) (x3_4 : Int32) : Prop := ∃ n : Nat, wpX0_breathsOfThese_L4 t_bags t_cells x1 post n x2_4 x3_4
def wpX0_breathsOfThese (t_bags : Int32) (t_cells : Nat → Int32) (x1 : Int32) (post : Int32 → Prop) : Prop := wpX0_breathsOfThese_E4 t_bags t_cells x1 post (0 : Int32) (0 : Int32)
abbrev rmX0_breathsOfThese : Room := { frames := 2, cells := 0, slots := 0, locals := 43 }
set_option maxHeartbeats 4000000 in
set_option maxRecDepth 100000 in
theorem mtX0_breathsOfThese (l : Launch) (dC : Nat → ClassId) (dI : Nat → Nat → Nat) (cI cZ : ClassId) (a_t : Nat) (a_t_bagKinds : Nat) (a_t_manKinds : Nat) (a_t_cells : Nat) (sz : Nat) (t_bags : Int32) (d_t_men : Int32) (t_cells : Nat → Int32) (x1 : Int32) (post : Int32 → Prop) (hw : wpX0_breathsOfThese t_bags t_cells x1 post) : Met l yX0_breathsOfThese wsX0_breathsOfThese rmX0_breathsOfThese (va_Pc [.ref a_t, .int x1] (kvPre (dC, dI) cI cZ sz [(a_t, .inr (0, [.int t_bags, .int d_t_men, .ref a_t_bagKinds, .ref a_t_manKinds, .ref a_t_cells])), (a_t_cells, .inl (cI, 23, .inl t_cells))])) (va_Qi (fun (r : Int32) (u : Unit) => post r ) (kvB (dC, dI) (va_A [(a_t, .inr (0, [.int t_bags, .int d_t_men, .ref a_t_bagKinds, .ref a_t_manKinds, .ref a_t_cells])), (a_t_cells, .inl (cI, 23, .inl t_cells))] sz) (fun (u : Unit) => [(a_t, .inr (0, [.int t_bags, .int d_t_men, .ref a_t_bagKinds, .ref a_t_manKinds, .ref a_t_cells])), (a_t_cells, .inl (cI, 23, .inl t_cells))])) (va_A [(a_t, .inr (0, [.int t_bags, .int d_t_men, .ref a_t_bagKinds, .ref a_t_manKinds, .ref a_t_cells])), (a_t_cells, .inl (cI, 23, .inl t_cells))] sz)) 0 0 (va_A [(a_t, .inr (0, [.int t_bags, .int d_t_men, .ref a_t_bagKinds, .ref a_t_manKinds, .ref a_t_cells])), (a_t_cells, .inl (cI, 23, .inl t_cells))] sz) := by
  refine kv_metI (y := yX0_breathsOfThese) (ws := wsX0_breathsOfThese) (rm := rmX0_breathsOfThese) (av := [.ref a_t, .int x1]) (sz := sz) (w := [(a_t, .inr (0, [.int t_bags, .int d_t_men, .ref a_t_bagKinds, .ref a_t_manKinds, .ref a_t_cells])), (a_t_cells, .inl (cI, 23, .inl t_cells))]) (cc := cX0_breathsOfThese) (maxL := 5) (own := RX0) (post := (fun (r : Int32) (u : Unit) => post r )) (w1 := (fun (u : Unit) => [(a_t, .inr (0, [.int t_bags, .int d_t_men, .ref a_t_bagKinds, .ref a_t_manKinds, .ref a_t_cells])), (a_t_cells, .inl (cI, 23, .inl t_cells))])) (by decide) rfl rfl (Nat.le_of_ble_eq_true rfl) ?_
  intro p e s m below meth c A Q hx hb hml hown hts hK hX hA hP hD hsz hret ls hl
  have hS : va_S A s.heap s.heap [] := va_S.rf
  have hl : lv_has ls 5 [(0, .ref a_t), (1, .int x1)] := hl
  have inX0 : ∀ w ∈ u_ws RX0 TX0 5, w ∈ wsX0_breathsOfThese := by decide +kernel
  have fl11 := hts (.fieldLink RX0 11 "BreathBags$Camp" "bags" "I") (by decide +kernel)
  have L4 : ∀  (n4 : Nat) (x2_4 : Int32) (x3_4 : Int32) (H : Heap) (locs : List Loc) (ls : Array Slot), wpX0_breathsOfThese_L4 t_bags t_cells x1 post n4 x2_4 x3_4 → va_P (dC, dI) vwCl [(a_t, .inr (0, [.int t_bags, .int d_t_men, .ref a_t_bagKinds, .ref a_t_manKinds, .ref a_t_cells])), (a_t_cells, .inl (cI, 23, .inl t_cells))] H → va_D A [(a_t, .inr (0, [.int t_bags, .int d_t_men, .ref a_t_bagKinds, .ref a_t_manKinds, .ref a_t_cells])), (a_t_cells, .inl (cI, 23, .inl t_cells))] → va_S A s.heap H locs → lv_has ls 5 [(0, .ref a_t), (1, .int x1), (2, .int x2_4), (3, .int x3_4)] → W p l e rmX0_breathsOfThese s m [.ref a_t, .int x1].toArray below meth c H locs 0 0 Q (F0 m 4 ls []) := by
    intro  n4
    induction n4 with
    | zero => intro x2_4 x3_4 H locs ls hw hP hD hS hl; exact hw.elim
    | succ n4 ih4 =>
      have B45 : ∀ (x2_45 : Int32) (x3_45 : Int32) (H : Heap) (locs : List Loc) (ls : Array Slot), wpX0_breathsOfThese_J45 t_bags t_cells x1 (wpX0_breathsOfThese_L4 t_bags t_cells x1 post n4) post x2_45 x3_45 → va_P (dC, dI) vwCl [(a_t, .inr (0, [.int t_bags, .int d_t_men, .ref a_t_bagKinds, .ref a_t_manKinds, .ref a_t_cells])), (a_t_cells, .inl (cI, 23, .inl t_cells))] H → va_D A [(a_t, .inr (0, [.int t_bags, .int d_t_men, .ref a_t_bagKinds, .ref a_t_manKinds, .ref a_t_cells])), (a_t_cells, .inl (cI, 23, .inl t_cells))] → va_S A s.heap H locs → lv_has ls 5 [(0, .ref a_t), (1, .int x1), (2, .int x2_45), (3, .int x3_45)] → W p l e rmX0_breathsOfThese s m [.ref a_t, .int x1].toArray below meth c H locs 0 0 Q (F0 m 45 ls []) := by
        intro x2_45 x3_45 H locs ls hw hP hD hS hl
        obtain ⟨y_1, ey_1⟩ : ∃ y : Int32, y = (x3_45 + (1 : Int32)) := ⟨_, rfl⟩
        have hw := hw y_1 ey_1
        refine lv_iinc (v := y_1) (lv' := [(3, .int y_1), (0, .ref a_t), (1, .int x1), (2, .int x2_45)]) hx hb dX0_breathsOfThese_45 hl (k := 3) rfl (by rw [ey_1]; rfl) (by decide) rfl (fun ls hl => ?_)
        refine lv_goto (tgt := 4) hx hb dX0_breathsOfThese_48 (by decide) ?_
        exact ih4 x2_45 y_1 H _ ls hw hP hD hS (lv_sub hl [1, 2, 3, 0] rfl)
      have L15 : ∀ (x3_15 : Int32) (n15 : Nat) (x2_15 : Int32) (x4_15 : Int32) (H : Heap) (locs : List Loc) (ls : Array Slot), wpX0_breathsOfThese_L15 t_bags t_cells x1 x3_15 (wpX0_breathsOfThese_J45 t_bags t_cells x1 (wpX0_breathsOfThese_L4 t_bags t_cells x1 post n4) post) post n15 x2_15 x4_15 → va_P (dC, dI) vwCl [(a_t, .inr (0, [.int t_bags, .int d_t_men, .ref a_t_bagKinds, .ref a_t_manKinds, .ref a_t_cells])), (a_t_cells, .inl (cI, 23, .inl t_cells))] H → va_D A [(a_t, .inr (0, [.int t_bags, .int d_t_men, .ref a_t_bagKinds, .ref a_t_manKinds, .ref a_t_cells])), (a_t_cells, .inl (cI, 23, .inl t_cells))] → va_S A s.heap H locs → lv_has ls 5 [(0, .ref a_t), (1, .int x1), (2, .int x2_15), (3, .int x3_15), (4, .int x4_15)] → W p l e rmX0_breathsOfThese s m [.ref a_t, .int x1].toArray below meth c H locs 0 0 Q (F0 m 15 ls []) := by
        intro x3_15 n15
        induction n15 with
        | zero => intro x2_15 x4_15 H locs ls hw hP hD hS hl; exact hw.elim
        | succ n15 ih15 =>
          intro x2_15 x4_15 H locs ls hw hP hD hS hl
          refine lv_iload hx hb dX0_breathsOfThese_15 (lv_at hl 4 rfl) ?_
          refine lv_aload_n hx hb dX0_breathsOfThese_17 rfl (lv_at hl 0 rfl) ?_
          refine lv_iload_n hx hb dX0_breathsOfThese_18 rfl (lv_at hl 3 rfl) ?_
          refine kv_callVi (wr := []) (wn := (fun (u : Unit) => [(a_t, .inr (0, [.int t_bags, .int d_t_men, .ref a_t_bagKinds, .ref a_t_manKinds, .ref a_t_cells])), (a_t_cells, .inl (cI, 23, .inl t_cells))])) (As := [.int x3_15]) (rest := [.int x4_15]) ⟨hx, hb, hml, hown, hts⟩ hK hX hA hP hD hS (mtX0_breathsIn l dC dI cI cZ a_t a_t_bagKinds a_t_manKinds a_t_cells H.size t_bags d_t_men t_cells x3_15 _ hw) (cwV 1 hts gX0_breathsOfThese_X0_breathsIn rfl rfl rfl (by decide +kernel) ⟨Nat.le_of_ble_eq_true rfl, Nat.le_of_ble_eq_true rfl⟩) 0 0 rfl rfl rfl [0, 1] [] [0, 1] rfl rfl rfl rfl (by decide) (fun _ => rfl) rfl rfl hl.1 rfl (Nat.le_of_ble_eq_true rfl) ⟨Nat.zero_le _, Nat.zero_le _⟩ dX0_breathsOfThese_19 (fun r_2 u H locs hw hP hD hS => ?_)
          refine lv_icmp_ge (tgt := 45) hx hb dX0_breathsOfThese_22 (by decide) (fun c_3 => ?_) (fun c_3 => ?_)
          · have hw := hw.1 c_3
            exact B45 x2_15 x3_15 H _ ls hw hP hD hS (lv_sub hl [0, 1, 2, 3] rfl)
          · have hw := hw.2 c_3
            refine lv_iload_n hx hb dX0_breathsOfThese_25 rfl (lv_at hl 2 rfl) ?_
            refine lv_iload_n hx hb dX0_breathsOfThese_26 rfl (lv_at hl 1 rfl) ?_
            refine lv_aload_n hx hb dX0_breathsOfThese_27 rfl (lv_at hl 0 rfl) ?_
            refine lv_iload_n hx hb dX0_breathsOfThese_28 rfl (lv_at hl 3 rfl) ?_
            refine lv_iload hx hb dX0_breathsOfThese_29 (lv_at hl 4 rfl) ?_
            refine kv_callVi (wr := []) (wn := (fun (u : Unit) => [(a_t, .inr (0, [.int t_bags, .int d_t_men, .ref a_t_bagKinds, .ref a_t_manKinds, .ref a_t_cells])), (a_t_cells, .inl (cI, 23, .inl t_cells))])) (As := [.int x3_15, .int x4_15]) (rest := [.int x1, .int x2_15]) ⟨hx, hb, hml, hown, hts⟩ hK hX hA hP hD hS (mtX0_owner l dC dI cI cZ a_t a_t_bagKinds a_t_manKinds a_t_cells H.size t_bags d_t_men t_cells x3_15 x4_15 _ hw) (cwV 2 hts gX0_breathsOfThese_X0_owner rfl rfl rfl (by decide +kernel) ⟨Nat.le_of_ble_eq_true rfl, Nat.le_of_ble_eq_true rfl⟩) 0 0 rfl rfl rfl [0, 1] [] [0, 1] rfl rfl rfl rfl (by decide) (fun _ => rfl) rfl rfl hl.1 rfl (Nat.le_of_ble_eq_true rfl) ⟨Nat.zero_le _, Nat.zero_le _⟩ dX0_breathsOfThese_31 (fun r_4 u H locs hw hP hD hS => ?_)
            refine lv_ishr hx hb dX0_breathsOfThese_34 ?_
            refine lv_iconst (v := (1 : Int32)) hx hb dX0_breathsOfThese_35 (by decide) ?_
            refine lv_iand hx hb dX0_breathsOfThese_36 ?_
            refine lv_iadd hx hb dX0_breathsOfThese_37 ?_
            refine lv_topi (fun y_5 ey_5 => ?_)
            have hw := hw y_5 ey_5
            refine lv_istore_n (lv' := [(2, .int y_5), (0, .ref a_t), (1, .int x1), (3, .int x3_15), (4, .int x4_15)]) hx hb dX0_breathsOfThese_38 rfl hl (by decide) rfl (fun ls hl => ?_)
            obtain ⟨y_6, ey_6⟩ : ∃ y : Int32, y = (x4_15 + (1 : Int32)) := ⟨_, rfl⟩
            have hw := hw y_6 ey_6
            refine lv_iinc (v := y_6) (lv' := [(4, .int y_6), (2, .int y_5), (0, .ref a_t), (1, .int x1), (3, .int x3_15)]) hx hb dX0_breathsOfThese_39 hl (k := 4) rfl (by rw [ey_6]; rfl) (by decide) rfl (fun ls hl => ?_)
            refine lv_goto (tgt := 15) hx hb dX0_breathsOfThese_42 (by decide) ?_
            exact ih15 y_5 y_6 H _ ls hw hP hD hS (lv_sub hl [2, 3, 1, 4, 0] rfl)
      have E15 : ∀ (x2_15 : Int32) (x3_15 : Int32) (x4_15 : Int32) (H : Heap) (locs : List Loc) (ls : Array Slot), wpX0_breathsOfThese_E15 t_bags t_cells x1 (wpX0_breathsOfThese_L4 t_bags t_cells x1 post n4) post x2_15 x3_15 x4_15 → va_P (dC, dI) vwCl [(a_t, .inr (0, [.int t_bags, .int d_t_men, .ref a_t_bagKinds, .ref a_t_manKinds, .ref a_t_cells])), (a_t_cells, .inl (cI, 23, .inl t_cells))] H → va_D A [(a_t, .inr (0, [.int t_bags, .int d_t_men, .ref a_t_bagKinds, .ref a_t_manKinds, .ref a_t_cells])), (a_t_cells, .inl (cI, 23, .inl t_cells))] → va_S A s.heap H locs → lv_has ls 5 [(0, .ref a_t), (1, .int x1), (2, .int x2_15), (3, .int x3_15), (4, .int x4_15)] → W p l e rmX0_breathsOfThese s m [.ref a_t, .int x1].toArray below meth c H locs 0 0 Q (F0 m 15 ls []) := by
        intro x2_15 x3_15 x4_15 H locs ls hw hP hD hS hl
        obtain ⟨n, hw⟩ := hw
        exact L15 x3_15 n x2_15 x4_15 H locs ls hw hP hD hS hl
      intro x2_4 x3_4 H locs ls hw hP hD hS hl
      refine lv_iload_n hx hb dX0_breathsOfThese_4 rfl (lv_at hl 3 rfl) ?_
      refine lv_aload_n hx hb dX0_breathsOfThese_5 rfl (lv_at hl 0 rfl) ?_
      refine va_get (D := (dC, dI)) (ci := 0) (v := .int t_bags) (C := RX0) (T := TX0) (N := 5) hx hb hts inX0 hown hK hP 0 rfl rfl 0 (by decide) fl11 (fun _ h9 => h9) rfl dX0_breathsOfThese_6 ?_
      refine lv_icmp_ge (tgt := 51) hx hb dX0_breathsOfThese_9 (by decide) (fun c_7 => ?_) (fun c_7 => ?_)
      · have hw := hw.1 c_7
        refine lv_iload_n hx hb dX0_breathsOfThese_51 rfl (lv_at hl 2 rfl) ?_
        exact hret x2_4 () H _ _ ls hw hP hD hS dX0_breathsOfThese_52
      · have hw := hw.2 c_7
        refine lv_iconst (v := (0 : Int32)) hx hb dX0_breathsOfThese_12 (by decide) ?_
        refine lv_istore (lv' := [(4, .int (0 : Int32)), (0, .ref a_t), (1, .int x1), (2, .int x2_4), (3, .int x3_4)]) hx hb dX0_breathsOfThese_13 hl (by decide) rfl (fun ls hl => ?_)
        exact E15 x2_4 x3_4 (0 : Int32) H _ ls hw hP hD hS (lv_sub hl [1, 2, 3, 4, 0] rfl)
  have E4 : ∀ (x2_4 : Int32) (x3_4 : Int32) (H : Heap) (locs : List Loc) (ls : Array Slot), wpX0_breathsOfThese_E4 t_bags t_cells x1 post x2_4 x3_4 → va_P (dC, dI) vwCl [(a_t, .inr (0, [.int t_bags, .int d_t_men, .ref a_t_bagKinds, .ref a_t_manKinds, .ref a_t_cells])), (a_t_cells, .inl (cI, 23, .inl t_cells))] H → va_D A [(a_t, .inr (0, [.int t_bags, .int d_t_men, .ref a_t_bagKinds, .ref a_t_manKinds, .ref a_t_cells])), (a_t_cells, .inl (cI, 23, .inl t_cells))] → va_S A s.heap H locs → lv_has ls 5 [(0, .ref a_t), (1, .int x1), (2, .int x2_4), (3, .int x3_4)] → W p l e rmX0_breathsOfThese s m [.ref a_t, .int x1].toArray below meth c H locs 0 0 Q (F0 m 4 ls []) := by
    intro x2_4 x3_4 H locs ls hw hP hD hS hl
    obtain ⟨n, hw⟩ := hw
    exact L4  n x2_4 x3_4 H locs ls hw hP hD hS hl
  refine lv_iconst (v := (0 : Int32)) hx hb dX0_breathsOfThese_0 (by decide) ?_
  refine lv_istore_n (lv' := [(2, .int (0 : Int32)), (0, .ref a_t), (1, .int x1)]) hx hb dX0_breathsOfThese_1 rfl hl (by decide) rfl (fun ls hl => ?_)
  refine lv_iconst (v := (0 : Int32)) hx hb dX0_breathsOfThese_2 (by decide) ?_
  refine lv_istore_n (lv' := [(3, .int (0 : Int32)), (2, .int (0 : Int32)), (0, .ref a_t), (1, .int x1)]) hx hb dX0_breathsOfThese_3 rfl hl (by decide) rfl (fun ls hl => ?_)
  exact E4 (0 : Int32) (0 : Int32) s.heap _ ls hw hP hD hS (lv_sub hl [2, 3, 1, 0] rfl)
