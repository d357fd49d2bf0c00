def wpX4_losersBy (p0_bags : Int32) (p0_bagKinds : Nat → Int32) (p0_cells : Nat → Int32) (x1 : Int32) (post : Int32 → Prop) : Prop := wpX0_playedBits p0_bags p0_bagKinds p0_cells (0 : Int32) (x1 / (100 : Int32)) (fun r_1 => wpX0_playedBits p0_bags p0_bagKinds p0_cells (1 : Int32) ((x1 / (10 : Int32)) - (x1 / (10 : Int32)) / (10 : Int32) * (10 : Int32)) (fun r_2 => wpX0_playedBits p0_bags p0_bagKinds p0_cells (2 : Int32) (x1 - x1 / (10 : Int32) * (10 : Int32)) (fun r_3 => ∀ y_4 : Int32, y_4 = ((r_1 ||| r_2) ||| r_3) → wpJ6_bitCount_0f7a4 y_4 (fun r_5 => post r_5))))
abbrev rmX4_losersBy : Room := { frames := 4, cells := 0, slots := 0, locals := 92 }
set_option maxHeartbeats 4000000 in
set_option maxRecDepth 100000 in
theorem mtX4_losersBy (l : Launch) (dC : Nat → ClassId) (dI : Nat → Nat → Nat) (cI cZ : ClassId) (a_p0 : Nat) (a_p0_bagKinds : Nat) (a_p0_manKinds : Nat) (a_p0_cells : Nat) (sz : Nat) (p0_bags : Int32) (d_p0_men : Int32) (p0_bagKinds : Nat → Int32) (p0_cells : Nat → Int32) (x1 : Int32) (post : Int32 → Prop) (hw : wpX4_losersBy p0_bags p0_bagKinds p0_cells x1 post) : Met l yX4_losersBy wsX4_losersBy rmX4_losersBy (va_Pc [.ref a_p0, .int x1] (kvPre (dC, dI) cI cZ sz [(a_p0, .inr (0, [.int p0_bags, .int d_p0_men, .ref a_p0_bagKinds, .ref a_p0_manKinds, .ref a_p0_cells])), (a_p0_bagKinds, .inl (cI, 3, .inl p0_bagKinds)), (a_p0_cells, .inl (cI, 23, .inl p0_cells))])) (va_Qi (fun (r : Int32) (u : Unit) => post r ) (kvB (dC, dI) (va_A [(a_p0, .inr (0, [.int p0_bags, .int d_p0_men, .ref a_p0_bagKinds, .ref a_p0_manKinds, .ref a_p0_cells])), (a_p0_bagKinds, .inl (cI, 3, .inl p0_bagKinds)), (a_p0_cells, .inl (cI, 23, .inl p0_cells))] sz) (fun (u : Unit) => [(a_p0, .inr (0, [.int p0_bags, .int d_p0_men, .ref a_p0_bagKinds, .ref a_p0_manKinds, .ref a_p0_cells])), (a_p0_bagKinds, .inl (cI, 3, .inl p0_bagKinds)), (a_p0_cells, .inl (cI, 23, .inl p0_cells))])) (va_A [(a_p0, .inr (0, [.int p0_bags, .int d_p0_men, .ref a_p0_bagKinds, .ref a_p0_manKinds, .ref a_p0_cells])), (a_p0_bagKinds, .inl (cI, 3, .inl p0_bagKinds)), (a_p0_cells, .inl (cI, 23, .inl p0_cells))] sz)) 0 0 (va_A [(a_p0, .inr (0, [.int p0_bags, .int d_p0_men, .ref a_p0_bagKinds, .ref a_p0_manKinds, .ref a_p0_cells])), (a_p0_bagKinds, .inl (cI, 3, .inl p0_bagKinds)), (a_p0_cells, .inl (cI, 23, .inl p0_cells))] sz) := by
  refine kv_metI (y := yX4_losersBy) (ws := wsX4_losersBy) (rm := rmX4_losersBy) (av := [.ref a_p0, .int x1]) (sz := sz) (w := [(a_p0, .inr (0, [.int p0_bags, .int d_p0_men, .ref a_p0_bagKinds, .ref a_p0_manKinds, .ref a_p0_cells])), (a_p0_bagKinds, .inl (cI, 3, .inl p0_bagKinds)), (a_p0_cells, .inl (cI, 23, .inl p0_cells))]) (cc := cX4_losersBy) (maxL := 3) (own := RX4) (post := (fun (r : Int32) (u : Unit) => post r )) (w1 := (fun (u : Unit) => [(a_p0, .inr (0, [.int p0_bags, .int d_p0_men, .ref a_p0_bagKinds, .ref a_p0_manKinds, .ref a_p0_cells])), (a_p0_bagKinds, .inl (cI, 3, .inl p0_bagKinds)), (a_p0_cells, .inl (cI, 23, .inl p0_cells))])) (by decide) rfl rfl (Nat.le_of_ble_eq_true rfl) ?_
  intro p e s m below meth c A Q hx hb hml hown hts hK hX hA hP hD hsz hret ls hl
  have hS : va_S A s.heap s.heap [] := va_S.rf
  have hl : lv_has ls 3 [(0, .ref a_p0), (1, .int x1)] := hl
  refine lv_aload_n hx hb dX4_losersBy_0 rfl (lv_at hl 0 rfl) ?_
  refine lv_iconst (v := (0 : Int32)) hx hb dX4_losersBy_1 (by decide) ?_
  refine lv_iload_n hx hb dX4_losersBy_2 rfl (lv_at hl 1 rfl) ?_
  refine lv_bipush (v := (100 : Int32)) hx hb dX4_losersBy_3 (by decide) ?_
  refine lv_idiv hx hb dX4_losersBy_5 (by decide) ?_
  refine kv_callVi (wr := []) (wn := (fun (u : Unit) => [(a_p0, .inr (0, [.int p0_bags, .int d_p0_men, .ref a_p0_bagKinds, .ref a_p0_manKinds, .ref a_p0_cells])), (a_p0_bagKinds, .inl (cI, 3, .inl p0_bagKinds)), (a_p0_cells, .inl (cI, 23, .inl p0_cells))])) (As := [.int (0 : Int32), .int (x1 / (100 : Int32))]) (rest := []) ⟨hx, hb, hml, hown, hts⟩ hK hX hA hP hD hS (mtX0_playedBits l dC dI cI cZ a_p0 a_p0_bagKinds a_p0_manKinds a_p0_cells s.heap.size p0_bags d_p0_men p0_bagKinds p0_cells (0 : Int32) (x1 / (100 : Int32)) _ hw) (cwV 2 hts gX4_losersBy_X0_playedBits rfl rfl rfl (by decide +kernel) ⟨Nat.le_of_ble_eq_true rfl, Nat.le_of_ble_eq_true rfl⟩) 0 0 rfl rfl rfl [0, 1, 2] [] [0, 1, 2] rfl rfl rfl rfl (by decide) (fun _ => rfl) rfl rfl hl.1 rfl (Nat.le_of_ble_eq_true rfl) ⟨Nat.zero_le _, Nat.zero_le _⟩ dX4_losersBy_6 (fun r_1 u H locs hw hP hD hS => ?_)
  refine lv_aload_n hx hb dX4_losersBy_9 rfl (lv_at hl 0 rfl) ?_
  refine lv_iconst (v := (1 : Int32)) hx hb dX4_losersBy_10 (by decide) ?_
  refine lv_iload_n hx hb dX4_losersBy_11 rfl (lv_at hl 1 rfl) ?_
  refine lv_bipush (v := (10 : Int32)) hx hb dX4_losersBy_12 (by decide) ?_
  refine lv_idiv hx hb dX4_losersBy_14 (by decide) ?_
  refine lv_bipush (v := (10 : Int32)) hx hb dX4_losersBy_15 (by decide) ?_
  refine lv_irem hx hb dX4_losersBy_17 (by decide) ?_
  refine kv_callVi (wr := []) (wn := (fun (u : Unit) => [(a_p0, .inr (0, [.int p0_bags, .int d_p0_men, .ref a_p0_bagKinds, .ref a_p0_manKinds, .ref a_p0_cells])), (a_p0_bagKinds, .inl (cI, 3, .inl p0_bagKinds)), (a_p0_cells, .inl (cI, 23, .inl p0_cells))])) (As := [.int (1 : Int32), .int ((x1 / (10 : Int32)) - (x1 / (10 : Int32)) / (10 : Int32) * (10 : Int32))]) (rest := [.int r_1]) ⟨hx, hb, hml, hown, hts⟩ hK hX hA hP hD hS (mtX0_playedBits l dC dI cI cZ a_p0 a_p0_bagKinds a_p0_manKinds a_p0_cells H.size p0_bags d_p0_men p0_bagKinds p0_cells (1 : Int32) ((x1 / (10 : Int32)) - (x1 / (10 : Int32)) / (10 : Int32) * (10 : Int32)) _ hw) (cwV 2 hts gX4_losersBy_X0_playedBits rfl rfl rfl (by decide +kernel) ⟨Nat.le_of_ble_eq_true rfl, Nat.le_of_ble_eq_true rfl⟩) 0 0 rfl rfl rfl [0, 1, 2] [] [0, 1, 2] rfl rfl rfl rfl (by decide) (fun _ => rfl) rfl rfl hl.1 rfl (Nat.le_of_ble_eq_true rfl) ⟨Nat.zero_le _, Nat.zero_le _⟩ dX4_losersBy_18 (fun r_2 u H locs hw hP hD hS => ?_)
  refine lv_ior hx hb dX4_losersBy_21 ?_
  refine lv_aload_n hx hb dX4_losersBy_22 rfl (lv_at hl 0 rfl) ?_
  refine lv_iconst (v := (2 : Int32)) hx hb dX4_losersBy_23 (by decide) ?_
  refine lv_iload_n hx hb dX4_losersBy_24 rfl (lv_at hl 1 rfl) ?_
  refine lv_bipush (v := (10 : Int32)) hx hb dX4_losersBy_25 (by decide) ?_
  refine lv_irem hx hb dX4_losersBy_27 (by decide) ?_
  refine kv_callVi (wr := []) (wn := (fun (u : Unit) => [(a_p0, .inr (0, [.int p0_bags, .int d_p0_men, .ref a_p0_bagKinds, .ref a_p0_manKinds, .ref a_p0_cells])), (a_p0_bagKinds, .inl (cI, 3, .inl p0_bagKinds)), (a_p0_cells, .inl (cI, 23, .inl p0_cells))])) (As := [.int (2 : Int32), .int (x1 - x1 / (10 : Int32) * (10 : Int32))]) (rest := [.int (r_1 ||| r_2)]) ⟨hx, hb, hml, hown, hts⟩ hK hX hA hP hD hS (mtX0_playedBits l dC dI cI cZ a_p0 a_p0_bagKinds a_p0_manKinds a_p0_cells H.size p0_bags d_p0_men p0_bagKinds p0_cells (2 : Int32) (x1 - x1 / (10 : Int32) * (10 : Int32)) _ hw) (cwV 2 hts gX4_losersBy_X0_playedBits rfl rfl rfl (by decide +kernel) ⟨Nat.le_of_ble_eq_true rfl, Nat.le_of_ble_eq_true rfl⟩) 0 0 rfl rfl rfl [0, 1, 2] [] [0, 1, 2] rfl rfl rfl rfl (by decide) (fun _ => rfl) rfl rfl hl.1 rfl (Nat.le_of_ble_eq_true rfl) ⟨Nat.zero_le _, Nat.zero_le _⟩ dX4_losersBy_28 (fun r_3 u H locs hw hP hD hS => ?_)
  refine lv_ior hx hb dX4_losersBy_31 ?_
  refine lv_topi (fun y_4 ey_4 => ?_)
  have hw := hw y_4 ey_4
  refine lv_istore_n (lv' := [(2, .int y_4), (0, .ref a_p0), (1, .int x1)]) hx hb dX4_losersBy_32 rfl hl (by decide) rfl (fun ls hl => ?_)
  refine lv_iload_n hx hb dX4_losersBy_33 rfl (lv_at hl 0 rfl) ?_
  refine kv_callSi (wr := [(a_p0, .inr (0, [.int p0_bags, .int d_p0_men, .ref a_p0_bagKinds, .ref a_p0_manKinds, .ref a_p0_cells])), (a_p0_bagKinds, .inl (cI, 3, .inl p0_bagKinds)), (a_p0_cells, .inl (cI, 23, .inl p0_cells))]) (wn := (fun (u : Unit) => [(a_p0, .inr (0, [.int p0_bags, .int d_p0_men, .ref a_p0_bagKinds, .ref a_p0_manKinds, .ref a_p0_cells])), (a_p0_bagKinds, .inl (cI, 3, .inl p0_bagKinds)), (a_p0_cells, .inl (cI, 23, .inl p0_cells))])) (As := [.int y_4]) (rest := []) ⟨hx, hb, hml, hown, hts⟩ hK hX hA hP hD hS (mtJ6_bitCount_0f7a4 l dC dI cI cZ H.size y_4 _ hw) (va_cwS 1 hts gX4_losersBy_J6_bitCount_0f7a4 rfl rfl rfl (by decide +kernel) ⟨Nat.le_of_ble_eq_true rfl, Nat.le_of_ble_eq_true rfl⟩) [] [0, 1, 2] [0, 1, 2] rfl rfl rfl rfl (by decide) (fun _ => rfl) rfl rfl hl.1 rfl (Nat.le_of_ble_eq_true rfl) ⟨Nat.zero_le _, Nat.zero_le _⟩ dX4_losersBy_34 (fun r_5 u H locs hw hP hD hS => ?_)
  exact hret r_5 () H _ _ ls hw hP hD hS dX4_losersBy_37

def wpX4_bestWay_J101 (p0_bags : Int32) (p0_bagKinds : Nat → Int32) (p0_cells : Nat → Int32) (x1 : Int32) (kL9 : Int32 → Int32 → Int32 → Prop) (post : Int32 → Prop) (x2_101 : Int32) (x3_101 : Int32) (x4_101 : Int32) : Prop := ∀ y_1 : Int32, y_1 = (x4_101 + (1 : Int32)) → kL9 x2_101 x3_101 y_1
def wpX4_bestWay_J95 (p0_bags : Int32) (p0_bagKinds : Nat → Int32) (p0_cells : Nat → Int32) (x1 : Int32) (x4_22 : Int32) (kL22 : Int32 → Int32 → Int32 → Prop) (post : Int32 → Prop) (x2_95 : Int32) (x3_95 : Int32) (x5_95 : Int32) : Prop := ∀ y_2 : Int32, y_2 = (x5_95 + (1 : Int32)) → kL22 x2_95 x3_95 y_2
def wpX4_bestWay_L22 (p0_bags : Int32) (p0_bagKinds : Nat → Int32) (p0_cells : Nat → Int32) (x1 : Int32) (x4_22 : Int32) (kJ101 : Int32 → Int32 → Int32 → Prop) (post : Int32 → Prop) : Nat → Int32 → Int32 → Int32 → Prop
  | 0, _, _, _ => False
  | n + 1, x2_22, x3_22, x5_22 => wpX0_breathsIn p0_bags p0_cells (1 : Int32) (fun r_3 => ((r_3 < x5_22 → kJ101 x2_22 x3_22 x4_22) ∧ (¬ r_3 < x5_22 → ∀ y_5 : Int32, y_5 = ((x1 - x4_22) - x5_22) → ((y_5 < 0 → wpX4_bestWay_J95 p0_bags p0_bagKinds p0_cells x1 x4_22 (wpX4_bestWay_L22 p0_bags p0_bagKinds p0_cells x1 x4_22 kJ101 post n) post x2_22 x3_22 x5_22) ∧ (¬ y_5 < 0 → wpX0_breathsIn p0_bags p0_cells (2 : Int32) (fun r_7 => ((y_5 ≤ r_7 → ∀ y_9 : Int32, y_9 = ((((100 : Int32) * x4_22) + ((10 : Int32) * x5_22)) + y_5) → wpX4_losersBy p0_bags p0_bagKinds p0_cells y_9 (fun r_10 => ((x3_22 ≤ r_10 → wpX4_bestWay_J95 p0_bags p0_bagKinds p0_cells x1 x4_22 (wpX4_bestWay_L22 p0_bags p0_bagKinds p0_cells x1 x4_22 kJ101 post n) post x2_22 x3_22 x5_22) ∧ (¬ x3_22 ≤ r_10 → wpX4_bestWay_J95 p0_bags p0_bagKinds p0_cells x1 x4_22 (wpX4_bestWay_L22 p0_bags p0_bagKinds p0_cells x1 x4_22 kJ101 post n) post y_9 r_10 x5_22)))) ∧ (¬ y_5 ≤ r_7 → wpX4_bestWay_J95 p0_bags p0_bagKinds p0_cells x1 x4_22 (wpX4_bestWay_L22 p0_bags p0_bagKinds p0_cells x1 x4_22 kJ101 post n) post x2_22 x3_22 x5_22))))))))
def wpX4_bestWay_E22 (p0_bags : Int32) (p0_bagKinds : Nat → Int32) (p0_cells : Nat → Int32) (x1 : Int32) (kL9 : Int32 → Int32 → Int32 → Prop) (post : Int32 → Prop) (x2_22 : Int32) (x3_22 : Int32) (x4_22 : Int32) (x5_22 : Int32) : Prop := ∃ n : Nat, wpX4_bestWay_L22 p0_bags p0_bagKinds p0_cells x1 x4_22 (wpX4_bestWay_J101 p0_bags p0_bagKinds p0_cells x1 kL9 post) post n x2_22 x3_22 x5_22
def wpX4_bestWay_L9 (p0_bags : Int32) (p0_bagKinds : Nat → Int32) (p0_cells : Nat → Int32) (x1 : Int32) (post : Int32 → Prop) : Nat → Int32 → Int32 → Int32 → Prop
  | 0, _, _, _ => False
  | n + 1, x2_9, x3_9, x4_9 => wpX0_breathsIn p0_bags p0_cells (0 : Int32) (fun r_12 => ((r_12 < x4_9 → post x2_9) ∧ (¬ r_12 < x4_9 → wpX4_bestWay_E22 p0_bags p0_bagKinds p0_cells x1 (wpX4_bestWay_L9 p0_bags p0_bagKinds p0_cells x1 post n) post x2_9 x3_9 x4_9 (0 : Int32))))
def wpX4_bestWay_E9 (p0_bags : Int32) (p0_bagKinds : Nat → Int32) (p0_cells : Nat → Int32) (x1 : Int32) (post : Int32 → Prop) (x2_9 : Int32) (x3_9 : Int32) (x4_9 : Int32) : Prop := ∃ n : Nat, wpX4_bestWay_L9 p0_bags p0_bagKinds p0_cells x1 post n x2_9 x3_9 x4_9
def wpX4_bestWay (p0_bags : Int32) (p0_bagKinds : Nat → Int32) (p0_cells : Nat → Int32) (x1 : Int32) (post : Int32 → Prop) : Prop := wpX4_bestWay_E9 p0_bags p0_bagKinds p0_cells x1 post (-9 : Int32) (6 : Int32) (0 : Int32)
abbrev rmX4_bestWay : Room := { frames := 5, cells := 0, slots := 0, locals := 114 }
set_option maxHeartbeats 4000000 in
set_option maxRecDepth 100000 in
theorem mtX4_bestWay (l : Launch) (dC : Nat → ClassId) (dI : Nat → Nat → Nat) (cI cZ : ClassId) (a_p0 : Nat) (a_p0_bagKinds : Nat) (a_p0_manKinds : Nat) (a_p0_cells : Nat) (sz : Nat) (p0_bags : Int32) (d_p0_men : Int32) (p0_bagKinds : Nat → Int32) (p0_cells : Nat → Int32) (x1 : Int32) (post : Int32 → Prop) (hw : wpX4_bestWay p0_bags p0_bagKinds p0_cells x1 post) : Met l yX4_bestWay wsX4_bestWay rmX4_bestWay (va_Pc [.ref a_p0, .int x1] (kvPre (dC, dI) cI cZ sz [(a_p0, .inr (0, [.int p0_bags, .int d_p0_men, .ref a_p0_bagKinds, .ref a_p0_manKinds, .ref a_p0_cells])), (a_p0_bagKinds, .inl (cI, 3, .inl p0_bagKinds)), (a_p0_cells, .inl (cI, 23, .inl p0_cells))])) (va_Qi (fun (r : Int32) (u : Unit) => post r ) (kvB (dC, dI) (va_A [(a_p0, .inr (0, [.int p0_bags, .int d_p0_men, .ref a_p0_bagKinds, .ref a_p0_manKinds, .ref a_p0_cells])), (a_p0_bagKinds, .inl (cI, 3, .inl p0_bagKinds)), (a_p0_cells, .inl (cI, 23, .inl p0_cells))] sz) (fun (u : Unit) => [(a_p0, .inr (0, [.int p0_bags, .int d_p0_men, .ref a_p0_bagKinds, .ref a_p0_manKinds, .ref a_p0_cells])), (a_p0_bagKinds, .inl (cI, 3, .inl p0_bagKinds)), (a_p0_cells, .inl (cI, 23, .inl p0_cells))])) (va_A [(a_p0, .inr (0, [.int p0_bags, .int d_p0_men, .ref a_p0_bagKinds, .ref a_p0_manKinds, .ref a_p0_cells])), (a_p0_bagKinds, .inl (cI, 3, .inl p0_bagKinds)), (a_p0_cells, .inl (cI, 23, .inl p0_cells))] sz)) 0 0 (va_A [(a_p0, .inr (0, [.int p0_bags, .int d_p0_men, .ref a_p0_bagKinds, .ref a_p0_manKinds, .ref a_p0_cells])), (a_p0_bagKinds, .inl (cI, 3, .inl p0_bagKinds)), (a_p0_cells, .inl (cI, 23, .inl p0_cells))] sz) := by
  refine kv_metI (y := yX4_bestWay) (ws := wsX4_bestWay) (rm := rmX4_bestWay) (av := [.ref a_p0, .int x1]) (sz := sz) (w := [(a_p0, .inr (0, [.int p0_bags, .int d_p0_men, .ref a_p0_bagKinds, .ref a_p0_manKinds, .ref a_p0_cells])), (a_p0_bagKinds, .inl (cI, 3, .inl p0_bagKinds)), (a_p0_cells, .inl (cI, 23, .inl p0_cells))]) (cc := cX4_bestWay) (maxL := 9) (own := RX4) (post := (fun (r : Int32) (u : Unit) => post r )) (w1 := (fun (u : Unit) => [(a_p0, .inr (0, [.int p0_bags, .int d_p0_men, .ref a_p0_bagKinds, .ref a_p0_manKinds, .ref a_p0_cells])), (a_p0_bagKinds, .inl (cI, 3, .inl p0_bagKinds)), (a_p0_cells, .inl (cI, 23, .inl p0_cells))])) (by decide) rfl rfl (Nat.le_of_ble_eq_true rfl) ?_
  intro p e s m below meth c A Q hx hb hml hown hts hK hX hA hP hD hsz hret ls hl
  have hS : va_S A s.heap s.heap [] := va_S.rf
  have hl : lv_has ls 9 [(0, .ref a_p0), (1, .int x1)] := hl
  have L9 : ∀  (n9 : Nat) (x2_9 : Int32) (x3_9 : Int32) (x4_9 : Int32) (H : Heap) (locs : List Loc) (ls : Array Slot), wpX4_bestWay_L9 p0_bags p0_bagKinds p0_cells x1 post n9 x2_9 x3_9 x4_9 → va_P (dC, dI) vwCl [(a_p0, .inr (0, [.int p0_bags, .int d_p0_men, .ref a_p0_bagKinds, .ref a_p0_manKinds, .ref a_p0_cells])), (a_p0_bagKinds, .inl (cI, 3, .inl p0_bagKinds)), (a_p0_cells, .inl (cI, 23, .inl p0_cells))] H → va_D A [(a_p0, .inr (0, [.int p0_bags, .int d_p0_men, .ref a_p0_bagKinds, .ref a_p0_manKinds, .ref a_p0_cells])), (a_p0_bagKinds, .inl (cI, 3, .inl p0_bagKinds)), (a_p0_cells, .inl (cI, 23, .inl p0_cells))] → va_S A s.heap H locs → lv_has ls 9 [(0, .ref a_p0), (1, .int x1), (2, .int x2_9), (3, .int x3_9), (4, .int x4_9)] → W p l e rmX4_bestWay s m [.ref a_p0, .int x1].toArray below meth c H locs 0 0 Q (F0 m 9 ls []) := by
    intro  n9
    induction n9 with
    | zero => intro x2_9 x3_9 x4_9 H locs ls hw hP hD hS hl; exact hw.elim
    | succ n9 ih9 =>
      have B101 : ∀ (x2_101 : Int32) (x3_101 : Int32) (x4_101 : Int32) (H : Heap) (locs : List Loc) (ls : Array Slot), wpX4_bestWay_J101 p0_bags p0_bagKinds p0_cells x1 (wpX4_bestWay_L9 p0_bags p0_bagKinds p0_cells x1 post n9) post x2_101 x3_101 x4_101 → va_P (dC, dI) vwCl [(a_p0, .inr (0, [.int p0_bags, .int d_p0_men, .ref a_p0_bagKinds, .ref a_p0_manKinds, .ref a_p0_cells])), (a_p0_bagKinds, .inl (cI, 3, .inl p0_bagKinds)), (a_p0_cells, .inl (cI, 23, .inl p0_cells))] H → va_D A [(a_p0, .inr (0, [.int p0_bags, .int d_p0_men, .ref a_p0_bagKinds, .ref a_p0_manKinds, .ref a_p0_cells])), (a_p0_bagKinds, .inl (cI, 3, .inl p0_bagKinds)), (a_p0_cells, .inl (cI, 23, .inl p0_cells))] → va_S A s.heap H locs → lv_has ls 9 [(0, .ref a_p0), (1, .int x1), (2, .int x2_101), (3, .int x3_101), (4, .int x4_101)] → W p l e rmX4_bestWay s m [.ref a_p0, .int x1].toArray below meth c H locs 0 0 Q (F0 m 101 ls []) := by
        intro x2_101 x3_101 x4_101 H locs ls hw hP hD hS hl
        obtain ⟨y_1, ey_1⟩ : ∃ y : Int32, y = (x4_101 + (1 : Int32)) := ⟨_, rfl⟩
        have hw := hw y_1 ey_1
        refine lv_iinc (v := y_1) (lv' := [(4, .int y_1), (0, .ref a_p0), (1, .int x1), (2, .int x2_101), (3, .int x3_101)]) hx hb dX4_bestWay_101 hl (k := 4) rfl (by rw [ey_1]; rfl) (by decide) rfl (fun ls hl => ?_)
        refine lv_goto (tgt := 9) hx hb dX4_bestWay_104 (by decide) ?_
        exact ih9 x2_101 x3_101 y_1 H _ ls hw hP hD hS (lv_sub hl [1, 2, 3, 4, 0] rfl)
      have L22 : ∀ (x4_22 : Int32) (n22 : Nat) (x2_22 : Int32) (x3_22 : Int32) (x5_22 : Int32) (H : Heap) (locs : List Loc) (ls : Array Slot), wpX4_bestWay_L22 p0_bags p0_bagKinds p0_cells x1 x4_22 (wpX4_bestWay_J101 p0_bags p0_bagKinds p0_cells x1 (wpX4_bestWay_L9 p0_bags p0_bagKinds p0_cells x1 post n9) post) post n22 x2_22 x3_22 x5_22 → va_P (dC, dI) vwCl [(a_p0, .inr (0, [.int p0_bags, .int d_p0_men, .ref a_p0_bagKinds, .ref a_p0_manKinds, .ref a_p0_cells])), (a_p0_bagKinds, .inl (cI, 3, .inl p0_bagKinds)), (a_p0_cells, .inl (cI, 23, .inl p0_cells))] H → va_D A [(a_p0, .inr (0, [.int p0_bags, .int d_p0_men, .ref a_p0_bagKinds, .ref a_p0_manKinds, .ref a_p0_cells])), (a_p0_bagKinds, .inl (cI, 3, .inl p0_bagKinds)), (a_p0_cells, .inl (cI, 23, .inl p0_cells))] → va_S A s.heap H locs → lv_has ls 9 [(0, .ref a_p0), (1, .int x1), (2, .int x2_22), (3, .int x3_22), (4, .int x4_22), (5, .int x5_22)] → W p l e rmX4_bestWay s m [.ref a_p0, .int x1].toArray below meth c H locs 0 0 Q (F0 m 22 ls []) := by
        intro x4_22 n22
        induction n22 with
        | zero => intro x2_22 x3_22 x5_22 H locs ls hw hP hD hS hl; exact hw.elim
        | succ n22 ih22 =>
          have B95 : ∀ (x2_95 : Int32) (x3_95 : Int32) (x5_95 : Int32) (H : Heap) (locs : List Loc) (ls : Array Slot), wpX4_bestWay_J95 p0_bags p0_bagKinds p0_cells x1 x4_22 (wpX4_bestWay_L22 p0_bags p0_bagKinds p0_cells x1 x4_22 (wpX4_bestWay_J101 p0_bags p0_bagKinds p0_cells x1 (wpX4_bestWay_L9 p0_bags p0_bagKinds p0_cells x1 post n9) post) post n22) post x2_95 x3_95 x5_95 → va_P (dC, dI) vwCl [(a_p0, .inr (0, [.int p0_bags, .int d_p0_men, .ref a_p0_bagKinds, .ref a_p0_manKinds, .ref a_p0_cells])), (a_p0_bagKinds, .inl (cI, 3, .inl p0_bagKinds)), (a_p0_cells, .inl (cI, 23, .inl p0_cells))] H → va_D A [(a_p0, .inr (0, [.int p0_bags, .int d_p0_men, .ref a_p0_bagKinds, .ref a_p0_manKinds, .ref a_p0_cells])), (a_p0_bagKinds, .inl (cI, 3, .inl p0_bagKinds)), (a_p0_cells, .inl (cI, 23, .inl p0_cells))] → va_S A s.heap H locs → lv_has ls 9 [(0, .ref a_p0), (1, .int x1), (2, .int x2_95), (3, .int x3_95), (4, .int x4_22), (5, .int x5_95)] → W p l e rmX4_bestWay s m [.ref a_p0, .int x1].toArray below meth c H locs 0 0 Q (F0 m 95 ls []) := by
            intro x2_95 x3_95 x5_95 H locs ls hw hP hD hS hl
            obtain ⟨y_2, ey_2⟩ : ∃ y : Int32, y = (x5_95 + (1 : Int32)) := ⟨_, rfl⟩
            have hw := hw y_2 ey_2
            refine lv_iinc (v := y_2) (lv' := [(5, .int y_2), (0, .ref a_p0), (1, .int x1), (2, .int x2_95), (3, .int x3_95), (4, .int x4_22)]) hx hb dX4_bestWay_95 hl (k := 5) rfl (by rw [ey_2]; rfl) (by decide) rfl (fun ls hl => ?_)
            refine lv_goto (tgt := 22) hx hb dX4_bestWay_98 (by decide) ?_
            exact ih22 x2_95 x3_95 y_2 H _ ls hw hP hD hS (lv_sub hl [1, 2, 3, 4, 5, 0] rfl)
          intro x2_22 x3_22 x5_22 H locs ls hw hP hD hS hl
          refine lv_iload hx hb dX4_bestWay_22 (lv_at hl 5 rfl) ?_
          refine lv_aload_n hx hb dX4_bestWay_24 rfl (lv_at hl 0 rfl) ?_
          refine lv_iconst (v := (1 : Int32)) hx hb dX4_bestWay_25 (by decide) ?_
          refine kv_callVi (wr := [(a_p0_bagKinds, .inl (cI, 3, .inl p0_bagKinds))]) (wn := (fun (u : Unit) => [(a_p0, .inr (0, [.int p0_bags, .int d_p0_men, .ref a_p0_bagKinds, .ref a_p0_manKinds, .ref a_p0_cells])), (a_p0_bagKinds, .inl (cI, 3, .inl p0_bagKinds)), (a_p0_cells, .inl (cI, 23, .inl p0_cells))])) (As := [.int (1 : Int32)]) (rest := [.int x5_22]) ⟨hx, hb, hml, hown, hts⟩ hK hX hA hP hD hS (mtX0_breathsIn l dC dI cI cZ a_p0 a_p0_bagKinds a_p0_manKinds a_p0_cells H.size p0_bags d_p0_men p0_cells (1 : Int32) _ hw) (cwV 1 hts gX4_bestWay_X0_breathsIn rfl rfl rfl (by decide +kernel) ⟨Nat.le_of_ble_eq_true rfl, Nat.le_of_ble_eq_true rfl⟩) 0 0 rfl rfl rfl [0, 2] [1] [1, 0, 2] rfl rfl rfl rfl (by decide) (fun _ => rfl) rfl rfl hl.1 rfl (Nat.le_of_ble_eq_true rfl) ⟨Nat.zero_le _, Nat.zero_le _⟩ dX4_bestWay_26 (fun r_3 u H locs hw hP hD hS => ?_)
          refine lv_icmp_gt (tgt := 101) hx hb dX4_bestWay_29 (by decide) (fun c_4 => ?_) (fun c_4 => ?_)
          · have hw := hw.1 c_4
            exact B101 x2_22 x3_22 x4_22 H _ ls hw hP hD hS (lv_sub hl [0, 1, 2, 3, 4] rfl)
          · have hw := hw.2 c_4
            refine lv_iload_n hx hb dX4_bestWay_32 rfl (lv_at hl 1 rfl) ?_
            refine lv_iload hx hb dX4_bestWay_33 (lv_at hl 4 rfl) ?_
            refine lv_isub hx hb dX4_bestWay_35 ?_
            refine lv_iload hx hb dX4_bestWay_36 (lv_at hl 5 rfl) ?_
            refine lv_isub hx hb dX4_bestWay_38 ?_
            refine lv_topi (fun y_5 ey_5 => ?_)
            have hw := hw y_5 ey_5
            refine lv_istore (lv' := [(6, .int y_5), (0, .ref a_p0), (1, .int x1), (2, .int x2_22), (3, .int x3_22), (4, .int x4_22), (5, .int x5_22)]) hx hb dX4_bestWay_39 hl (by decide) rfl (fun ls hl => ?_)
            refine lv_iload hx hb dX4_bestWay_41 (lv_at hl 0 rfl) ?_
            refine lv_if_lt (tgt := 95) hx hb dX4_bestWay_43 (by decide) (fun c_6 => ?_) (fun c_6 => ?_)
            · have hw := hw.1 c_6
              exact B95 x2_22 x3_22 x5_22 H _ ls hw hP hD hS (lv_sub hl [1, 2, 3, 4, 5, 6] rfl)
            · have hw := hw.2 c_6
              refine lv_iload hx hb dX4_bestWay_46 (lv_at hl 0 rfl) ?_
              refine lv_aload_n hx hb dX4_bestWay_48 rfl (lv_at hl 1 rfl) ?_
              refine lv_iconst (v := (2 : Int32)) hx hb dX4_bestWay_49 (by decide) ?_
              refine kv_callVi (wr := [(a_p0_bagKinds, .inl (cI, 3, .inl p0_bagKinds))]) (wn := (fun (u : Unit) => [(a_p0, .inr (0, [.int p0_bags, .int d_p0_men, .ref a_p0_bagKinds, .ref a_p0_manKinds, .ref a_p0_cells])), (a_p0_bagKinds, .inl (cI, 3, .inl p0_bagKinds)), (a_p0_cells, .inl (cI, 23, .inl p0_cells))])) (As := [.int (2 : Int32)]) (rest := [.int y_5]) ⟨hx, hb, hml, hown, hts⟩ hK hX hA hP hD hS (mtX0_breathsIn l dC dI cI cZ a_p0 a_p0_bagKinds a_p0_manKinds a_p0_cells H.size p0_bags d_p0_men p0_cells (2 : Int32) _ hw) (cwV 1 hts gX4_bestWay_X0_breathsIn rfl rfl rfl (by decide +kernel) ⟨Nat.le_of_ble_eq_true rfl, Nat.le_of_ble_eq_true rfl⟩) 0 0 rfl rfl rfl [0, 2] [1] [1, 0, 2] rfl rfl rfl rfl (by decide) (fun _ => rfl) rfl rfl hl.1 rfl (Nat.le_of_ble_eq_true rfl) ⟨Nat.zero_le _, Nat.zero_le _⟩ dX4_bestWay_50 (fun r_7 u H locs hw hP hD hS => ?_)
              refine lv_icmp_le (tgt := 59) hx hb dX4_bestWay_53 (by decide) (fun c_8 => ?_) (fun c_8 => ?_)
              · have hw := hw.1 c_8
                refine lv_bipush (v := (100 : Int32)) hx hb dX4_bestWay_59 (by decide) ?_
                refine lv_iload hx hb dX4_bestWay_61 (lv_at hl 5 rfl) ?_
                refine lv_imul hx hb dX4_bestWay_63 ?_
                refine lv_bipush (v := (10 : Int32)) hx hb dX4_bestWay_64 (by decide) ?_
                refine lv_iload hx hb dX4_bestWay_66 (lv_at hl 6 rfl) ?_
                refine lv_imul hx hb dX4_bestWay_68 ?_
                refine lv_iadd hx hb dX4_bestWay_69 ?_
                refine lv_iload hx hb dX4_bestWay_70 (lv_at hl 0 rfl) ?_
                refine lv_iadd hx hb dX4_bestWay_72 ?_
                refine lv_topi (fun y_9 ey_9 => ?_)
                have hw := hw y_9 ey_9
                refine lv_istore (lv' := [(7, .int y_9), (6, .int y_5), (0, .ref a_p0), (1, .int x1), (2, .int x2_22), (3, .int x3_22), (4, .int x4_22), (5, .int x5_22)]) hx hb dX4_bestWay_73 hl (by decide) rfl (fun ls hl => ?_)
                refine lv_aload_n hx hb dX4_bestWay_75 rfl (lv_at hl 2 rfl) ?_
                refine lv_iload hx hb dX4_bestWay_76 (lv_at hl 0 rfl) ?_
                refine kv_callSi (wr := []) (wn := (fun (u : Unit) => [(a_p0, .inr (0, [.int p0_bags, .int d_p0_men, .ref a_p0_bagKinds, .ref a_p0_manKinds, .ref a_p0_cells])), (a_p0_bagKinds, .inl (cI, 3, .inl p0_bagKinds)), (a_p0_cells, .inl (cI, 23, .inl p0_cells))])) (As := [.ref a_p0, .int y_9]) (rest := []) ⟨hx, hb, hml, hown, hts⟩ hK hX hA hP hD hS (mtX4_losersBy l dC dI cI cZ a_p0 a_p0_bagKinds a_p0_manKinds a_p0_cells H.size p0_bags d_p0_men p0_bagKinds p0_cells y_9 _ hw) (va_cwS 2 hts gX4_bestWay_X4_losersBy rfl rfl rfl (by decide +kernel) ⟨Nat.le_of_ble_eq_true rfl, Nat.le_of_ble_eq_true rfl⟩) [0, 1, 2] [] [0, 1, 2] rfl rfl rfl rfl (by decide) (fun _ => rfl) rfl rfl hl.1 rfl (Nat.le_of_ble_eq_true rfl) ⟨Nat.zero_le _, Nat.zero_le _⟩ dX4_bestWay_78 (fun r_10 u H locs hw hP hD hS => ?_)
                refine lv_istore (lv' := [(8, .int r_10), (7, .int y_9), (6, .int y_5), (0, .ref a_p0), (1, .int x1), (2, .int x2_22), (3, .int x3_22), (4, .int x4_22), (5, .int x5_22)]) hx hb dX4_bestWay_81 hl (by decide) rfl (fun ls hl => ?_)
                refine lv_iload hx hb dX4_bestWay_83 (lv_at hl 0 rfl) ?_
                refine lv_iload_n hx hb dX4_bestWay_85 rfl (lv_at hl 6 rfl) ?_
                refine lv_icmp_ge (tgt := 95) hx hb dX4_bestWay_86 (by decide) (fun c_11 => ?_) (fun c_11 => ?_)
                · have hw := hw.1 c_11
                  exact B95 x2_22 x3_22 x5_22 H _ ls hw hP hD hS (lv_sub hl [3, 4, 5, 6, 7, 8] rfl)
                · have hw := hw.2 c_11
                  refine lv_iload hx hb dX4_bestWay_89 (lv_at hl 0 rfl) ?_
                  refine lv_istore_n (lv' := [(3, .int r_10), (8, .int r_10), (7, .int y_9), (6, .int y_5), (0, .ref a_p0), (1, .int x1), (2, .int x2_22), (4, .int x4_22), (5, .int x5_22)]) hx hb dX4_bestWay_91 rfl hl (by decide) rfl (fun ls hl => ?_)
                  refine lv_iload hx hb dX4_bestWay_92 (lv_at hl 2 rfl) ?_
                  refine lv_istore_n (lv' := [(2, .int y_9), (3, .int r_10), (8, .int r_10), (7, .int y_9), (6, .int y_5), (0, .ref a_p0), (1, .int x1), (4, .int x4_22), (5, .int x5_22)]) hx hb dX4_bestWay_94 rfl hl (by decide) rfl (fun ls hl => ?_)
                  exact B95 y_9 r_10 x5_22 H _ ls hw hP hD hS (lv_sub hl [5, 6, 0, 1, 7, 8] rfl)
              · have hw := hw.2 c_8
                refine lv_goto (tgt := 95) hx hb dX4_bestWay_56 (by decide) ?_
                exact B95 x2_22 x3_22 x5_22 H _ ls hw hP hD hS (lv_sub hl [1, 2, 3, 4, 5, 6] rfl)
      have E22 : ∀ (x2_22 : Int32) (x3_22 : Int32) (x4_22 : Int32) (x5_22 : Int32) (H : Heap) (locs : List Loc) (ls : Array Slot), wpX4_bestWay_E22 p0_bags p0_bagKinds p0_cells x1 (wpX4_bestWay_L9 p0_bags p0_bagKinds p0_cells x1 post n9) post x2_22 x3_22 x4_22 x5_22 → va_P (dC, dI) vwCl [(a_p0, .inr (0, [.int p0_bags, .int d_p0_men, .ref a_p0_bagKinds, .ref a_p0_manKinds, .ref a_p0_cells])), (a_p0_bagKinds, .inl (cI, 3, .inl p0_bagKinds)), (a_p0_cells, .inl (cI, 23, .inl p0_cells))] H → va_D A [(a_p0, .inr (0, [.int p0_bags, .int d_p0_men, .ref a_p0_bagKinds, .ref a_p0_manKinds, .ref a_p0_cells])), (a_p0_bagKinds, .inl (cI, 3, .inl p0_bagKinds)), (a_p0_cells, .inl (cI, 23, .inl p0_cells))] → va_S A s.heap H locs → lv_has ls 9 [(0, .ref a_p0), (1, .int x1), (2, .int x2_22), (3, .int x3_22), (4, .int x4_22), (5, .int x5_22)] → W p l e rmX4_bestWay s m [.ref a_p0, .int x1].toArray below meth c H locs 0 0 Q (F0 m 22 ls []) := by
        intro x2_22 x3_22 x4_22 x5_22 H locs ls hw hP hD hS hl
        obtain ⟨n, hw⟩ := hw
        exact L22 x4_22 n x2_22 x3_22 x5_22 H locs ls hw hP hD hS hl
      intro x2_9 x3_9 x4_9 H locs ls hw hP hD hS hl
      refine lv_iload hx hb dX4_bestWay_9 (lv_at hl 4 rfl) ?_
      refine lv_aload_n hx hb dX4_bestWay_11 rfl (lv_at hl 0 rfl) ?_
      refine lv_iconst (v := (0 : Int32)) hx hb dX4_bestWay_12 (by decide) ?_
      refine kv_callVi (wr := [(a_p0_bagKinds, .inl (cI, 3, .inl p0_bagKinds))]) (wn := (fun (u : Unit) => [(a_p0, .inr (0, [.int p0_bags, .int d_p0_men, .ref a_p0_bagKinds, .ref a_p0_manKinds, .ref a_p0_cells])), (a_p0_bagKinds, .inl (cI, 3, .inl p0_bagKinds)), (a_p0_cells, .inl (cI, 23, .inl p0_cells))])) (As := [.int (0 : Int32)]) (rest := [.int x4_9]) ⟨hx, hb, hml, hown, hts⟩ hK hX hA hP hD hS (mtX0_breathsIn l dC dI cI cZ a_p0 a_p0_bagKinds a_p0_manKinds a_p0_cells H.size p0_bags d_p0_men p0_cells (0 : Int32) _ hw) (cwV 1 hts gX4_bestWay_X0_breathsIn rfl rfl rfl (by decide +kernel) ⟨Nat.le_of_ble_eq_true rfl, Nat.le_of_ble_eq_true rfl⟩) 0 0 rfl rfl rfl [0, 2] [1] [1, 0, 2] rfl rfl rfl rfl (by decide) (fun _ => rfl) rfl rfl hl.1 rfl (Nat.le_of_ble_eq_true rfl) ⟨Nat.zero_le _, Nat.zero_le _⟩ dX4_bestWay_13 (fun r_12 u H locs hw hP hD hS => ?_)
      refine lv_icmp_gt (tgt := 107) hx hb dX4_bestWay_16 (by decide) (fun c_13 => ?_) (fun c_13 => ?_)
      · have hw := hw.1 c_13
        refine lv_iload_n hx hb dX4_bestWay_107 rfl (lv_at hl 2 rfl) ?_
        exact hret x2_9 () H _ _ ls hw hP hD hS dX4_bestWay_108
      · have hw := hw.2 c_13
        refine lv_iconst (v := (0 : Int32)) hx hb dX4_bestWay_19 (by decide) ?_
        refine lv_istore (lv' := [(5, .int (0 : Int32)), (0, .ref a_p0), (1, .int x1), (2, .int x2_9), (3, .int x3_9), (4, .int x4_9)]) hx hb dX4_bestWay_20 hl (by decide) rfl (fun ls hl => ?_)
        exact E22 x2_9 x3_9 x4_9 (0 : Int32) H _ ls hw hP hD hS (lv_sub hl [1, 2, 3, 4, 5, 0] rfl)
  have E9 : ∀ (x2_9 : Int32) (x3_9 : Int32) (x4_9 : Int32) (H : Heap) (locs : List Loc) (ls : Array Slot), wpX4_bestWay_E9 p0_bags p0_bagKinds p0_cells x1 post x2_9 x3_9 x4_9 → va_P (dC, dI) vwCl [(a_p0, .inr (0, [.int p0_bags, .int d_p0_men, .ref a_p0_bagKinds, .ref a_p0_manKinds, .ref a_p0_cells])), (a_p0_bagKinds, .inl (cI, 3, .inl p0_bagKinds)), (a_p0_cells, .inl (cI, 23, .inl p0_cells))] H → va_D A [(a_p0, .inr (0, [.int p0_bags, .int d_p0_men, .ref a_p0_bagKinds, .ref a_p0_manKinds, .ref a_p0_cells])), (a_p0_bagKinds, .inl (cI, 3, .inl p0_bagKinds)), (a_p0_cells, .inl (cI, 23, .inl p0_cells))] → va_S A s.heap H locs → lv_has ls 9 [(0, .ref a_p0), (1, .int x1), (2, .int x2_9), (3, .int x3_9), (4, .int x4_9)] → W p l e rmX4_bestWay s m [.ref a_p0, .int x1].toArray below meth c H locs 0 0 Q (F0 m 9 ls []) := by
    intro x2_9 x3_9 x4_9 H locs ls hw hP hD hS hl
    obtain ⟨n, hw⟩ := hw
    exact L9  n x2_9 x3_9 x4_9 H locs ls hw hP hD hS hl
  refine lv_bipush (v := (-9 : Int32)) hx hb dX4_bestWay_0 (by decide) ?_
  refine lv_istore_n (lv' := [(2, .int (-9 : Int32)), (0, .ref a_p0), (1, .int x1)]) hx hb dX4_bestWay_2 rfl hl (by decide) rfl (fun ls hl => ?_)
  refine lv_bipush (v := (6 : Int32)) hx hb dX4_bestWay_3 (by decide) ?_
  refine lv_istore_n (lv' := [(3, .int (6 : Int32)), (2, .int (-9 : Int32)), (0, .ref a_p0), (1, .int x1)]) hx hb dX4_bestWay_5 rfl hl (by decide) rfl (fun ls hl => ?_)
  refine lv_iconst (v := (0 : Int32)) hx hb dX4_bestWay_6 (by decide) ?_
  refine lv_istore (lv' := [(4, .int (0 : Int32)), (3, .int (6 : Int32)), (2, .int (-9 : Int32)), (0, .ref a_p0), (1, .int x1)]) hx hb dX4_bestWay_7 hl (by decide) rfl (fun ls hl => ?_)
  exact E9 (-9 : Int32) (6 : Int32) (0 : Int32) s.heap _ ls hw hP hD hS (lv_sub hl [3, 4, 2, 1, 0] rfl)

def wpX4_figuresOf_L7 (p0_bags : Int32) (x1 : Int32) (post : Int32 → Prop) : Nat → Int32 → Int32 → Prop
  | 0, _, _ => False
  | n + 1, x2_7, x3_7 => (((3 : Int32) ≤ x3_7 → post x2_7) ∧ (¬ (3 : Int32) ≤ x3_7 → ∀ y_2 : Int32, y_2 = (x2_7 / (10 : Int32)) → ∀ y_3 : Int32, y_3 = (x3_7 + (1 : Int32)) → wpX4_figuresOf_L7 p0_bags x1 post n y_2 y_3))
def wpX4_figuresOf_E7 (p0_bags : Int32) (x1 : Int32) (post : Int32 → Prop) (x2_7 : Int32) (x3_7 : Int32) : Prop := ∃ n : Nat, wpX4_figuresOf_L7 p0_bags x1 post n x2_7 x3_7
def wpX4_figuresOf (p0_bags : Int32) (x1 : Int32) (post : Int32 → Prop) : Prop := wpX4_figuresOf_E7 p0_bags x1 post x1 p0_bags
abbrev rmX4_figuresOf : Room := { frames := 0, cells := 0, slots := 0, locals := 0 }
set_option maxHeartbeats 4000000 in
set_option maxRecDepth 100000 in
theorem mtX4_figuresOf (l : Launch) (dC : Nat → ClassId) (dI : Nat → Nat → Nat) (cI cZ : ClassId) (a_p0 : Nat) (a_p0_bagKinds : Nat) (a_p0_manKinds : Nat) (a_p0_cells : Nat) (sz : Nat) (p0_bags : Int32) (d_p0_men : Int32) (x1 : Int32) (post : Int32 → Prop) (hw : wpX4_figuresOf p0_bags x1 post) : Met l yX4_figuresOf wsX4_figuresOf rmX4_figuresOf (va_Pc [.ref a_p0, .int x1] (kvPre (dC, dI) cI cZ sz [(a_p0, .inr (0, [.int p0_bags, .int d_p0_men, .ref a_p0_bagKinds, .ref a_p0_manKinds, .ref a_p0_cells]))])) (va_Qi (fun (r : Int32) (u : Unit) => post r ) (kvB (dC, dI) (va_A [(a_p0, .inr (0, [.int p0_bags, .int d_p0_men, .ref a_p0_bagKinds, .ref a_p0_manKinds, .ref a_p0_cells]))] sz) (fun (u : Unit) => [(a_p0, .inr (0, [.int p0_bags, .int d_p0_men, .ref a_p0_bagKinds, .ref a_p0_manKinds, .ref a_p0_cells]))])) (va_A [(a_p0, .inr (0, [.int p0_bags, .int d_p0_men, .ref a_p0_bagKinds, .ref a_p0_manKinds, .ref a_p0_cells]))] sz)) 0 0 (va_A [(a_p0, .inr (0, [.int p0_bags, .int d_p0_men, .ref a_p0_bagKinds, .ref a_p0_manKinds, .ref a_p0_cells]))] sz) := by
  refine kv_metI (y := yX4_figuresOf) (ws := wsX4_figuresOf) (rm := rmX4_figuresOf) (av := [.ref a_p0, .int x1]) (sz := sz) (w := [(a_p0, .inr (0, [.int p0_bags, .int d_p0_men, .ref a_p0_bagKinds, .ref a_p0_manKinds, .ref a_p0_cells]))]) (cc := cX4_figuresOf) (maxL := 4) (own := RX4) (post := (fun (r : Int32) (u : Unit) => post r )) (w1 := (fun (u : Unit) => [(a_p0, .inr (0, [.int p0_bags, .int d_p0_men, .ref a_p0_bagKinds, .ref a_p0_manKinds, .ref a_p0_cells]))])) (by decide) rfl rfl (Nat.le_of_ble_eq_true rfl) ?_
  intro p e s m below meth c A Q hx hb hml hown hts hK hX hA hP hD hsz hret ls hl
  have hS : va_S A s.heap s.heap [] := va_S.rf
  have hl : lv_has ls 4 [(0, .ref a_p0), (1, .int x1)] := hl
  have inX0 : ∀ w ∈ u_ws RX0 TX0 5, w ∈ wsX4_figuresOf := by decide +kernel
  have L7 : ∀  (n7 : Nat) (x2_7 : Int32) (x3_7 : Int32) (H : Heap) (locs : List Loc) (ls : Array Slot), wpX4_figuresOf_L7 p0_bags x1 post n7 x2_7 x3_7 → va_P (dC, dI) vwCl [(a_p0, .inr (0, [.int p0_bags, .int d_p0_men, .ref a_p0_bagKinds, .ref a_p0_manKinds, .ref a_p0_cells]))] H → va_D A [(a_p0, .inr (0, [.int p0_bags, .int d_p0_men, .ref a_p0_bagKinds, .ref a_p0_manKinds, .ref a_p0_cells]))] → va_S A s.heap H locs → lv_has ls 4 [(2, .int x2_7), (3, .int x3_7)] → W p l e rmX4_figuresOf s m [.ref a_p0, .int x1].toArray below meth c H locs 0 0 Q (F0 m 7 ls []) := by
    intro  n7
    induction n7 with
    | zero => intro x2_7 x3_7 H locs ls hw hP hD hS hl; exact hw.elim
    | succ n7 ih7 =>
      intro x2_7 x3_7 H locs ls hw hP hD hS hl
      refine lv_iload_n hx hb dX4_figuresOf_7 rfl (lv_at hl 1 rfl) ?_
      refine lv_iconst (v := (3 : Int32)) hx hb dX4_figuresOf_8 (by decide) ?_
      refine lv_icmp_ge (tgt := 23) hx hb dX4_figuresOf_9 (by decide) (fun c_1 => ?_) (fun c_1 => ?_)
      · have hw := hw.1 c_1
        refine lv_iload_n hx hb dX4_figuresOf_23 rfl (lv_at hl 0 rfl) ?_
        exact hret x2_7 () H _ _ ls hw hP hD hS dX4_figuresOf_24
      · have hw := hw.2 c_1
        refine lv_iload_n hx hb dX4_figuresOf_12 rfl (lv_at hl 0 rfl) ?_
        refine lv_bipush (v := (10 : Int32)) hx hb dX4_figuresOf_13 (by decide) ?_
        refine lv_idiv hx hb dX4_figuresOf_15 (by decide) ?_
        refine lv_topi (fun y_2 ey_2 => ?_)
        have hw := hw y_2 ey_2
        refine lv_istore_n (lv' := [(2, .int y_2), (3, .int x3_7)]) hx hb dX4_figuresOf_16 rfl hl (by decide) rfl (fun ls hl => ?_)
        obtain ⟨y_3, ey_3⟩ : ∃ y : Int32, y = (x3_7 + (1 : Int32)) := ⟨_, rfl⟩
        have hw := hw y_3 ey_3
        refine lv_iinc (v := y_3) (lv' := [(3, .int y_3), (2, .int y_2)]) hx hb dX4_figuresOf_17 hl (k := 1) rfl (by rw [ey_3]; rfl) (by decide) rfl (fun ls hl => ?_)
        refine lv_goto (tgt := 7) hx hb dX4_figuresOf_20 (by decide) ?_
        exact ih7 y_2 y_3 H _ ls hw hP hD hS (lv_sub hl [1, 0] rfl)
  have E7 : ∀ (x2_7 : Int32) (x3_7 : Int32) (H : Heap) (locs : List Loc) (ls : Array Slot), wpX4_figuresOf_E7 p0_bags x1 post x2_7 x3_7 → va_P (dC, dI) vwCl [(a_p0, .inr (0, [.int p0_bags, .int d_p0_men, .ref a_p0_bagKinds, .ref a_p0_manKinds, .ref a_p0_cells]))] H → va_D A [(a_p0, .inr (0, [.int p0_bags, .int d_p0_men, .ref a_p0_bagKinds, .ref a_p0_manKinds, .ref a_p0_cells]))] → va_S A s.heap H locs → lv_has ls 4 [(2, .int x2_7), (3, .int x3_7)] → W p l e rmX4_figuresOf s m [.ref a_p0, .int x1].toArray below meth c H locs 0 0 Q (F0 m 7 ls []) := by
    intro x2_7 x3_7 H locs ls hw hP hD hS hl
    obtain ⟨n, hw⟩ := hw
    exact L7  n x2_7 x3_7 H locs ls hw hP hD hS hl
  refine lv_iload_n hx hb dX4_figuresOf_0 rfl (lv_at hl 1 rfl) ?_
  refine lv_istore_n (lv' := [(2, .int x1), (0, .ref a_p0), (1, .int x1)]) hx hb dX4_figuresOf_1 rfl hl (by decide) rfl (fun ls hl => ?_)
  refine lv_aload_n hx hb dX4_figuresOf_2 rfl (lv_at hl 1 rfl) ?_
  refine va_getN (D := (dC, dI)) (ci := 0) (v := .int p0_bags) (C := RX0) (T := TX0) (N := 5) hx hb hts inX0 hown hK hP 0 rfl rfl 0 (by decide) (va_Nw.use rfl hX.1.2.1) (fun _ h9 => h9) rfl dX4_figuresOf_3 ?_
  refine lv_istore_n (lv' := [(3, .int p0_bags), (2, .int x1), (0, .ref a_p0), (1, .int x1)]) hx hb dX4_figuresOf_6 rfl hl (by decide) rfl (fun ls hl => ?_)
  exact E7 x1 p0_bags s.heap _ ls hw hP hD hS (lv_sub hl [1, 0] rfl)

def wpX4_factorial (x0 : Int32) (post : Int32 → Prop) : Prop := ((x0 < 0 → post (1 : Int32)) ∧ (¬ x0 < 0 → (((6 : Int32) ≤ x0 → post (1 : Int32)) ∧ (¬ (6 : Int32) ≤ x0 → vp_in x0 6 ∧ (post (kvfac x0.toNatClampNeg))))))
abbrev rmX4_factorial : Room := { frames := 0, cells := 0, slots := 0, locals := 0 }
set_option maxHeartbeats 4000000 in
set_option maxRecDepth 100000 in
theorem mtX4_factorial (l : Launch) (dC : Nat → ClassId) (dI : Nat → Nat → Nat) (cI cZ : ClassId) (sz : Nat) (x0 : Int32) (post : Int32 → Prop) (hw : wpX4_factorial x0 post) : Met l yX4_factorial wsX4_factorial rmX4_factorial (va_Pc [.int x0] (kvPre (dC, dI) cI cZ sz [])) (va_Qi (fun (r : Int32) (u : Unit) => post r ) (kvB (dC, dI) (va_A [] sz) (fun (u : Unit) => [])) (va_A [] sz)) 0 0 (va_A [] sz) := by
  refine kv_metI (y := yX4_factorial) (ws := wsX4_factorial) (rm := rmX4_factorial) (av := [.int x0]) (sz := sz) (w := []) (cc := cX4_factorial) (maxL := 1) (own := RX4) (post := (fun (r : Int32) (u : Unit) => post r )) (w1 := (fun (u : Unit) => [])) (by decide) rfl rfl (Nat.le_of_ble_eq_true rfl) ?_
  intro p e s m below meth c A Q hx hb hml hown hts hK hX hA hP hD hsz hret ls hl
  have hS : va_S A s.heap s.heap [] := va_S.rf
  have hl : lv_has ls 1 [(0, .int x0)] := hl
  have fl50 := hts (.fieldLink RX4 50 "BreathBags$Sums" "FACTORIALS" "[I") (by decide +kernel)
  obtain ⟨tF, hZF, hTF⟩ := id hX.2
  refine lv_iload_n hx hb dX4_factorial_0 rfl (lv_at hl 0 rfl) ?_
  refine lv_if_lt (tgt := 20) hx hb dX4_factorial_1 (by decide) (fun c_1 => ?_) (fun c_1 => ?_)
  · have hw := hw.1 c_1
    refine lv_iconst (v := (1 : Int32)) hx hb dX4_factorial_20 (by decide) ?_
    exact hret (1 : Int32) () s.heap _ _ ls hw hP hD hS dX4_factorial_21
  · have hw := hw.2 c_1
    refine lv_iload_n hx hb dX4_factorial_4 rfl (lv_at hl 0 rfl) ?_
    refine va_gets hx hb hZF hS hown fl50 (fun _ h9 => h9) dX4_factorial_5 ?_
    refine va_tlen (v := (6 : Int32)) hx hb hTF hS rfl dX4_factorial_8 ?_
    refine lv_icmp_ge (tgt := 20) hx hb dX4_factorial_9 (by decide) (fun c_2 => ?_) (fun c_2 => ?_)
    · have hw := hw.1 c_2
      refine lv_iconst (v := (1 : Int32)) hx hb dX4_factorial_20 (by decide) ?_
      exact hret (1 : Int32) () s.heap _ _ ls hw hP hD hS dX4_factorial_21
    · have hw := hw.2 c_2
      refine va_gets hx hb hZF hS hown fl50 (fun _ h9 => h9) dX4_factorial_12 ?_
      refine lv_iload_n hx hb dX4_factorial_15 rfl (lv_at hl 0 rfl) ?_
      refine va_ti (v := .int (kvfac x0.toNatClampNeg)) hx hb hTF hS hw.1 rfl dX4_factorial_16 ?_
      have hw := hw.2
      refine lv_goto (tgt := 21) hx hb dX4_factorial_17 (by decide) ?_
      exact hret (kvfac x0.toNatClampNeg) () s.heap _ _ ls hw hP hD hS dX4_factorial_21

def wpX4_told_J54 (x0 : Int64) (x2 : Int64) (x4 : Int32) (post : Int32 → Prop) (x5_54 : Int64) (k0_54 : Int64) : Prop := ((¬ (lg_cmp x5_54 (0 : Int64)) = 0 → ¬ x5_54 = 0 ∧ (post (k0_54 / x5_54).toInt32)) ∧ ((lg_cmp x5_54 (0 : Int64)) = 0 → post k0_54.toInt32))
def wpX4_told_J44 (x0 : Int64) (x2 : Int64) (x4 : Int32) (post : Int32 → Prop) (x5_44 : Int64) : Prop := ((x4 = 0 → wpX4_told_J54 x0 x2 x4 post x5_44 x2) ∧ (¬ x4 = 0 → wpX4_told_J54 x0 x2 x4 post x5_44 x0))
def wpX4_told_L9 (x0 : Int64) (x2 : Int64) (x4 : Int32) (kJ44 : Int64 → Prop) (post : Int32 → Prop) : Nat → Int64 → Int64 → Int32 → Prop
  | 0, _, _, _ => False
  | n + 1, x5_9, x7_9, x9_9 => (((64 : Int32) ≤ x9_9 → kJ44 x5_9) ∧ (¬ (64 : Int32) ≤ x9_9 → (((lg_cmp x7_9 (0 : Int64)) = 0 → kJ44 x5_9) ∧ (¬ (lg_cmp x7_9 (0 : Int64)) = 0 → ¬ x7_9 = 0 ∧ (∀ y_5 : Int64, y_5 = (x5_9 - x5_9 / x7_9 * x7_9) → ∀ y_6 : Int32, y_6 = (x9_9 + (1 : Int32)) → wpX4_told_L9 x0 x2 x4 kJ44 post n x7_9 y_5 y_6)))))
def wpX4_told_E9 (x0 : Int64) (x2 : Int64) (x4 : Int32) (post : Int32 → Prop) (x5_9 : Int64) (x7_9 : Int64) (x9_9 : Int32) : Prop := ∃ n : Nat, wpX4_told_L9 x0 x2 x4 (wpX4_told_J44 x0 x2 x4 post) post n x5_9 x7_9 x9_9
def wpX4_told (x0 : Int64) (x2 : Int64) (x4 : Int32) (post : Int32 → Prop) : Prop := wpX4_told_E9 x0 x2 x4 post x2 x0 (0 : Int32)
abbrev rmX4_told : Room := { frames := 0, cells := 0, slots := 0, locals := 0 }
set_option maxHeartbeats 4000000 in
set_option maxRecDepth 100000 in
theorem mtX4_told (l : Launch) (dC : Nat → ClassId) (dI : Nat → Nat → Nat) (cI cZ : ClassId) (sz : Nat) (x0 : Int64) (x2 : Int64) (x4 : Int32) (post : Int32 → Prop) (hw : wpX4_told x0 x2 x4 post) : Met l yX4_told wsX4_told rmX4_told (va_Pc [.long x0, .long x2, .int x4] (kvPre (dC, dI) cI cZ sz [])) (va_Qi (fun (r : Int32) (u : Unit) => post r ) (kvB (dC, dI) (va_A [] sz) (fun (u : Unit) => [])) (va_A [] sz)) 0 0 (va_A [] sz) := by
  refine kv_metI (y := yX4_told) (ws := wsX4_told) (rm := rmX4_told) (av := [.long x0, .long x2, .int x4]) (sz := sz) (w := []) (cc := cX4_told) (maxL := 12) (own := RX4) (post := (fun (r : Int32) (u : Unit) => post r )) (w1 := (fun (u : Unit) => [])) (by decide) rfl rfl (Nat.le_of_ble_eq_true rfl) ?_
  intro p e s m below meth c A Q hx hb hml hown hts hK hX hA hP hD hsz hret ls hl
  have hS : va_S A s.heap s.heap [] := va_S.rf
  have hl : lv_has ls 12 [(0, .long x0), (2, .long x2), (4, .int x4)] := hl
  have B54 : ∀ (x5_54 : Int64) (k0_54 : Int64) (H : Heap) (locs : List Loc) (ls : Array Slot), wpX4_told_J54 x0 x2 x4 post x5_54 k0_54 → va_P (dC, dI) vwCl [] H → va_D A [] → va_S A s.heap H locs → lv_has ls 12 [(5, .long x5_54)] → W p l e rmX4_told s m [.long x0, .long x2, .int x4].toArray below meth c H locs 0 0 Q (F0 m 54 ls [.long k0_54]) := by
    intro x5_54 k0_54 H locs ls hw hP hD hS hl
    refine lv_lstore (lv' := [(9, .long k0_54), (5, .long x5_54)]) hx hb dX4_told_54 hl (by decide) rfl (fun ls hl => ?_)
    refine lv_lload hx hb dX4_told_56 (lv_at hl 1 rfl) ?_
    refine lv_lconst (v := (0 : Int64)) hx hb dX4_told_58 (by decide) ?_
    refine W.lcmp hx hb dX4_told_59 ?_
    refine lv_if_ne (tgt := 68) hx hb dX4_told_60 (by decide) (fun c_1 => ?_) (fun c_1 => ?_)
    · have hw := hw.1 c_1
      refine lv_lload hx hb dX4_told_68 (lv_at hl 0 rfl) ?_
      refine lv_lload hx hb dX4_told_70 (lv_at hl 1 rfl) ?_
      refine lv_ldiv hx hb dX4_told_72 hw.1 ?_
      have hw := hw.2
      refine lv_l2i hx hb dX4_told_73 rfl ?_
      exact hret (k0_54 / x5_54).toInt32 () H _ _ ls hw hP hD hS dX4_told_74
    · have hw := hw.2 c_1
      refine lv_lload hx hb dX4_told_63 (lv_at hl 0 rfl) ?_
      refine lv_goto (tgt := 73) hx hb dX4_told_65 (by decide) ?_
      refine lv_l2i hx hb dX4_told_73 rfl ?_
      exact hret k0_54.toInt32 () H _ _ ls hw hP hD hS dX4_told_74
  have B44 : ∀ (x5_44 : Int64) (H : Heap) (locs : List Loc) (ls : Array Slot), wpX4_told_J44 x0 x2 x4 post x5_44 → va_P (dC, dI) vwCl [] H → va_D A [] → va_S A s.heap H locs → lv_has ls 12 [(0, .long x0), (2, .long x2), (4, .int x4), (5, .long x5_44)] → W p l e rmX4_told s m [.long x0, .long x2, .int x4].toArray below meth c H locs 0 0 Q (F0 m 44 ls []) := by
    intro x5_44 H locs ls hw hP hD hS hl
    refine lv_iload hx hb dX4_told_44 (lv_at hl 2 rfl) ?_
    refine lv_if_eq (tgt := 53) hx hb dX4_told_46 (by decide) (fun c_2 => ?_) (fun c_2 => ?_)
    · have hw := hw.1 c_2
      refine lv_lload_n hx hb dX4_told_53 rfl (lv_at hl 1 rfl) ?_
      exact B54 x5_44 x2 H _ ls hw hP hD hS (lv_sub hl [3] rfl)
    · have hw := hw.2 c_2
      refine lv_lload_n hx hb dX4_told_49 rfl (lv_at hl 0 rfl) ?_
      refine lv_goto (tgt := 54) hx hb dX4_told_50 (by decide) ?_
      exact B54 x5_44 x0 H _ ls hw hP hD hS (lv_sub hl [3] rfl)
  have L9 : ∀  (n9 : Nat) (x5_9 : Int64) (x7_9 : Int64) (x9_9 : Int32) (H : Heap) (locs : List Loc) (ls : Array Slot), wpX4_told_L9 x0 x2 x4 (wpX4_told_J44 x0 x2 x4 post) post n9 x5_9 x7_9 x9_9 → va_P (dC, dI) vwCl [] H → va_D A [] → va_S A s.heap H locs → lv_has ls 12 [(0, .long x0), (2, .long x2), (4, .int x4), (5, .long x5_9), (7, .long x7_9), (9, .int x9_9)] → W p l e rmX4_told s m [.long x0, .long x2, .int x4].toArray below meth c H locs 0 0 Q (F0 m 9 ls []) := by
    intro  n9
    induction n9 with
    | zero => intro x5_9 x7_9 x9_9 H locs ls hw hP hD hS hl; exact hw.elim
    | succ n9 ih9 =>
      intro x5_9 x7_9 x9_9 H locs ls hw hP hD hS hl
      refine lv_iload hx hb dX4_told_9 (lv_at hl 5 rfl) ?_
      refine lv_bipush (v := (64 : Int32)) hx hb dX4_told_11 (by decide) ?_
      refine lv_icmp_ge (tgt := 44) hx hb dX4_told_13 (by decide) (fun c_3 => ?_) (fun c_3 => ?_)
      · have hw := hw.1 c_3
        exact B44 x5_9 H _ ls hw hP hD hS (lv_sub hl [0, 1, 2, 3] rfl)
      · have hw := hw.2 c_3
        refine lv_lload hx hb dX4_told_16 (lv_at hl 4 rfl) ?_
        refine lv_lconst (v := (0 : Int64)) hx hb dX4_told_18 (by decide) ?_
        refine W.lcmp hx hb dX4_told_19 ?_
        refine lv_if_eq (tgt := 44) hx hb dX4_told_20 (by decide) (fun c_4 => ?_) (fun c_4 => ?_)
        · have hw := hw.1 c_4
          exact B44 x5_9 H _ ls hw hP hD hS (lv_sub hl [0, 1, 2, 3] rfl)
        · have hw := hw.2 c_4
          refine lv_lload hx hb dX4_told_23 (lv_at hl 3 rfl) ?_
          refine lv_lload hx hb dX4_told_25 (lv_at hl 4 rfl) ?_
          refine lv_lrem hx hb dX4_told_27 hw.1 ?_
          have hw := hw.2
          refine lv_topl (fun y_5 ey_5 => ?_)
          have hw := hw y_5 ey_5
          refine lv_lstore (lv' := [(10, .long y_5), (0, .long x0), (2, .long x2), (4, .int x4), (5, .long x5_9), (7, .long x7_9), (9, .int x9_9)]) hx hb dX4_told_28 hl (by decide) rfl (fun ls hl => ?_)
          refine lv_lload hx hb dX4_told_30 (lv_at hl 5 rfl) ?_
          refine lv_lstore (lv' := [(5, .long x7_9), (10, .long y_5), (0, .long x0), (2, .long x2), (4, .int x4), (7, .long x7_9), (9, .int x9_9)]) hx hb dX4_told_32 hl (by decide) rfl (fun ls hl => ?_)
          refine lv_lload hx hb dX4_told_34 (lv_at hl 1 rfl) ?_
          refine lv_lstore (lv' := [(7, .long y_5), (5, .long x7_9), (10, .long y_5), (0, .long x0), (2, .long x2), (4, .int x4), (9, .int x9_9)]) hx hb dX4_told_36 hl (by decide) rfl (fun ls hl => ?_)
          obtain ⟨y_6, ey_6⟩ : ∃ y : Int32, y = (x9_9 + (1 : Int32)) := ⟨_, rfl⟩
          have hw := hw y_6 ey_6
          refine lv_iinc (v := y_6) (lv' := [(9, .int y_6), (7, .long y_5), (5, .long x7_9), (10, .long y_5), (0, .long x0), (2, .long x2), (4, .int x4)]) hx hb dX4_told_38 hl (k := 6) rfl (by rw [ey_6]; rfl) (by decide) rfl (fun ls hl => ?_)
          refine lv_goto (tgt := 9) hx hb dX4_told_41 (by decide) ?_
          exact ih9 x7_9 y_5 y_6 H _ ls hw hP hD hS (lv_sub hl [4, 5, 6, 2, 1, 0] rfl)
  have E9 : ∀ (x5_9 : Int64) (x7_9 : Int64) (x9_9 : Int32) (H : Heap) (locs : List Loc) (ls : Array Slot), wpX4_told_E9 x0 x2 x4 post x5_9 x7_9 x9_9 → va_P (dC, dI) vwCl [] H → va_D A [] → va_S A s.heap H locs → lv_has ls 12 [(0, .long x0), (2, .long x2), (4, .int x4), (5, .long x5_9), (7, .long x7_9), (9, .int x9_9)] → W p l e rmX4_told s m [.long x0, .long x2, .int x4].toArray below meth c H locs 0 0 Q (F0 m 9 ls []) := by
    intro x5_9 x7_9 x9_9 H locs ls hw hP hD hS hl
    obtain ⟨n, hw⟩ := hw
    exact L9  n x5_9 x7_9 x9_9 H locs ls hw hP hD hS hl
  refine lv_lload_n hx hb dX4_told_0 rfl (lv_at hl 1 rfl) ?_
  refine lv_lstore (lv' := [(5, .long x2), (0, .long x0), (2, .long x2), (4, .int x4)]) hx hb dX4_told_1 hl (by decide) rfl (fun ls hl => ?_)
  refine lv_lload_n hx hb dX4_told_3 rfl (lv_at hl 1 rfl) ?_
  refine lv_lstore (lv' := [(7, .long x0), (5, .long x2), (0, .long x0), (2, .long x2), (4, .int x4)]) hx hb dX4_told_4 hl (by decide) rfl (fun ls hl => ?_)
  refine lv_iconst (v := (0 : Int32)) hx hb dX4_told_6 (by decide) ?_
  refine lv_istore (lv' := [(9, .int (0 : Int32)), (7, .long x0), (5, .long x2), (0, .long x0), (2, .long x2), (4, .int x4)]) hx hb dX4_told_7 hl (by decide) rfl (fun ls hl => ?_)
  exact E9 x2 x0 (0 : Int32) s.heap _ ls hw hP hD hS (lv_sub hl [3, 4, 5, 2, 1, 0] rfl)

def wpX4_shareOf_J100 (p0_bags : Int32) (p0_men : Int32) (p0_cells : Nat → Int32) (x1 : Int32) (x2 : Int32) (post : Int32 → Prop) (x3_100 : Int32) (x5_100 : Int64) : Prop := wpX4_factorial x3_100 (fun r_1 => wpX4_told x5_100 r_1.toInt64 x2 (fun r_2 => post r_2))
def wpX4_shareOf_J94 (p0_bags : Int32) (p0_men : Int32) (p0_cells : Nat → Int32) (x1 : Int32) (x2 : Int32) (x3_18 : Int32) (x4_18 : Int32) (kL18 : Int64 → Int32 → Prop) (post : Int32 → Prop) (x5_94 : Int64) (x7_94 : Int32) : Prop := ∀ y_3 : Int32, y_3 = (x7_94 + (1 : Int32)) → kL18 x5_94 y_3
def wpX4_shareOf_L18 (p0_bags : Int32) (p0_men : Int32) (p0_cells : Nat → Int32) (x1 : Int32) (x2 : Int32) (x3_18 : Int32) (x4_18 : Int32) (kJ100 : Int32 → Int64 → Prop) (post : Int32 → Prop) : Nat → Int64 → Int32 → Prop
  | 0, _, _ => False
  | n + 1, x5_18, x7_18 => ((((1 : Int32) <<< (x3_18 &&& 31)) ≤ x7_18 → kJ100 x3_18 x5_18) ∧ (¬ ((1 : Int32) <<< (x3_18 &&& 31)) ≤ x7_18 → ((¬ ((x7_18 >>> (x1 &&& 31)) &&& (1 : Int32)) = (1 : Int32) → wpX0_breathsOfThese p0_bags p0_cells x7_18 (fun r_6 => ∀ y_7 : Int32, y_7 = (((r_6 + x4_18) / (4 : Int32)) - (r_6 / (4 : Int32))) → wpJ6_bitCount_0f7a4 x7_18 (fun r_8 => wpX4_factorial r_8 (fun r_9 => wpX4_factorial ((x3_18 - (1 : Int32)) - r_8) (fun r_10 => ∀ y_11 : Int64, y_11 = (x5_18 + ((y_7.toInt64 * r_9.toInt64) * r_10.toInt64)) → wpX4_shareOf_J94 p0_bags p0_men p0_cells x1 x2 x3_18 x4_18 (wpX4_shareOf_L18 p0_bags p0_men p0_cells x1 x2 x3_18 x4_18 kJ100 post n) post y_11 x7_18))))) ∧ (((x7_18 >>> (x1 &&& 31)) &&& (1 : Int32)) = (1 : Int32) → wpX4_shareOf_J94 p0_bags p0_men p0_cells x1 x2 x3_18 x4_18 (wpX4_shareOf_L18 p0_bags p0_men p0_cells x1 x2 x3_18 x4_18 kJ100 post n) post x5_18 x7_18))))
def wpX4_shareOf_E18 (p0_bags : Int32) (p0_men : Int32) (p0_cells : Nat → Int32) (x1 : Int32) (x2 : Int32) (post : Int32 → Prop) (x3_18 : Int32) (x4_18 : Int32) (x5_18 : Int64) (x7_18 : Int32) : Prop := ∃ n : Nat, wpX4_shareOf_L18 p0_bags p0_men p0_cells x1 x2 x3_18 x4_18 (wpX4_shareOf_J100 p0_bags p0_men p0_cells x1 x2 post) post n x5_18 x7_18
def wpX4_shareOf (p0_bags : Int32) (p0_men : Int32) (p0_cells : Nat → Int32) (x1 : Int32) (x2 : Int32) (post : Int32 → Prop) : Prop := wpX0_breathsOf p0_bags p0_cells x1 (fun r_12 => wpX4_shareOf_E18 p0_bags p0_men p0_cells x1 x2 post p0_men r_12 (0 : Int64) (0 : Int32))
abbrev rmX4_shareOf : Room := { frames := 4, cells := 0, slots := 0, locals := 88 }
set_option maxHeartbeats 4000000 in
set_option maxRecDepth 100000 in
theorem mtX4_shareOf (l : Launch) (dC : Nat → ClassId) (dI : Nat → Nat → Nat) (cI cZ : ClassId) (a_p0 : Nat) (a_p0_bagKinds : Nat) (a_p0_manKinds : Nat) (a_p0_cells : Nat) (sz : Nat) (p0_bags : Int32) (p0_men : Int32) (p0_cells : Nat → Int32) (x1 : Int32) (x2 : Int32) (post : Int32 → Prop) (hw : wpX4_shareOf p0_bags p0_men p0_cells x1 x2 post) : Met l yX4_shareOf wsX4_shareOf rmX4_shareOf (va_Pc [.ref a_p0, .int x1, .int x2] (kvPre (dC, dI) cI cZ sz [(a_p0, .inr (0, [.int p0_bags, .int p0_men, .ref a_p0_bagKinds, .ref a_p0_manKinds, .ref a_p0_cells])), (a_p0_cells, .inl (cI, 23, .inl p0_cells))])) (va_Qi (fun (r : Int32) (u : Unit) => post r ) (kvB (dC, dI) (va_A [(a_p0, .inr (0, [.int p0_bags, .int p0_men, .ref a_p0_bagKinds, .ref a_p0_manKinds, .ref a_p0_cells])), (a_p0_cells, .inl (cI, 23, .inl p0_cells))] sz) (fun (u : Unit) => [(a_p0, .inr (0, [.int p0_bags, .int p0_men, .ref a_p0_bagKinds, .ref a_p0_manKinds, .ref a_p0_cells])), (a_p0_cells, .inl (cI, 23, .inl p0_cells))])) (va_A [(a_p0, .inr (0, [.int p0_bags, .int p0_men, .ref a_p0_bagKinds, .ref a_p0_manKinds, .ref a_p0_cells])), (a_p0_cells, .inl (cI, 23, .inl p0_cells))] sz)) 0 0 (va_A [(a_p0, .inr (0, [.int p0_bags, .int p0_men, .ref a_p0_bagKinds, .ref a_p0_manKinds, .ref a_p0_cells])), (a_p0_cells, .inl (cI, 23, .inl p0_cells))] sz) := by
  refine kv_metI (y := yX4_shareOf) (ws := wsX4_shareOf) (rm := rmX4_shareOf) (av := [.ref a_p0, .int x1, .int x2]) (sz := sz) (w := [(a_p0, .inr (0, [.int p0_bags, .int p0_men, .ref a_p0_bagKinds, .ref a_p0_manKinds, .ref a_p0_cells])), (a_p0_cells, .inl (cI, 23, .inl p0_cells))]) (cc := cX4_shareOf) (maxL := 11) (own := RX4) (post := (fun (r : Int32) (u : Unit) => post r )) (w1 := (fun (u : Unit) => [(a_p0, .inr (0, [.int p0_bags, .int p0_men, .ref a_p0_bagKinds, .ref a_p0_manKinds, .ref a_p0_cells])), (a_p0_cells, .inl (cI, 23, .inl p0_cells))])) (by decide) rfl rfl (Nat.le_of_ble_eq_true rfl) ?_
  intro p e s m below meth c A Q hx hb hml hown hts hK hX hA hP hD hsz hret ls hl
  have hS : va_S A s.heap s.heap [] := va_S.rf
  have hl : lv_has ls 11 [(0, .ref a_p0), (1, .int x1), (2, .int x2)] := hl
  have inX0 : ∀ w ∈ u_ws RX0 TX0 5, w ∈ wsX4_shareOf := by decide +kernel
  have B100 : ∀ (x3_100 : Int32) (x5_100 : Int64) (H : Heap) (locs : List Loc) (ls : Array Slot), wpX4_shareOf_J100 p0_bags p0_men p0_cells x1 x2 post x3_100 x5_100 → va_P (dC, dI) vwCl [(a_p0, .inr (0, [.int p0_bags, .int p0_men, .ref a_p0_bagKinds, .ref a_p0_manKinds, .ref a_p0_cells])), (a_p0_cells, .inl (cI, 23, .inl p0_cells))] H → va_D A [(a_p0, .inr (0, [.int p0_bags, .int p0_men, .ref a_p0_bagKinds, .ref a_p0_manKinds, .ref a_p0_cells])), (a_p0_cells, .inl (cI, 23, .inl p0_cells))] → va_S A s.heap H locs → lv_has ls 11 [(2, .int x2), (3, .int x3_100), (5, .long x5_100)] → W p l e rmX4_shareOf s m [.ref a_p0, .int x1, .int x2].toArray below meth c H locs 0 0 Q (F0 m 100 ls []) := by
    intro x3_100 x5_100 H locs ls hw hP hD hS hl
    refine lv_lload hx hb dX4_shareOf_100 (lv_at hl 2 rfl) ?_
    refine lv_iload_n hx hb dX4_shareOf_102 rfl (lv_at hl 1 rfl) ?_
    refine kv_callSi (wr := [(a_p0, .inr (0, [.int p0_bags, .int p0_men, .ref a_p0_bagKinds, .ref a_p0_manKinds, .ref a_p0_cells])), (a_p0_cells, .inl (cI, 23, .inl p0_cells))]) (wn := (fun (u : Unit) => [(a_p0, .inr (0, [.int p0_bags, .int p0_men, .ref a_p0_bagKinds, .ref a_p0_manKinds, .ref a_p0_cells])), (a_p0_cells, .inl (cI, 23, .inl p0_cells))])) (As := [.int x3_100]) (rest := [.long x5_100]) ⟨hx, hb, hml, hown, hts⟩ hK hX hA hP hD hS (mtX4_factorial l dC dI cI cZ H.size x3_100 _ hw) (va_cwS 1 hts gX4_shareOf_X4_factorial rfl rfl rfl (by decide +kernel) ⟨Nat.le_of_ble_eq_true rfl, Nat.le_of_ble_eq_true rfl⟩) [] [0, 1] [0, 1] rfl rfl rfl rfl (by decide) (fun _ => rfl) rfl rfl hl.1 rfl (Nat.le_of_ble_eq_true rfl) ⟨Nat.zero_le _, Nat.zero_le _⟩ dX4_shareOf_103 (fun r_1 u H locs hw hP hD hS => ?_)
    refine lv_i2l hx hb dX4_shareOf_106 rfl ?_
    refine lv_iload_n hx hb dX4_shareOf_107 rfl (lv_at hl 0 rfl) ?_
    refine kv_callSi (wr := [(a_p0, .inr (0, [.int p0_bags, .int p0_men, .ref a_p0_bagKinds, .ref a_p0_manKinds, .ref a_p0_cells])), (a_p0_cells, .inl (cI, 23, .inl p0_cells))]) (wn := (fun (u : Unit) => [(a_p0, .inr (0, [.int p0_bags, .int p0_men, .ref a_p0_bagKinds, .ref a_p0_manKinds, .ref a_p0_cells])), (a_p0_cells, .inl (cI, 23, .inl p0_cells))])) (As := [.long x5_100, .long r_1.toInt64, .int x2]) (rest := []) ⟨hx, hb, hml, hown, hts⟩ hK hX hA hP hD hS (mtX4_told l dC dI cI cZ H.size x5_100 r_1.toInt64 x2 _ hw) (va_cwS 3 hts gX4_shareOf_X4_told rfl rfl rfl (by decide +kernel) ⟨Nat.le_of_ble_eq_true rfl, Nat.le_of_ble_eq_true rfl⟩) [] [0, 1] [0, 1] rfl rfl rfl rfl (by decide) (fun _ => rfl) rfl rfl hl.1 rfl (Nat.le_of_ble_eq_true rfl) ⟨Nat.zero_le _, Nat.zero_le _⟩ dX4_shareOf_108 (fun r_2 u H locs hw hP hD hS => ?_)
    exact hret r_2 () H _ _ ls hw hP hD hS dX4_shareOf_111
  have L18 : ∀ (x3_18 : Int32) (x4_18 : Int32) (n18 : Nat) (x5_18 : Int64) (x7_18 : Int32) (H : Heap) (locs : List Loc) (ls : Array Slot), wpX4_shareOf_L18 p0_bags p0_men p0_cells x1 x2 x3_18 x4_18 (wpX4_shareOf_J100 p0_bags p0_men p0_cells x1 x2 post) post n18 x5_18 x7_18 → va_P (dC, dI) vwCl [(a_p0, .inr (0, [.int p0_bags, .int p0_men, .ref a_p0_bagKinds, .ref a_p0_manKinds, .ref a_p0_cells])), (a_p0_cells, .inl (cI, 23, .inl p0_cells))] H → va_D A [(a_p0, .inr (0, [.int p0_bags, .int p0_men, .ref a_p0_bagKinds, .ref a_p0_manKinds, .ref a_p0_cells])), (a_p0_cells, .inl (cI, 23, .inl p0_cells))] → va_S A s.heap H locs → lv_has ls 11 [(0, .ref a_p0), (1, .int x1), (2, .int x2), (3, .int x3_18), (4, .int x4_18), (5, .long x5_18), (7, .int x7_18)] → W p l e rmX4_shareOf s m [.ref a_p0, .int x1, .int x2].toArray below meth c H locs 0 0 Q (F0 m 18 ls []) := by
    intro x3_18 x4_18 n18
    induction n18 with
    | zero => intro x5_18 x7_18 H locs ls hw hP hD hS hl; exact hw.elim
    | succ n18 ih18 =>
      have B94 : ∀ (x5_94 : Int64) (x7_94 : Int32) (H : Heap) (locs : List Loc) (ls : Array Slot), wpX4_shareOf_J94 p0_bags p0_men p0_cells x1 x2 x3_18 x4_18 (wpX4_shareOf_L18 p0_bags p0_men p0_cells x1 x2 x3_18 x4_18 (wpX4_shareOf_J100 p0_bags p0_men p0_cells x1 x2 post) post n18) post x5_94 x7_94 → va_P (dC, dI) vwCl [(a_p0, .inr (0, [.int p0_bags, .int p0_men, .ref a_p0_bagKinds, .ref a_p0_manKinds, .ref a_p0_cells])), (a_p0_cells, .inl (cI, 23, .inl p0_cells))] H → va_D A [(a_p0, .inr (0, [.int p0_bags, .int p0_men, .ref a_p0_bagKinds, .ref a_p0_manKinds, .ref a_p0_cells])), (a_p0_cells, .inl (cI, 23, .inl p0_cells))] → va_S A s.heap H locs → lv_has ls 11 [(0, .ref a_p0), (1, .int x1), (2, .int x2), (3, .int x3_18), (4, .int x4_18), (5, .long x5_94), (7, .int x7_94)] → W p l e rmX4_shareOf s m [.ref a_p0, .int x1, .int x2].toArray below meth c H locs 0 0 Q (F0 m 94 ls []) := by
        intro x5_94 x7_94 H locs ls hw hP hD hS hl
        obtain ⟨y_3, ey_3⟩ : ∃ y : Int32, y = (x7_94 + (1 : Int32)) := ⟨_, rfl⟩
        have hw := hw y_3 ey_3
        refine lv_iinc (v := y_3) (lv' := [(7, .int y_3), (0, .ref a_p0), (1, .int x1), (2, .int x2), (3, .int x3_18), (4, .int x4_18), (5, .long x5_94)]) hx hb dX4_shareOf_94 hl (k := 6) rfl (by rw [ey_3]; rfl) (by decide) rfl (fun ls hl => ?_)
        refine lv_goto (tgt := 18) hx hb dX4_shareOf_97 (by decide) ?_
        exact ih18 x5_94 y_3 H _ ls hw hP hD hS (lv_sub hl [1, 2, 3, 4, 5, 6, 0] rfl)
      intro x5_18 x7_18 H locs ls hw hP hD hS hl
      refine lv_iload hx hb dX4_shareOf_18 (lv_at hl 6 rfl) ?_
      refine lv_iconst (v := (1 : Int32)) hx hb dX4_shareOf_20 (by decide) ?_
      refine lv_iload_n hx hb dX4_shareOf_21 rfl (lv_at hl 3 rfl) ?_
      refine lv_ishl hx hb dX4_shareOf_22 ?_
      refine lv_icmp_ge (tgt := 100) hx hb dX4_shareOf_23 (by decide) (fun c_4 => ?_) (fun c_4 => ?_)
      · have hw := hw.1 c_4
        exact B100 x3_18 x5_18 H _ ls hw hP hD hS (lv_sub hl [2, 3, 5] rfl)
      · have hw := hw.2 c_4
        refine lv_iload hx hb dX4_shareOf_26 (lv_at hl 6 rfl) ?_
        refine lv_iload_n hx hb dX4_shareOf_28 rfl (lv_at hl 1 rfl) ?_
        refine lv_ishr hx hb dX4_shareOf_29 ?_
        refine lv_iconst (v := (1 : Int32)) hx hb dX4_shareOf_30 (by decide) ?_
        refine lv_iand hx hb dX4_shareOf_31 ?_
        refine lv_iconst (v := (1 : Int32)) hx hb dX4_shareOf_32 (by decide) ?_
        refine lv_icmp_ne (tgt := 39) hx hb dX4_shareOf_33 (by decide) (fun c_5 => ?_) (fun c_5 => ?_)
        · have hw := hw.1 c_5
          refine lv_aload_n hx hb dX4_shareOf_39 rfl (lv_at hl 0 rfl) ?_
          refine lv_iload hx hb dX4_shareOf_40 (lv_at hl 6 rfl) ?_
          refine kv_callVi (wr := []) (wn := (fun (u : Unit) => [(a_p0, .inr (0, [.int p0_bags, .int p0_men, .ref a_p0_bagKinds, .ref a_p0_manKinds, .ref a_p0_cells])), (a_p0_cells, .inl (cI, 23, .inl p0_cells))])) (As := [.int x7_18]) (rest := []) ⟨hx, hb, hml, hown, hts⟩ hK hX hA hP hD hS (mtX0_breathsOfThese l dC dI cI cZ a_p0 a_p0_bagKinds a_p0_manKinds a_p0_cells H.size p0_bags p0_men p0_cells x7_18 _ hw) (cwV 1 hts gX4_shareOf_X0_breathsOfThese rfl rfl rfl (by decide +kernel) ⟨Nat.le_of_ble_eq_true rfl, Nat.le_of_ble_eq_true rfl⟩) 0 0 rfl rfl rfl [0, 1] [] [0, 1] rfl rfl rfl rfl (by decide) (fun _ => rfl) rfl rfl hl.1 rfl (Nat.le_of_ble_eq_true rfl) ⟨Nat.zero_le _, Nat.zero_le _⟩ dX4_shareOf_42 (fun r_6 u H locs hw hP hD hS => ?_)
          refine lv_istore (lv' := [(8, .int r_6), (0, .ref a_p0), (1, .int x1), (2, .int x2), (3, .int x3_18), (4, .int x4_18), (5, .long x5_18), (7, .int x7_18)]) hx hb dX4_shareOf_45 hl (by decide) rfl (fun ls hl => ?_)
          refine lv_iload hx hb dX4_shareOf_47 (lv_at hl 0 rfl) ?_
          refine lv_iload hx hb dX4_shareOf_49 (lv_at hl 5 rfl) ?_
          refine lv_iadd hx hb dX4_shareOf_51 ?_
          refine lv_iconst (v := (4 : Int32)) hx hb dX4_shareOf_52 (by decide) ?_
          refine lv_idiv hx hb dX4_shareOf_53 (by decide) ?_
          refine lv_iload hx hb dX4_shareOf_54 (lv_at hl 0 rfl) ?_
          refine lv_iconst (v := (4 : Int32)) hx hb dX4_shareOf_56 (by decide) ?_
          refine lv_idiv hx hb dX4_shareOf_57 (by decide) ?_
          refine lv_isub hx hb dX4_shareOf_58 ?_
          refine lv_topi (fun y_7 ey_7 => ?_)
          have hw := hw y_7 ey_7
          refine lv_istore (lv' := [(9, .int y_7), (8, .int r_6), (0, .ref a_p0), (1, .int x1), (2, .int x2), (3, .int x3_18), (4, .int x4_18), (5, .long x5_18), (7, .int x7_18)]) hx hb dX4_shareOf_59 hl (by decide) rfl (fun ls hl => ?_)
          refine lv_iload hx hb dX4_shareOf_61 (lv_at hl 8 rfl) ?_
          refine kv_callSi (wr := [(a_p0, .inr (0, [.int p0_bags, .int p0_men, .ref a_p0_bagKinds, .ref a_p0_manKinds, .ref a_p0_cells])), (a_p0_cells, .inl (cI, 23, .inl p0_cells))]) (wn := (fun (u : Unit) => [(a_p0, .inr (0, [.int p0_bags, .int p0_men, .ref a_p0_bagKinds, .ref a_p0_manKinds, .ref a_p0_cells])), (a_p0_cells, .inl (cI, 23, .inl p0_cells))])) (As := [.int x7_18]) (rest := []) ⟨hx, hb, hml, hown, hts⟩ hK hX hA hP hD hS (mtJ6_bitCount_0f7a4 l dC dI cI cZ H.size x7_18 _ hw) (va_cwS 1 hts gX4_shareOf_J6_bitCount_0f7a4 rfl rfl rfl (by decide +kernel) ⟨Nat.le_of_ble_eq_true rfl, Nat.le_of_ble_eq_true rfl⟩) [] [0, 1] [0, 1] rfl rfl rfl rfl (by decide) (fun _ => rfl) rfl rfl hl.1 rfl (Nat.le_of_ble_eq_true rfl) ⟨Nat.zero_le _, Nat.zero_le _⟩ dX4_shareOf_63 (fun r_8 u H locs hw hP hD hS => ?_)
          refine lv_istore (lv' := [(10, .int r_8), (9, .int y_7), (8, .int r_6), (0, .ref a_p0), (1, .int x1), (2, .int x2), (3, .int x3_18), (4, .int x4_18), (5, .long x5_18), (7, .int x7_18)]) hx hb dX4_shareOf_66 hl (by decide) rfl (fun ls hl => ?_)
          refine lv_lload hx hb dX4_shareOf_68 (lv_at hl 8 rfl) ?_
          refine lv_iload hx hb dX4_shareOf_70 (lv_at hl 1 rfl) ?_
          refine lv_i2l hx hb dX4_shareOf_72 rfl ?_
          refine lv_iload hx hb dX4_shareOf_73 (lv_at hl 0 rfl) ?_
          refine kv_callSi (wr := [(a_p0, .inr (0, [.int p0_bags, .int p0_men, .ref a_p0_bagKinds, .ref a_p0_manKinds, .ref a_p0_cells])), (a_p0_cells, .inl (cI, 23, .inl p0_cells))]) (wn := (fun (u : Unit) => [(a_p0, .inr (0, [.int p0_bags, .int p0_men, .ref a_p0_bagKinds, .ref a_p0_manKinds, .ref a_p0_cells])), (a_p0_cells, .inl (cI, 23, .inl p0_cells))])) (As := [.int r_8]) (rest := [.long y_7.toInt64, .long x5_18]) ⟨hx, hb, hml, hown, hts⟩ hK hX hA hP hD hS (mtX4_factorial l dC dI cI cZ H.size r_8 _ hw) (va_cwS 1 hts gX4_shareOf_X4_factorial rfl rfl rfl (by decide +kernel) ⟨Nat.le_of_ble_eq_true rfl, Nat.le_of_ble_eq_true rfl⟩) [] [0, 1] [0, 1] rfl rfl rfl rfl (by decide) (fun _ => rfl) rfl rfl hl.1 rfl (Nat.le_of_ble_eq_true rfl) ⟨Nat.zero_le _, Nat.zero_le _⟩ dX4_shareOf_75 (fun r_9 u H locs hw hP hD hS => ?_)
          refine lv_i2l hx hb dX4_shareOf_78 rfl ?_
          refine lv_lmul hx hb dX4_shareOf_79 ?_
          refine lv_iload_n hx hb dX4_shareOf_80 rfl (lv_at hl 6 rfl) ?_
          refine lv_iconst (v := (1 : Int32)) hx hb dX4_shareOf_81 (by decide) ?_
          refine lv_isub hx hb dX4_shareOf_82 ?_
          refine lv_iload hx hb dX4_shareOf_83 (lv_at hl 0 rfl) ?_
          refine lv_isub hx hb dX4_shareOf_85 ?_
          refine kv_callSi (wr := [(a_p0, .inr (0, [.int p0_bags, .int p0_men, .ref a_p0_bagKinds, .ref a_p0_manKinds, .ref a_p0_cells])), (a_p0_cells, .inl (cI, 23, .inl p0_cells))]) (wn := (fun (u : Unit) => [(a_p0, .inr (0, [.int p0_bags, .int p0_men, .ref a_p0_bagKinds, .ref a_p0_manKinds, .ref a_p0_cells])), (a_p0_cells, .inl (cI, 23, .inl p0_cells))])) (As := [.int ((x3_18 - (1 : Int32)) - r_8)]) (rest := [.long (y_7.toInt64 * r_9.toInt64), .long x5_18]) ⟨hx, hb, hml, hown, hts⟩ hK hX hA hP hD hS (mtX4_factorial l dC dI cI cZ H.size ((x3_18 - (1 : Int32)) - r_8) _ hw) (va_cwS 1 hts gX4_shareOf_X4_factorial rfl rfl rfl (by decide +kernel) ⟨Nat.le_of_ble_eq_true rfl, Nat.le_of_ble_eq_true rfl⟩) [] [0, 1] [0, 1] rfl rfl rfl rfl (by decide) (fun _ => rfl) rfl rfl hl.1 rfl (Nat.le_of_ble_eq_true rfl) ⟨Nat.zero_le _, Nat.zero_le _⟩ dX4_shareOf_86 (fun r_10 u H locs hw hP hD hS => ?_)
          refine lv_i2l hx hb dX4_shareOf_89 rfl ?_
          refine lv_lmul hx hb dX4_shareOf_90 ?_
          refine lv_ladd hx hb dX4_shareOf_91 ?_
          refine lv_topl (fun y_11 ey_11 => ?_)
          have hw := hw y_11 ey_11
          refine lv_lstore (lv' := [(5, .long y_11), (10, .int r_8), (9, .int y_7), (8, .int r_6), (0, .ref a_p0), (1, .int x1), (2, .int x2), (3, .int x3_18), (4, .int x4_18), (7, .int x7_18)]) hx hb dX4_shareOf_92 hl (by decide) rfl (fun ls hl => ?_)
          exact B94 y_11 x7_18 H _ ls hw hP hD hS (lv_sub hl [4, 5, 6, 7, 8, 0, 9] rfl)
        · have hw := hw.2 c_5
          refine lv_goto (tgt := 94) hx hb dX4_shareOf_36 (by decide) ?_
          exact B94 x5_18 x7_18 H _ ls hw hP hD hS (lv_sub hl [0, 1, 2, 3, 4, 5, 6] rfl)
  have E18 : ∀ (x3_18 : Int32) (x4_18 : Int32) (x5_18 : Int64) (x7_18 : Int32) (H : Heap) (locs : List Loc) (ls : Array Slot), wpX4_shareOf_E18 p0_bags p0_men p0_cells x1 x2 post x3_18 x4_18 x5_18 x7_18 → va_P (dC, dI) vwCl [(a_p0, .inr (0, [.int p0_bags, .int p0_men, .ref a_p0_bagKinds, .ref a_p0_manKinds, .ref a_p0_cells])), (a_p0_cells, .inl (cI, 23, .inl p0_cells))] H → va_D A [(a_p0, .inr (0, [.int p0_bags, .int p0_men, .ref a_p0_bagKinds, .ref a_p0_manKinds, .ref a_p0_cells])), (a_p0_cells, .inl (cI, 23, .inl p0_cells))] → va_S A s.heap H locs → lv_has ls 11 [(0, .ref a_p0), (1, .int x1), (2, .int x2), (3, .int x3_18), (4, .int x4_18), (5, .long x5_18), (7, .int x7_18)] → W p l e rmX4_shareOf s m [.ref a_p0, .int x1, .int x2].toArray below meth c H locs 0 0 Q (F0 m 18 ls []) := by
    intro x3_18 x4_18 x5_18 x7_18 H locs ls hw hP hD hS hl
    obtain ⟨n, hw⟩ := hw
    exact L18 x3_18 x4_18 n x5_18 x7_18 H locs ls hw hP hD hS hl
  refine lv_aload_n hx hb dX4_shareOf_0 rfl (lv_at hl 0 rfl) ?_
  refine va_getN (D := (dC, dI)) (ci := 0) (v := .int p0_men) (C := RX0) (T := TX0) (N := 5) hx hb hts inX0 hown hK hP 0 rfl rfl 1 (by decide) (va_Nw.use rfl hX.1.2.2.2.2.1) (fun _ h9 => h9) rfl dX4_shareOf_1 ?_
  refine lv_istore_n (lv' := [(3, .int p0_men), (0, .ref a_p0), (1, .int x1), (2, .int x2)]) hx hb dX4_shareOf_4 rfl hl (by decide) rfl (fun ls hl => ?_)
  refine lv_aload_n hx hb dX4_shareOf_5 rfl (lv_at hl 1 rfl) ?_
  refine lv_iload_n hx hb dX4_shareOf_6 rfl (lv_at hl 2 rfl) ?_
  refine kv_callVi (wr := []) (wn := (fun (u : Unit) => [(a_p0, .inr (0, [.int p0_bags, .int p0_men, .ref a_p0_bagKinds, .ref a_p0_manKinds, .ref a_p0_cells])), (a_p0_cells, .inl (cI, 23, .inl p0_cells))])) (As := [.int x1]) (rest := []) ⟨hx, hb, hml, hown, hts⟩ hK hX hA hP hD hS (mtX0_breathsOf l dC dI cI cZ a_p0 a_p0_bagKinds a_p0_manKinds a_p0_cells s.heap.size p0_bags p0_men p0_cells x1 _ hw) (cwV 1 hts gX4_shareOf_X0_breathsOf rfl rfl rfl (by decide +kernel) ⟨Nat.le_of_ble_eq_true rfl, Nat.le_of_ble_eq_true rfl⟩) 0 0 rfl rfl rfl [0, 1] [] [0, 1] rfl rfl rfl rfl (by decide) (fun _ => rfl) rfl rfl hl.1 rfl (Nat.le_of_ble_eq_true rfl) ⟨Nat.zero_le _, Nat.zero_le _⟩ dX4_shareOf_7 (fun r_12 u H locs hw hP hD hS => ?_)
  refine lv_istore (lv' := [(4, .int r_12), (3, .int p0_men), (0, .ref a_p0), (1, .int x1), (2, .int x2)]) hx hb dX4_shareOf_10 hl (by decide) rfl (fun ls hl => ?_)
  refine lv_lconst (v := (0 : Int64)) hx hb dX4_shareOf_12 (by decide) ?_
  refine lv_lstore (lv' := [(5, .long (0 : Int64)), (4, .int r_12), (3, .int p0_men), (0, .ref a_p0), (1, .int x1), (2, .int x2)]) hx hb dX4_shareOf_13 hl (by decide) rfl (fun ls hl => ?_)
  refine lv_iconst (v := (0 : Int32)) hx hb dX4_shareOf_15 (by decide) ?_
  refine lv_istore (lv' := [(7, .int (0 : Int32)), (5, .long (0 : Int64)), (4, .int r_12), (3, .int p0_men), (0, .ref a_p0), (1, .int x1), (2, .int x2)]) hx hb dX4_shareOf_16 hl (by decide) rfl (fun ls hl => ?_)
  exact E18 p0_men r_12 (0 : Int64) (0 : Int32) H _ ls hw hP hD hS (lv_sub hl [4, 5, 6, 3, 2, 1, 0] rfl)

def wpX4_weight_J46 (p0_men : Int32) (p0_cells : Nat → Int32) (x1 : Int32) (x2 : Int32) (kL5 : Int64 → Int32 → Prop) (post : Int64 → Prop) (x3_46 : Int64) (x5_46 : Int32) : Prop := ∀ y_1 : Int32, y_1 = (x5_46 + (1 : Int32)) → kL5 x3_46 y_1
def wpX4_weight_J44 (p0_men : Int32) (p0_cells : Nat → Int32) (x1 : Int32) (x2 : Int32) (kL5 : Int64 → Int32 → Prop) (post : Int64 → Prop) (x5_44 : Int32) (k0_44 : Int64) (k1_44 : Int64) : Prop := ∀ y_2 : Int64, y_2 = (k1_44 * k0_44) → wpX4_weight_J46 p0_men p0_cells x1 x2 kL5 post y_2 x5_44
def wpX4_weight_L5 (p0_men : Int32) (p0_cells : Nat → Int32) (x1 : Int32) (x2 : Int32) (post : Int64 → Prop) : Nat → Int64 → Int32 → Prop
  | 0, _, _ => False
  | n + 1, x3_5, x5_5 => ((p0_men ≤ x5_5 → post x3_5) ∧ (¬ p0_men ≤ x5_5 → wpX0_hasFallen p0_cells x5_5 (fun r_4 => ((¬ r_4 = 0 → wpX4_weight_J46 p0_men p0_cells x1 x2 (wpX4_weight_L5 p0_men p0_cells x1 x2 post n) post x3_5 x5_5) ∧ (r_4 = 0 → ((¬ ((x1 >>> (x5_5 &&& 31)) &&& (1 : Int32)) = (1 : Int32) → wpX4_weight_J44 p0_men p0_cells x1 x2 (wpX4_weight_L5 p0_men p0_cells x1 x2 post n) post x5_5 ((10 : Int32) - x2).toInt64 x3_5) ∧ (((x1 >>> (x5_5 &&& 31)) &&& (1 : Int32)) = (1 : Int32) → wpX4_weight_J44 p0_men p0_cells x1 x2 (wpX4_weight_L5 p0_men p0_cells x1 x2 post n) post x5_5 x2.toInt64 x3_5)))))))
def wpX4_weight_E5 (p0_men : Int32) (p0_cells : Nat → Int32) (x1 : Int32) (x2 : Int32) (post : Int64 → Prop) (x3_5 : Int64) (x5_5 : Int32) : Prop := ∃ n : Nat, wpX4_weight_L5 p0_men p0_cells x1 x2 post n x3_5 x5_5
def wpX4_weight (p0_men : Int32) (p0_cells : Nat → Int32) (x1 : Int32) (x2 : Int32) (post : Int64 → Prop) : Prop := wpX4_weight_E5 p0_men p0_cells x1 x2 post (1 : Int64) (0 : Int32)
abbrev rmX4_weight : Room := { frames := 3, cells := 0, slots := 0, locals := 62 }
set_option maxHeartbeats 4000000 in
set_option maxRecDepth 100000 in
theorem mtX4_weight (l : Launch) (dC : Nat → ClassId) (dI : Nat → Nat → Nat) (cI cZ : ClassId) (a_p0 : Nat) (a_p0_bagKinds : Nat) (a_p0_manKinds : Nat) (a_p0_cells : Nat) (sz : Nat) (d_p0_bags : Int32) (p0_men : Int32) (p0_cells : Nat → Int32) (x1 : Int32) (x2 : Int32) (post : Int64 → Prop) (hw : wpX4_weight p0_men p0_cells x1 x2 post) : Met l yX4_weight wsX4_weight rmX4_weight (va_Pc [.ref a_p0, .int x1, .int x2] (kvPre (dC, dI) cI cZ sz [(a_p0, .inr (0, [.int d_p0_bags, .int p0_men, .ref a_p0_bagKinds, .ref a_p0_manKinds, .ref a_p0_cells])), (a_p0_cells, .inl (cI, 23, .inl p0_cells))])) (va_Ql (fun (r : Int64) (u : Unit) => post r ) (kvB (dC, dI) (va_A [(a_p0, .inr (0, [.int d_p0_bags, .int p0_men, .ref a_p0_bagKinds, .ref a_p0_manKinds, .ref a_p0_cells])), (a_p0_cells, .inl (cI, 23, .inl p0_cells))] sz) (fun (u : Unit) => [(a_p0, .inr (0, [.int d_p0_bags, .int p0_men, .ref a_p0_bagKinds, .ref a_p0_manKinds, .ref a_p0_cells])), (a_p0_cells, .inl (cI, 23, .inl p0_cells))])) (va_A [(a_p0, .inr (0, [.int d_p0_bags, .int p0_men, .ref a_p0_bagKinds, .ref a_p0_manKinds, .ref a_p0_cells])), (a_p0_cells, .inl (cI, 23, .inl p0_cells))] sz)) 0 0 (va_A [(a_p0, .inr (0, [.int d_p0_bags, .int p0_men, .ref a_p0_bagKinds, .ref a_p0_manKinds, .ref a_p0_cells])), (a_p0_cells, .inl (cI, 23, .inl p0_cells))] sz) := by
  refine kv_metL (y := yX4_weight) (ws := wsX4_weight) (rm := rmX4_weight) (av := [.ref a_p0, .int x1, .int x2]) (sz := sz) (w := [(a_p0, .inr (0, [.int d_p0_bags, .int p0_men, .ref a_p0_bagKinds, .ref a_p0_manKinds, .ref a_p0_cells])), (a_p0_cells, .inl (cI, 23, .inl p0_cells))]) (cc := cX4_weight) (maxL := 6) (own := RX4) (post := (fun (r : Int64) (u : Unit) => post r )) (w1 := (fun (u : Unit) => [(a_p0, .inr (0, [.int d_p0_bags, .int p0_men, .ref a_p0_bagKinds, .ref a_p0_manKinds, .ref a_p0_cells])), (a_p0_cells, .inl (cI, 23, .inl p0_cells))])) (by decide) rfl rfl (Nat.le_of_ble_eq_true rfl) ?_
  intro p e s m below meth c A Q hx hb hml hown hts hK hX hA hP hD hsz hret ls hl
  have hS : va_S A s.heap s.heap [] := va_S.rf
  have hl : lv_has ls 6 [(0, .ref a_p0), (1, .int x1), (2, .int x2)] := hl
  have inX0 : ∀ w ∈ u_ws RX0 TX0 5, w ∈ wsX4_weight := by decide +kernel
  have L5 : ∀  (n5 : Nat) (x3_5 : Int64) (x5_5 : Int32) (H : Heap) (locs : List Loc) (ls : Array Slot), wpX4_weight_L5 p0_men p0_cells x1 x2 post n5 x3_5 x5_5 → va_P (dC, dI) vwCl [(a_p0, .inr (0, [.int d_p0_bags, .int p0_men, .ref a_p0_bagKinds, .ref a_p0_manKinds, .ref a_p0_cells])), (a_p0_cells, .inl (cI, 23, .inl p0_cells))] H → va_D A [(a_p0, .inr (0, [.int d_p0_bags, .int p0_men, .ref a_p0_bagKinds, .ref a_p0_manKinds, .ref a_p0_cells])), (a_p0_cells, .inl (cI, 23, .inl p0_cells))] → va_S A s.heap H locs → lv_has ls 6 [(0, .ref a_p0), (1, .int x1), (2, .int x2), (3, .long x3_5), (5, .int x5_5)] → W p l e rmX4_weight s m [.ref a_p0, .int x1, .int x2].toArray below meth c H locs 0 0 Q (F0 m 5 ls []) := by
    intro  n5
    induction n5 with
    | zero => intro x3_5 x5_5 H locs ls hw hP hD hS hl; exact hw.elim
    | succ n5 ih5 =>
      have B46 : ∀ (x3_46 : Int64) (x5_46 : Int32) (H : Heap) (locs : List Loc) (ls : Array Slot), wpX4_weight_J46 p0_men p0_cells x1 x2 (wpX4_weight_L5 p0_men p0_cells x1 x2 post n5) post x3_46 x5_46 → va_P (dC, dI) vwCl [(a_p0, .inr (0, [.int d_p0_bags, .int p0_men, .ref a_p0_bagKinds, .ref a_p0_manKinds, .ref a_p0_cells])), (a_p0_cells, .inl (cI, 23, .inl p0_cells))] H → va_D A [(a_p0, .inr (0, [.int d_p0_bags, .int p0_men, .ref a_p0_bagKinds, .ref a_p0_manKinds, .ref a_p0_cells])), (a_p0_cells, .inl (cI, 23, .inl p0_cells))] → va_S A s.heap H locs → lv_has ls 6 [(0, .ref a_p0), (1, .int x1), (2, .int x2), (3, .long x3_46), (5, .int x5_46)] → W p l e rmX4_weight s m [.ref a_p0, .int x1, .int x2].toArray below meth c H locs 0 0 Q (F0 m 46 ls []) := by
        intro x3_46 x5_46 H locs ls hw hP hD hS hl
        obtain ⟨y_1, ey_1⟩ : ∃ y : Int32, y = (x5_46 + (1 : Int32)) := ⟨_, rfl⟩
        have hw := hw y_1 ey_1
        refine lv_iinc (v := y_1) (lv' := [(5, .int y_1), (0, .ref a_p0), (1, .int x1), (2, .int x2), (3, .long x3_46)]) hx hb dX4_weight_46 hl (k := 4) rfl (by rw [ey_1]; rfl) (by decide) rfl (fun ls hl => ?_)
        refine lv_goto (tgt := 5) hx hb dX4_weight_49 (by decide) ?_
        exact ih5 x3_46 y_1 H _ ls hw hP hD hS (lv_sub hl [1, 2, 3, 4, 0] rfl)
      have B44 : ∀ (x5_44 : Int32) (k0_44 : Int64) (k1_44 : Int64) (H : Heap) (locs : List Loc) (ls : Array Slot), wpX4_weight_J44 p0_men p0_cells x1 x2 (wpX4_weight_L5 p0_men p0_cells x1 x2 post n5) post x5_44 k0_44 k1_44 → va_P (dC, dI) vwCl [(a_p0, .inr (0, [.int d_p0_bags, .int p0_men, .ref a_p0_bagKinds, .ref a_p0_manKinds, .ref a_p0_cells])), (a_p0_cells, .inl (cI, 23, .inl p0_cells))] H → va_D A [(a_p0, .inr (0, [.int d_p0_bags, .int p0_men, .ref a_p0_bagKinds, .ref a_p0_manKinds, .ref a_p0_cells])), (a_p0_cells, .inl (cI, 23, .inl p0_cells))] → va_S A s.heap H locs → lv_has ls 6 [(0, .ref a_p0), (1, .int x1), (2, .int x2), (5, .int x5_44)] → W p l e rmX4_weight s m [.ref a_p0, .int x1, .int x2].toArray below meth c H locs 0 0 Q (F0 m 44 ls [.long k0_44, .long k1_44]) := by
        intro x5_44 k0_44 k1_44 H locs ls hw hP hD hS hl
        refine lv_lmul hx hb dX4_weight_44 ?_
        refine lv_topl (fun y_2 ey_2 => ?_)
        have hw := hw y_2 ey_2
        refine lv_lstore_n (lv' := [(3, .long y_2), (0, .ref a_p0), (1, .int x1), (2, .int x2), (5, .int x5_44)]) hx hb dX4_weight_45 rfl hl (by decide) rfl (fun ls hl => ?_)
        exact B46 y_2 x5_44 H _ ls hw hP hD hS (lv_sub hl [1, 2, 3, 0, 4] rfl)
      intro x3_5 x5_5 H locs ls hw hP hD hS hl
      refine lv_iload hx hb dX4_weight_5 (lv_at hl 4 rfl) ?_
      refine lv_aload_n hx hb dX4_weight_7 rfl (lv_at hl 0 rfl) ?_
      refine va_getN (D := (dC, dI)) (ci := 0) (v := .int p0_men) (C := RX0) (T := TX0) (N := 5) hx hb hts inX0 hown hK hP 0 rfl rfl 1 (by decide) (va_Nw.use rfl hX.1.2.2.2.2.1) (fun _ h9 => h9) rfl dX4_weight_8 ?_
      refine lv_icmp_ge (tgt := 52) hx hb dX4_weight_11 (by decide) (fun c_3 => ?_) (fun c_3 => ?_)
      · have hw := hw.1 c_3
        refine lv_lload_n hx hb dX4_weight_52 rfl (lv_at hl 3 rfl) ?_
        exact hret x3_5 () H _ _ ls hw hP hD hS dX4_weight_53
      · have hw := hw.2 c_3
        refine lv_aload_n hx hb dX4_weight_14 rfl (lv_at hl 0 rfl) ?_
        refine lv_iload hx hb dX4_weight_15 (lv_at hl 4 rfl) ?_
        refine kv_callVi (wr := []) (wn := (fun (u : Unit) => [(a_p0, .inr (0, [.int d_p0_bags, .int p0_men, .ref a_p0_bagKinds, .ref a_p0_manKinds, .ref a_p0_cells])), (a_p0_cells, .inl (cI, 23, .inl p0_cells))])) (As := [.int x5_5]) (rest := []) ⟨hx, hb, hml, hown, hts⟩ hK hX hA hP hD hS (mtX0_hasFallen l dC dI cI cZ a_p0 a_p0_bagKinds a_p0_manKinds a_p0_cells H.size d_p0_bags p0_men p0_cells x5_5 _ hw) (cwV 1 hts gX4_weight_X0_hasFallen rfl rfl rfl (by decide +kernel) ⟨Nat.le_of_ble_eq_true rfl, Nat.le_of_ble_eq_true rfl⟩) 0 0 rfl rfl rfl [0, 1] [] [0, 1] rfl rfl rfl rfl (by decide) (fun _ => rfl) rfl rfl hl.1 rfl (Nat.le_of_ble_eq_true rfl) ⟨Nat.zero_le _, Nat.zero_le _⟩ dX4_weight_17 (fun r_4 u H locs hw hP hD hS => ?_)
        obtain ⟨hb_r_4, hw⟩ := hw
        refine lv_if_ne (tgt := 46) hx hb dX4_weight_20 (by decide) (fun c_5 => ?_) (fun c_5 => ?_)
        · have hw := hw.1 c_5
          exact B46 x3_5 x5_5 H _ ls hw hP hD hS (lv_sub hl [0, 1, 2, 3, 4] rfl)
        · have hw := hw.2 c_5
          refine lv_lload_n hx hb dX4_weight_23 rfl (lv_at hl 3 rfl) ?_
          refine lv_iload_n hx hb dX4_weight_24 rfl (lv_at hl 1 rfl) ?_
          refine lv_iload hx hb dX4_weight_25 (lv_at hl 4 rfl) ?_
          refine lv_ishr hx hb dX4_weight_27 ?_
          refine lv_iconst (v := (1 : Int32)) hx hb dX4_weight_28 (by decide) ?_
          refine lv_iand hx hb dX4_weight_29 ?_
          refine lv_iconst (v := (1 : Int32)) hx hb dX4_weight_30 (by decide) ?_
          refine lv_icmp_ne (tgt := 39) hx hb dX4_weight_31 (by decide) (fun c_6 => ?_) (fun c_6 => ?_)
          · have hw := hw.1 c_6
            refine lv_bipush (v := (10 : Int32)) hx hb dX4_weight_39 (by decide) ?_
            refine lv_iload_n hx hb dX4_weight_41 rfl (lv_at hl 2 rfl) ?_
            refine lv_isub hx hb dX4_weight_42 ?_
            refine lv_i2l hx hb dX4_weight_43 rfl ?_
            exact B44 x5_5 ((10 : Int32) - x2).toInt64 x3_5 H _ ls hw hP hD hS (lv_sub hl [0, 1, 2, 4] rfl)
          · have hw := hw.2 c_6
            refine lv_iload_n hx hb dX4_weight_34 rfl (lv_at hl 2 rfl) ?_
            refine lv_i2l hx hb dX4_weight_35 rfl ?_
            refine lv_goto (tgt := 44) hx hb dX4_weight_36 (by decide) ?_
            exact B44 x5_5 x2.toInt64 x3_5 H _ ls hw hP hD hS (lv_sub hl [0, 1, 2, 4] rfl)
  have E5 : ∀ (x3_5 : Int64) (x5_5 : Int32) (H : Heap) (locs : List Loc) (ls : Array Slot), wpX4_weight_E5 p0_men p0_cells x1 x2 post x3_5 x5_5 → va_P (dC, dI) vwCl [(a_p0, .inr (0, [.int d_p0_bags, .int p0_men, .ref a_p0_bagKinds, .ref a_p0_manKinds, .ref a_p0_cells])), (a_p0_cells, .inl (cI, 23, .inl p0_cells))] H → va_D A [(a_p0, .inr (0, [.int d_p0_bags, .int p0_men, .ref a_p0_bagKinds, .ref a_p0_manKinds, .ref a_p0_cells])), (a_p0_cells, .inl (cI, 23, .inl p0_cells))] → va_S A s.heap H locs → lv_has ls 6 [(0, .ref a_p0), (1, .int x1), (2, .int x2), (3, .long x3_5), (5, .int x5_5)] → W p l e rmX4_weight s m [.ref a_p0, .int x1, .int x2].toArray below meth c H locs 0 0 Q (F0 m 5 ls []) := by
    intro x3_5 x5_5 H locs ls hw hP hD hS hl
    obtain ⟨n, hw⟩ := hw
    exact L5  n x3_5 x5_5 H locs ls hw hP hD hS hl
  refine lv_lconst (v := (1 : Int64)) hx hb dX4_weight_0 (by decide) ?_
  refine lv_lstore_n (lv' := [(3, .long (1 : Int64)), (0, .ref a_p0), (1, .int x1), (2, .int x2)]) hx hb dX4_weight_1 rfl hl (by decide) rfl (fun ls hl => ?_)
  refine lv_iconst (v := (0 : Int32)) hx hb dX4_weight_2 (by decide) ?_
  refine lv_istore (lv' := [(5, .int (0 : Int32)), (3, .long (1 : Int64)), (0, .ref a_p0), (1, .int x1), (2, .int x2)]) hx hb dX4_weight_3 hl (by decide) rfl (fun ls hl => ?_)
  exact E5 (1 : Int64) (0 : Int32) s.heap _ ls hw hP hD hS (lv_sub hl [2, 3, 4, 1, 0] rfl)

def wpX4_chanceOfLeft_J103 (p0_bags : Int32) (p0_men : Int32) (p0_cells : Nat → Int32) (x1 : Int32) (x2 : Int32) (x3 : Int32) (post : Int32 → Prop) (x5_103 : Int64) (x7_103 : Int64) : Prop := wpX4_told x5_103 x7_103 x3 (fun r_1 => post r_1)
def wpX4_chanceOfLeft_J97 (p0_bags : Int32) (p0_men : Int32) (p0_cells : Nat → Int32) (x1 : Int32) (x2 : Int32) (x3 : Int32) (x4_54 : Int32) (x7_54 : Int64) (kL54 : Int64 → Int32 → Prop) (post : Int32 → Prop) (x5_97 : Int64) (x9_97 : Int32) : Prop := ∀ y_2 : Int32, y_2 = (x9_97 + (1 : Int32)) → kL54 x5_97 y_2
def wpX4_chanceOfLeft_L54 (p0_bags : Int32) (p0_men : Int32) (p0_cells : Nat → Int32) (x1 : Int32) (x2 : Int32) (x3 : Int32) (x4_54 : Int32) (x7_54 : Int64) (kJ103 : Int64 → Int64 → Prop) (post : Int32 → Prop) : Nat → Int64 → Int32 → Prop
  | 0, _, _ => False
  | n + 1, x5_54, x9_54 => ((((1 : Int32) <<< (p0_men &&& 31)) ≤ x9_54 → kJ103 x5_54 x7_54) ∧ (¬ ((1 : Int32) <<< (p0_men &&& 31)) ≤ x9_54 → ((¬ (x9_54 &&& x4_54) = x4_54 → wpX4_chanceOfLeft_J97 p0_bags p0_men p0_cells x1 x2 x3 x4_54 x7_54 (wpX4_chanceOfLeft_L54 p0_bags p0_men p0_cells x1 x2 x3 x4_54 x7_54 kJ103 post n) post x5_54 x9_54) ∧ ((x9_54 &&& x4_54) = x4_54 → wpX0_breathsOfThese p0_bags p0_cells x9_54 (fun r_5 => ((r_5 < x1 → wpX4_chanceOfLeft_J97 p0_bags p0_men p0_cells x1 x2 x3 x4_54 x7_54 (wpX4_chanceOfLeft_L54 p0_bags p0_men p0_cells x1 x2 x3 x4_54 x7_54 kJ103 post n) post x5_54 x9_54) ∧ (¬ r_5 < x1 → wpX4_weight p0_men p0_cells x9_54 x2 (fun r_7 => ∀ y_8 : Int64, y_8 = (x5_54 + r_7) → wpX4_chanceOfLeft_J97 p0_bags p0_men p0_cells x1 x2 x3 x4_54 x7_54 (wpX4_chanceOfLeft_L54 p0_bags p0_men p0_cells x1 x2 x3 x4_54 x7_54 kJ103 post n) post y_8 x9_54))))))))
def wpX4_chanceOfLeft_E54 (p0_bags : Int32) (p0_men : Int32) (p0_cells : Nat → Int32) (x1 : Int32) (x2 : Int32) (x3 : Int32) (post : Int32 → Prop) (x4_54 : Int32) (x5_54 : Int64) (x7_54 : Int64) (x9_54 : Int32) : Prop := ∃ n : Nat, wpX4_chanceOfLeft_L54 p0_bags p0_men p0_cells x1 x2 x3 x4_54 x7_54 (wpX4_chanceOfLeft_J103 p0_bags p0_men p0_cells x1 x2 x3 post) post n x5_54 x9_54
def wpX4_chanceOfLeft_J51 (p0_bags : Int32) (p0_men : Int32) (p0_cells : Nat → Int32) (x1 : Int32) (x2 : Int32) (x3 : Int32) (post : Int32 → Prop) (x4_51 : Int32) (x5_51 : Int64) (x7_51 : Int64) : Prop := wpX4_chanceOfLeft_E54 p0_bags p0_men p0_cells x1 x2 x3 post x4_51 x5_51 x7_51 (0 : Int32)
def wpX4_chanceOfLeft_J42 (p0_bags : Int32) (p0_men : Int32) (p0_cells : Nat → Int32) (x1 : Int32) (x2 : Int32) (x3 : Int32) (x4_15 : Int32) (x5_15 : Int64) (kL15 : Int64 → Int32 → Prop) (post : Int32 → Prop) (x9_42 : Int32) (k0_42 : Int64) (k1_42 : Int64) : Prop := ∀ y_9 : Int64, y_9 = (k1_42 * k0_42) → ∀ y_10 : Int32, y_10 = (x9_42 + (1 : Int32)) → kL15 y_9 y_10
def wpX4_chanceOfLeft_L15 (p0_bags : Int32) (p0_men : Int32) (p0_cells : Nat → Int32) (x1 : Int32) (x2 : Int32) (x3 : Int32) (x4_15 : Int32) (x5_15 : Int64) (kJ51 : Int32 → Int64 → Int64 → Prop) (post : Int32 → Prop) : Nat → Int64 → Int32 → Prop
  | 0, _, _ => False
  | n + 1, x7_15, x9_15 => ((p0_men ≤ x9_15 → kJ51 x4_15 x5_15 x7_15) ∧ (¬ p0_men ≤ x9_15 → wpX0_hasFallen p0_cells x9_15 (fun r_12 => ((r_12 = 0 → wpX4_chanceOfLeft_J42 p0_bags p0_men p0_cells x1 x2 x3 x4_15 x5_15 (wpX4_chanceOfLeft_L15 p0_bags p0_men p0_cells x1 x2 x3 x4_15 x5_15 kJ51 post n) post x9_15 (10 : Int64) x7_15) ∧ (¬ r_12 = 0 → wpX4_chanceOfLeft_J42 p0_bags p0_men p0_cells x1 x2 x3 x4_15 x5_15 (wpX4_chanceOfLeft_L15 p0_bags p0_men p0_cells x1 x2 x3 x4_15 x5_15 kJ51 post n) post x9_15 (1 : Int64) x7_15)))))
def wpX4_chanceOfLeft_E15 (p0_bags : Int32) (p0_men : Int32) (p0_cells : Nat → Int32) (x1 : Int32) (x2 : Int32) (x3 : Int32) (post : Int32 → Prop) (x4_15 : Int32) (x5_15 : Int64) (x7_15 : Int64) (x9_15 : Int32) : Prop := ∃ n : Nat, wpX4_chanceOfLeft_L15 p0_bags p0_men p0_cells x1 x2 x3 x4_15 x5_15 (wpX4_chanceOfLeft_J51 p0_bags p0_men p0_cells x1 x2 x3 post) post n x7_15 x9_15
def wpX4_chanceOfLeft (p0_bags : Int32) (p0_men : Int32) (p0_cells : Nat → Int32) (x1 : Int32) (x2 : Int32) (x3 : Int32) (post : Int32 → Prop) : Prop := wpX0_fallenBits p0_cells (fun r_14 => wpX4_chanceOfLeft_E15 p0_bags p0_men p0_cells x1 x2 x3 post r_14 (0 : Int64) (1 : Int64) (0 : Int32))
abbrev rmX4_chanceOfLeft : Room := { frames := 4, cells := 0, slots := 0, locals := 87 }
set_option maxHeartbeats 4000000 in
set_option maxRecDepth 100000 in
theorem mtX4_chanceOfLeft (l : Launch) (dC : Nat → ClassId) (dI : Nat → Nat → Nat) (cI cZ : ClassId) (a_p0 : Nat) (a_p0_bagKinds : Nat) (a_p0_manKinds : Nat) (a_p0_cells : Nat) (sz : Nat) (p0_bags : Int32) (p0_men : Int32) (p0_cells : Nat → Int32) (x1 : Int32) (x2 : Int32) (x3 : Int32) (post : Int32 → Prop) (hw : wpX4_chanceOfLeft p0_bags p0_men p0_cells x1 x2 x3 post) : Met l yX4_chanceOfLeft wsX4_chanceOfLeft rmX4_chanceOfLeft (va_Pc [.ref a_p0, .int x1, .int x2, .int x3] (kvPre (dC, dI) cI cZ sz [(a_p0, .inr (0, [.int p0_bags, .int p0_men, .ref a_p0_bagKinds, .ref a_p0_manKinds, .ref a_p0_cells])), (a_p0_cells, .inl (cI, 23, .inl p0_cells))])) (va_Qi (fun (r : Int32) (u : Unit) => post r ) (kvB (dC, dI) (va_A [(a_p0, .inr (0, [.int p0_bags, .int p0_men, .ref a_p0_bagKinds, .ref a_p0_manKinds, .ref a_p0_cells])), (a_p0_cells, .inl (cI, 23, .inl p0_cells))] sz) (fun (u : Unit) => [(a_p0, .inr (0, [.int p0_bags, .int p0_men, .ref a_p0_bagKinds, .ref a_p0_manKinds, .ref a_p0_cells])), (a_p0_cells, .inl (cI, 23, .inl p0_cells))])) (va_A [(a_p0, .inr (0, [.int p0_bags, .int p0_men, .ref a_p0_bagKinds, .ref a_p0_manKinds, .ref a_p0_cells])), (a_p0_cells, .inl (cI, 23, .inl p0_cells))] sz)) 0 0 (va_A [(a_p0, .inr (0, [.int p0_bags, .int p0_men, .ref a_p0_bagKinds, .ref a_p0_manKinds, .ref a_p0_cells])), (a_p0_cells, .inl (cI, 23, .inl p0_cells))] sz) := by
  refine kv_metI (y := yX4_chanceOfLeft) (ws := wsX4_chanceOfLeft) (rm := rmX4_chanceOfLeft) (av := [.ref a_p0, .int x1, .int x2, .int x3]) (sz := sz) (w := [(a_p0, .inr (0, [.int p0_bags, .int p0_men, .ref a_p0_bagKinds, .ref a_p0_manKinds, .ref a_p0_cells])), (a_p0_cells, .inl (cI, 23, .inl p0_cells))]) (cc := cX4_chanceOfLeft) (maxL := 10) (own := RX4) (post := (fun (r : Int32) (u : Unit) => post r )) (w1 := (fun (u : Unit) => [(a_p0, .inr (0, [.int p0_bags, .int p0_men, .ref a_p0_bagKinds, .ref a_p0_manKinds, .ref a_p0_cells])), (a_p0_cells, .inl (cI, 23, .inl p0_cells))])) (by decide) rfl rfl (Nat.le_of_ble_eq_true rfl) ?_
  intro p e s m below meth c A Q hx hb hml hown hts hK hX hA hP hD hsz hret ls hl
  have hS : va_S A s.heap s.heap [] := va_S.rf
  have hl : lv_has ls 10 [(0, .ref a_p0), (1, .int x1), (2, .int x2), (3, .int x3)] := hl
  have inX0 : ∀ w ∈ u_ws RX0 TX0 5, w ∈ wsX4_chanceOfLeft := by decide +kernel
  have B103 : ∀ (x5_103 : Int64) (x7_103 : Int64) (H : Heap) (locs : List Loc) (ls : Array Slot), wpX4_chanceOfLeft_J103 p0_bags p0_men p0_cells x1 x2 x3 post x5_103 x7_103 → va_P (dC, dI) vwCl [(a_p0, .inr (0, [.int p0_bags, .int p0_men, .ref a_p0_bagKinds, .ref a_p0_manKinds, .ref a_p0_cells])), (a_p0_cells, .inl (cI, 23, .inl p0_cells))] H → va_D A [(a_p0, .inr (0, [.int p0_bags, .int p0_men, .ref a_p0_bagKinds, .ref a_p0_manKinds, .ref a_p0_cells])), (a_p0_cells, .inl (cI, 23, .inl p0_cells))] → va_S A s.heap H locs → lv_has ls 10 [(3, .int x3), (5, .long x5_103), (7, .long x7_103)] → W p l e rmX4_chanceOfLeft s m [.ref a_p0, .int x1, .int x2, .int x3].toArray below meth c H locs 0 0 Q (F0 m 103 ls []) := by
    intro x5_103 x7_103 H locs ls hw hP hD hS hl
    refine lv_lload hx hb dX4_chanceOfLeft_103 (lv_at hl 1 rfl) ?_
    refine lv_lload hx hb dX4_chanceOfLeft_105 (lv_at hl 2 rfl) ?_
    refine lv_iload_n hx hb dX4_chanceOfLeft_107 rfl (lv_at hl 0 rfl) ?_
    refine kv_callSi (wr := [(a_p0, .inr (0, [.int p0_bags, .int p0_men, .ref a_p0_bagKinds, .ref a_p0_manKinds, .ref a_p0_cells])), (a_p0_cells, .inl (cI, 23, .inl p0_cells))]) (wn := (fun (u : Unit) => [(a_p0, .inr (0, [.int p0_bags, .int p0_men, .ref a_p0_bagKinds, .ref a_p0_manKinds, .ref a_p0_cells])), (a_p0_cells, .inl (cI, 23, .inl p0_cells))])) (As := [.long x5_103, .long x7_103, .int x3]) (rest := []) ⟨hx, hb, hml, hown, hts⟩ hK hX hA hP hD hS (mtX4_told l dC dI cI cZ H.size x5_103 x7_103 x3 _ hw) (va_cwS 3 hts gX4_chanceOfLeft_X4_told rfl rfl rfl (by decide +kernel) ⟨Nat.le_of_ble_eq_true rfl, Nat.le_of_ble_eq_true rfl⟩) [] [0, 1] [0, 1] rfl rfl rfl rfl (by decide) (fun _ => rfl) rfl rfl hl.1 rfl (Nat.le_of_ble_eq_true rfl) ⟨Nat.zero_le _, Nat.zero_le _⟩ dX4_chanceOfLeft_108 (fun r_1 u H locs hw hP hD hS => ?_)
    exact hret r_1 () H _ _ ls hw hP hD hS dX4_chanceOfLeft_111
  have L54 : ∀ (x4_54 : Int32) (x7_54 : Int64) (n54 : Nat) (x5_54 : Int64) (x9_54 : Int32) (H : Heap) (locs : List Loc) (ls : Array Slot), wpX4_chanceOfLeft_L54 p0_bags p0_men p0_cells x1 x2 x3 x4_54 x7_54 (wpX4_chanceOfLeft_J103 p0_bags p0_men p0_cells x1 x2 x3 post) post n54 x5_54 x9_54 → va_P (dC, dI) vwCl [(a_p0, .inr (0, [.int p0_bags, .int p0_men, .ref a_p0_bagKinds, .ref a_p0_manKinds, .ref a_p0_cells])), (a_p0_cells, .inl (cI, 23, .inl p0_cells))] H → va_D A [(a_p0, .inr (0, [.int p0_bags, .int p0_men, .ref a_p0_bagKinds, .ref a_p0_manKinds, .ref a_p0_cells])), (a_p0_cells, .inl (cI, 23, .inl p0_cells))] → va_S A s.heap H locs → lv_has ls 10 [(0, .ref a_p0), (1, .int x1), (2, .int x2), (3, .int x3), (4, .int x4_54), (5, .long x5_54), (7, .long x7_54), (9, .int x9_54)] → W p l e rmX4_chanceOfLeft s m [.ref a_p0, .int x1, .int x2, .int x3].toArray below meth c H locs 0 0 Q (F0 m 54 ls []) := by
    intro x4_54 x7_54 n54
    induction n54 with
    | zero => intro x5_54 x9_54 H locs ls hw hP hD hS hl; exact hw.elim
    | succ n54 ih54 =>
      have B97 : ∀ (x5_97 : Int64) (x9_97 : Int32) (H : Heap) (locs : List Loc) (ls : Array Slot), wpX4_chanceOfLeft_J97 p0_bags p0_men p0_cells x1 x2 x3 x4_54 x7_54 (wpX4_chanceOfLeft_L54 p0_bags p0_men p0_cells x1 x2 x3 x4_54 x7_54 (wpX4_chanceOfLeft_J103 p0_bags p0_men p0_cells x1 x2 x3 post) post n54) post x5_97 x9_97 → va_P (dC, dI) vwCl [(a_p0, .inr (0, [.int p0_bags, .int p0_men, .ref a_p0_bagKinds, .ref a_p0_manKinds, .ref a_p0_cells])), (a_p0_cells, .inl (cI, 23, .inl p0_cells))] H → va_D A [(a_p0, .inr (0, [.int p0_bags, .int p0_men, .ref a_p0_bagKinds, .ref a_p0_manKinds, .ref a_p0_cells])), (a_p0_cells, .inl (cI, 23, .inl p0_cells))] → va_S A s.heap H locs → lv_has ls 10 [(0, .ref a_p0), (1, .int x1), (2, .int x2), (3, .int x3), (4, .int x4_54), (5, .long x5_97), (7, .long x7_54), (9, .int x9_97)] → W p l e rmX4_chanceOfLeft s m [.ref a_p0, .int x1, .int x2, .int x3].toArray below meth c H locs 0 0 Q (F0 m 97 ls []) := by
        intro x5_97 x9_97 H locs ls hw hP hD hS hl
        obtain ⟨y_2, ey_2⟩ : ∃ y : Int32, y = (x9_97 + (1 : Int32)) := ⟨_, rfl⟩
        have hw := hw y_2 ey_2
        refine lv_iinc (v := y_2) (lv' := [(9, .int y_2), (0, .ref a_p0), (1, .int x1), (2, .int x2), (3, .int x3), (4, .int x4_54), (5, .long x5_97), (7, .long x7_54)]) hx hb dX4_chanceOfLeft_97 hl (k := 7) rfl (by rw [ey_2]; rfl) (by decide) rfl (fun ls hl => ?_)
        refine lv_goto (tgt := 54) hx hb dX4_chanceOfLeft_100 (by decide) ?_
        exact ih54 x5_97 y_2 H _ ls hw hP hD hS (lv_sub hl [1, 2, 3, 4, 5, 6, 7, 0] rfl)
      intro x5_54 x9_54 H locs ls hw hP hD hS hl
      refine lv_iload hx hb dX4_chanceOfLeft_54 (lv_at hl 7 rfl) ?_
      refine lv_iconst (v := (1 : Int32)) hx hb dX4_chanceOfLeft_56 (by decide) ?_
      refine lv_aload_n hx hb dX4_chanceOfLeft_57 rfl (lv_at hl 0 rfl) ?_
      refine va_getN (D := (dC, dI)) (ci := 0) (v := .int p0_men) (C := RX0) (T := TX0) (N := 5) hx hb hts inX0 hown hK hP 0 rfl rfl 1 (by decide) (va_Nw.use rfl hX.1.2.2.2.2.1) (fun _ h9 => h9) rfl dX4_chanceOfLeft_58 ?_
      refine lv_ishl hx hb dX4_chanceOfLeft_61 ?_
      refine lv_icmp_ge (tgt := 103) hx hb dX4_chanceOfLeft_62 (by decide) (fun c_3 => ?_) (fun c_3 => ?_)
      · have hw := hw.1 c_3
        exact B103 x5_54 x7_54 H _ ls hw hP hD hS (lv_sub hl [3, 5, 6] rfl)
      · have hw := hw.2 c_3
        refine lv_iload hx hb dX4_chanceOfLeft_65 (lv_at hl 7 rfl) ?_
        refine lv_iload hx hb dX4_chanceOfLeft_67 (lv_at hl 4 rfl) ?_
        refine lv_iand hx hb dX4_chanceOfLeft_69 ?_
        refine lv_iload hx hb dX4_chanceOfLeft_70 (lv_at hl 4 rfl) ?_
        refine lv_icmp_ne (tgt := 97) hx hb dX4_chanceOfLeft_72 (by decide) (fun c_4 => ?_) (fun c_4 => ?_)
        · have hw := hw.1 c_4
          exact B97 x5_54 x9_54 H _ ls hw hP hD hS (lv_sub hl [0, 1, 2, 3, 4, 5, 6, 7] rfl)
        · have hw := hw.2 c_4
          refine lv_aload_n hx hb dX4_chanceOfLeft_75 rfl (lv_at hl 0 rfl) ?_
          refine lv_iload hx hb dX4_chanceOfLeft_76 (lv_at hl 7 rfl) ?_
          refine kv_callVi (wr := []) (wn := (fun (u : Unit) => [(a_p0, .inr (0, [.int p0_bags, .int p0_men, .ref a_p0_bagKinds, .ref a_p0_manKinds, .ref a_p0_cells])), (a_p0_cells, .inl (cI, 23, .inl p0_cells))])) (As := [.int x9_54]) (rest := []) ⟨hx, hb, hml, hown, hts⟩ hK hX hA hP hD hS (mtX0_breathsOfThese l dC dI cI cZ a_p0 a_p0_bagKinds a_p0_manKinds a_p0_cells H.size p0_bags p0_men p0_cells x9_54 _ hw) (cwV 1 hts gX4_chanceOfLeft_X0_breathsOfThese rfl rfl rfl (by decide +kernel) ⟨Nat.le_of_ble_eq_true rfl, Nat.le_of_ble_eq_true rfl⟩) 0 0 rfl rfl rfl [0, 1] [] [0, 1] rfl rfl rfl rfl (by decide) (fun _ => rfl) rfl rfl hl.1 rfl (Nat.le_of_ble_eq_true rfl) ⟨Nat.zero_le _, Nat.zero_le _⟩ dX4_chanceOfLeft_78 (fun r_5 u H locs hw hP hD hS => ?_)
          refine lv_iload_n hx hb dX4_chanceOfLeft_81 rfl (lv_at hl 1 rfl) ?_
          refine lv_icmp_lt (tgt := 97) hx hb dX4_chanceOfLeft_82 (by decide) (fun c_6 => ?_) (fun c_6 => ?_)
          · have hw := hw.1 c_6
            exact B97 x5_54 x9_54 H _ ls hw hP hD hS (lv_sub hl [0, 1, 2, 3, 4, 5, 6, 7] rfl)
          · have hw := hw.2 c_6
            refine lv_lload hx hb dX4_chanceOfLeft_85 (lv_at hl 5 rfl) ?_
            refine lv_aload_n hx hb dX4_chanceOfLeft_87 rfl (lv_at hl 0 rfl) ?_
            refine lv_iload hx hb dX4_chanceOfLeft_88 (lv_at hl 7 rfl) ?_
            refine lv_iload_n hx hb dX4_chanceOfLeft_90 rfl (lv_at hl 2 rfl) ?_
            refine kv_callSl (wr := []) (wn := (fun (u : Unit) => [(a_p0, .inr (0, [.int p0_bags, .int p0_men, .ref a_p0_bagKinds, .ref a_p0_manKinds, .ref a_p0_cells])), (a_p0_cells, .inl (cI, 23, .inl p0_cells))])) (As := [.ref a_p0, .int x9_54, .int x2]) (rest := [.long x5_54]) ⟨hx, hb, hml, hown, hts⟩ hK hX hA hP hD hS (mtX4_weight l dC dI cI cZ a_p0 a_p0_bagKinds a_p0_manKinds a_p0_cells H.size p0_bags p0_men p0_cells x9_54 x2 _ hw) (va_cwS 3 hts gX4_chanceOfLeft_X4_weight rfl rfl rfl (by decide +kernel) ⟨Nat.le_of_ble_eq_true rfl, Nat.le_of_ble_eq_true rfl⟩) [0, 1] [] [0, 1] rfl rfl rfl rfl (by decide) (fun _ => rfl) rfl rfl hl.1 rfl (Nat.le_of_ble_eq_true rfl) ⟨Nat.zero_le _, Nat.zero_le _⟩ dX4_chanceOfLeft_91 (fun r_7 u H locs hw hP hD hS => ?_)
            refine lv_ladd hx hb dX4_chanceOfLeft_94 ?_
            refine lv_topl (fun y_8 ey_8 => ?_)
            have hw := hw y_8 ey_8
            refine lv_lstore (lv' := [(5, .long y_8), (0, .ref a_p0), (1, .int x1), (2, .int x2), (3, .int x3), (4, .int x4_54), (7, .long x7_54), (9, .int x9_54)]) hx hb dX4_chanceOfLeft_95 hl (by decide) rfl (fun ls hl => ?_)
            exact B97 y_8 x9_54 H _ ls hw hP hD hS (lv_sub hl [1, 2, 3, 4, 5, 0, 6, 7] rfl)
  have E54 : ∀ (x4_54 : Int32) (x5_54 : Int64) (x7_54 : Int64) (x9_54 : Int32) (H : Heap) (locs : List Loc) (ls : Array Slot), wpX4_chanceOfLeft_E54 p0_bags p0_men p0_cells x1 x2 x3 post x4_54 x5_54 x7_54 x9_54 → va_P (dC, dI) vwCl [(a_p0, .inr (0, [.int p0_bags, .int p0_men, .ref a_p0_bagKinds, .ref a_p0_manKinds, .ref a_p0_cells])), (a_p0_cells, .inl (cI, 23, .inl p0_cells))] H → va_D A [(a_p0, .inr (0, [.int p0_bags, .int p0_men, .ref a_p0_bagKinds, .ref a_p0_manKinds, .ref a_p0_cells])), (a_p0_cells, .inl (cI, 23, .inl p0_cells))] → va_S A s.heap H locs → lv_has ls 10 [(0, .ref a_p0), (1, .int x1), (2, .int x2), (3, .int x3), (4, .int x4_54), (5, .long x5_54), (7, .long x7_54), (9, .int x9_54)] → W p l e rmX4_chanceOfLeft s m [.ref a_p0, .int x1, .int x2, .int x3].toArray below meth c H locs 0 0 Q (F0 m 54 ls []) := by
    intro x4_54 x5_54 x7_54 x9_54 H locs ls hw hP hD hS hl
    obtain ⟨n, hw⟩ := hw
    exact L54 x4_54 x7_54 n x5_54 x9_54 H locs ls hw hP hD hS hl
  have B51 : ∀ (x4_51 : Int32) (x5_51 : Int64) (x7_51 : Int64) (H : Heap) (locs : List Loc) (ls : Array Slot), wpX4_chanceOfLeft_J51 p0_bags p0_men p0_cells x1 x2 x3 post x4_51 x5_51 x7_51 → va_P (dC, dI) vwCl [(a_p0, .inr (0, [.int p0_bags, .int p0_men, .ref a_p0_bagKinds, .ref a_p0_manKinds, .ref a_p0_cells])), (a_p0_cells, .inl (cI, 23, .inl p0_cells))] H → va_D A [(a_p0, .inr (0, [.int p0_bags, .int p0_men, .ref a_p0_bagKinds, .ref a_p0_manKinds, .ref a_p0_cells])), (a_p0_cells, .inl (cI, 23, .inl p0_cells))] → va_S A s.heap H locs → lv_has ls 10 [(0, .ref a_p0), (1, .int x1), (2, .int x2), (3, .int x3), (4, .int x4_51), (5, .long x5_51), (7, .long x7_51)] → W p l e rmX4_chanceOfLeft s m [.ref a_p0, .int x1, .int x2, .int x3].toArray below meth c H locs 0 0 Q (F0 m 51 ls []) := by
    intro x4_51 x5_51 x7_51 H locs ls hw hP hD hS hl
    refine lv_iconst (v := (0 : Int32)) hx hb dX4_chanceOfLeft_51 (by decide) ?_
    refine lv_istore (lv' := [(9, .int (0 : Int32)), (0, .ref a_p0), (1, .int x1), (2, .int x2), (3, .int x3), (4, .int x4_51), (5, .long x5_51), (7, .long x7_51)]) hx hb dX4_chanceOfLeft_52 hl (by decide) rfl (fun ls hl => ?_)
    exact E54 x4_51 x5_51 x7_51 (0 : Int32) H _ ls hw hP hD hS (lv_sub hl [1, 2, 3, 4, 5, 6, 7, 0] rfl)
  have L15 : ∀ (x4_15 : Int32) (x5_15 : Int64) (n15 : Nat) (x7_15 : Int64) (x9_15 : Int32) (H : Heap) (locs : List Loc) (ls : Array Slot), wpX4_chanceOfLeft_L15 p0_bags p0_men p0_cells x1 x2 x3 x4_15 x5_15 (wpX4_chanceOfLeft_J51 p0_bags p0_men p0_cells x1 x2 x3 post) post n15 x7_15 x9_15 → va_P (dC, dI) vwCl [(a_p0, .inr (0, [.int p0_bags, .int p0_men, .ref a_p0_bagKinds, .ref a_p0_manKinds, .ref a_p0_cells])), (a_p0_cells, .inl (cI, 23, .inl p0_cells))] H → va_D A [(a_p0, .inr (0, [.int p0_bags, .int p0_men, .ref a_p0_bagKinds, .ref a_p0_manKinds, .ref a_p0_cells])), (a_p0_cells, .inl (cI, 23, .inl p0_cells))] → va_S A s.heap H locs → lv_has ls 10 [(0, .ref a_p0), (1, .int x1), (2, .int x2), (3, .int x3), (4, .int x4_15), (5, .long x5_15), (7, .long x7_15), (9, .int x9_15)] → W p l e rmX4_chanceOfLeft s m [.ref a_p0, .int x1, .int x2, .int x3].toArray below meth c H locs 0 0 Q (F0 m 15 ls []) := by
    intro x4_15 x5_15 n15
    induction n15 with
    | zero => intro x7_15 x9_15 H locs ls hw hP hD hS hl; exact hw.elim
    | succ n15 ih15 =>
      have B42 : ∀ (x9_42 : Int32) (k0_42 : Int64) (k1_42 : Int64) (H : Heap) (locs : List Loc) (ls : Array Slot), wpX4_chanceOfLeft_J42 p0_bags p0_men p0_cells x1 x2 x3 x4_15 x5_15 (wpX4_chanceOfLeft_L15 p0_bags p0_men p0_cells x1 x2 x3 x4_15 x5_15 (wpX4_chanceOfLeft_J51 p0_bags p0_men p0_cells x1 x2 x3 post) post n15) post x9_42 k0_42 k1_42 → va_P (dC, dI) vwCl [(a_p0, .inr (0, [.int p0_bags, .int p0_men, .ref a_p0_bagKinds, .ref a_p0_manKinds, .ref a_p0_cells])), (a_p0_cells, .inl (cI, 23, .inl p0_cells))] H → va_D A [(a_p0, .inr (0, [.int p0_bags, .int p0_men, .ref a_p0_bagKinds, .ref a_p0_manKinds, .ref a_p0_cells])), (a_p0_cells, .inl (cI, 23, .inl p0_cells))] → va_S A s.heap H locs → lv_has ls 10 [(0, .ref a_p0), (1, .int x1), (2, .int x2), (3, .int x3), (4, .int x4_15), (5, .long x5_15), (9, .int x9_42)] → W p l e rmX4_chanceOfLeft s m [.ref a_p0, .int x1, .int x2, .int x3].toArray below meth c H locs 0 0 Q (F0 m 42 ls [.long k0_42, .long k1_42]) := by
        intro x9_42 k0_42 k1_42 H locs ls hw hP hD hS hl
        refine lv_lmul hx hb dX4_chanceOfLeft_42 ?_
        refine lv_topl (fun y_9 ey_9 => ?_)
        have hw := hw y_9 ey_9
        refine lv_lstore (lv' := [(7, .long y_9), (0, .ref a_p0), (1, .int x1), (2, .int x2), (3, .int x3), (4, .int x4_15), (5, .long x5_15), (9, .int x9_42)]) hx hb dX4_chanceOfLeft_43 hl (by decide) rfl (fun ls hl => ?_)
        obtain ⟨y_10, ey_10⟩ : ∃ y : Int32, y = (x9_42 + (1 : Int32)) := ⟨_, rfl⟩
        have hw := hw y_10 ey_10
        refine lv_iinc (v := y_10) (lv' := [(9, .int y_10), (7, .long y_9), (0, .ref a_p0), (1, .int x1), (2, .int x2), (3, .int x3), (4, .int x4_15), (5, .long x5_15)]) hx hb dX4_chanceOfLeft_45 hl (k := 7) rfl (by rw [ey_10]; rfl) (by decide) rfl (fun ls hl => ?_)
        refine lv_goto (tgt := 15) hx hb dX4_chanceOfLeft_48 (by decide) ?_
        exact ih15 y_9 y_10 H _ ls hw hP hD hS (lv_sub hl [2, 3, 4, 5, 6, 7, 1, 0] rfl)
      intro x7_15 x9_15 H locs ls hw hP hD hS hl
      refine lv_iload hx hb dX4_chanceOfLeft_15 (lv_at hl 7 rfl) ?_
      refine lv_aload_n hx hb dX4_chanceOfLeft_17 rfl (lv_at hl 0 rfl) ?_
      refine va_getN (D := (dC, dI)) (ci := 0) (v := .int p0_men) (C := RX0) (T := TX0) (N := 5) hx hb hts inX0 hown hK hP 0 rfl rfl 1 (by decide) (va_Nw.use rfl hX.1.2.2.2.2.1) (fun _ h9 => h9) rfl dX4_chanceOfLeft_18 ?_
      refine lv_icmp_ge (tgt := 51) hx hb dX4_chanceOfLeft_21 (by decide) (fun c_11 => ?_) (fun c_11 => ?_)
      · have hw := hw.1 c_11
        exact B51 x4_15 x5_15 x7_15 H _ ls hw hP hD hS (lv_sub hl [0, 1, 2, 3, 4, 5, 6] rfl)
      · have hw := hw.2 c_11
        refine lv_lload hx hb dX4_chanceOfLeft_24 (lv_at hl 6 rfl) ?_
        refine lv_aload_n hx hb dX4_chanceOfLeft_26 rfl (lv_at hl 0 rfl) ?_
        refine lv_iload hx hb dX4_chanceOfLeft_27 (lv_at hl 7 rfl) ?_
        refine kv_callVi (wr := []) (wn := (fun (u : Unit) => [(a_p0, .inr (0, [.int p0_bags, .int p0_men, .ref a_p0_bagKinds, .ref a_p0_manKinds, .ref a_p0_cells])), (a_p0_cells, .inl (cI, 23, .inl p0_cells))])) (As := [.int x9_15]) (rest := [.long x7_15]) ⟨hx, hb, hml, hown, hts⟩ hK hX hA hP hD hS (mtX0_hasFallen l dC dI cI cZ a_p0 a_p0_bagKinds a_p0_manKinds a_p0_cells H.size p0_bags p0_men p0_cells x9_15 _ hw) (cwV 1 hts gX4_chanceOfLeft_X0_hasFallen rfl rfl rfl (by decide +kernel) ⟨Nat.le_of_ble_eq_true rfl, Nat.le_of_ble_eq_true rfl⟩) 0 0 rfl rfl rfl [0, 1] [] [0, 1] rfl rfl rfl rfl (by decide) (fun _ => rfl) rfl rfl hl.1 rfl (Nat.le_of_ble_eq_true rfl) ⟨Nat.zero_le _, Nat.zero_le _⟩ dX4_chanceOfLeft_29 (fun r_12 u H locs hw hP hD hS => ?_)
        obtain ⟨hb_r_12, hw⟩ := hw
        refine lv_if_eq (tgt := 39) hx hb dX4_chanceOfLeft_32 (by decide) (fun c_13 => ?_) (fun c_13 => ?_)
        · have hw := hw.1 c_13
          refine lv_ldc2 (v := (10 : Int64)) hx hb hown (hts (.constantLong RX4 62 (10)) (by decide +kernel)) dX4_chanceOfLeft_39 ?_
          exact B42 x9_15 (10 : Int64) x7_15 H _ ls hw hP hD hS (lv_sub hl [0, 1, 2, 3, 4, 5, 7] rfl)
        · have hw := hw.2 c_13
          refine lv_lconst (v := (1 : Int64)) hx hb dX4_chanceOfLeft_35 (by decide) ?_
          refine lv_goto (tgt := 42) hx hb dX4_chanceOfLeft_36 (by decide) ?_
          exact B42 x9_15 (1 : Int64) x7_15 H _ ls hw hP hD hS (lv_sub hl [0, 1, 2, 3, 4, 5, 7] rfl)
  have E15 : ∀ (x4_15 : Int32) (x5_15 : Int64) (x7_15 : Int64) (x9_15 : Int32) (H : Heap) (locs : List Loc) (ls : Array Slot), wpX4_chanceOfLeft_E15 p0_bags p0_men p0_cells x1 x2 x3 post x4_15 x5_15 x7_15 x9_15 → va_P (dC, dI) vwCl [(a_p0, .inr (0, [.int p0_bags, .int p0_men, .ref a_p0_bagKinds, .ref a_p0_manKinds, .ref a_p0_cells])), (a_p0_cells, .inl (cI, 23, .inl p0_cells))] H → va_D A [(a_p0, .inr (0, [.int p0_bags, .int p0_men, .ref a_p0_bagKinds, .ref a_p0_manKinds, .ref a_p0_cells])), (a_p0_cells, .inl (cI, 23, .inl p0_cells))] → va_S A s.heap H locs → lv_has ls 10 [(0, .ref a_p0), (1, .int x1), (2, .int x2), (3, .int x3), (4, .int x4_15), (5, .long x5_15), (7, .long x7_15), (9, .int x9_15)] → W p l e rmX4_chanceOfLeft s m [.ref a_p0, .int x1, .int x2, .int x3].toArray below meth c H locs 0 0 Q (F0 m 15 ls []) := by
    intro x4_15 x5_15 x7_15 x9_15 H locs ls hw hP hD hS hl
    obtain ⟨n, hw⟩ := hw
    exact L15 x4_15 x5_15 n x7_15 x9_15 H locs ls hw hP hD hS hl
  refine lv_aload_n hx hb dX4_chanceOfLeft_0 rfl (lv_at hl 0 rfl) ?_
  refine kv_callVi (wr := []) (wn := (fun (u : Unit) => [(a_p0, .inr (0, [.int p0_bags, .int p0_men, .ref a_p0_bagKinds, .ref a_p0_manKinds, .ref a_p0_cells])), (a_p0_cells, .inl (cI, 23, .inl p0_cells))])) (As := []) (rest := []) ⟨hx, hb, hml, hown, hts⟩ hK hX hA hP hD hS (mtX0_fallenBits l dC dI cI cZ a_p0 a_p0_bagKinds a_p0_manKinds a_p0_cells s.heap.size p0_bags p0_men p0_cells _ hw) (cwV 0 hts gX4_chanceOfLeft_X0_fallenBits rfl rfl rfl (by decide +kernel) ⟨Nat.le_of_ble_eq_true rfl, Nat.le_of_ble_eq_true rfl⟩) 0 0 rfl rfl rfl [0, 1] [] [0, 1] rfl rfl rfl rfl (by decide) (fun _ => rfl) rfl rfl hl.1 rfl (Nat.le_of_ble_eq_true rfl) ⟨Nat.zero_le _, Nat.zero_le _⟩ dX4_chanceOfLeft_1 (fun r_14 u H locs hw hP hD hS => ?_)
  refine lv_istore (lv' := [(4, .int r_14), (0, .ref a_p0), (1, .int x1), (2, .int x2), (3, .int x3)]) hx hb dX4_chanceOfLeft_4 hl (by decide) rfl (fun ls hl => ?_)
  refine lv_lconst (v := (0 : Int64)) hx hb dX4_chanceOfLeft_6 (by decide) ?_
  refine lv_lstore (lv' := [(5, .long (0 : Int64)), (4, .int r_14), (0, .ref a_p0), (1, .int x1), (2, .int x2), (3, .int x3)]) hx hb dX4_chanceOfLeft_7 hl (by decide) rfl (fun ls hl => ?_)
  refine lv_lconst (v := (1 : Int64)) hx hb dX4_chanceOfLeft_9 (by decide) ?_
  refine lv_lstore (lv' := [(7, .long (1 : Int64)), (5, .long (0 : Int64)), (4, .int r_14), (0, .ref a_p0), (1, .int x1), (2, .int x2), (3, .int x3)]) hx hb dX4_chanceOfLeft_10 hl (by decide) rfl (fun ls hl => ?_)
  refine lv_iconst (v := (0 : Int32)) hx hb dX4_chanceOfLeft_12 (by decide) ?_
  refine lv_istore (lv' := [(9, .int (0 : Int32)), (7, .long (1 : Int64)), (5, .long (0 : Int64)), (4, .int r_14), (0, .ref a_p0), (1, .int x1), (2, .int x2), (3, .int x3)]) hx hb dX4_chanceOfLeft_13 hl (by decide) rfl (fun ls hl => ?_)
  exact E15 r_14 (0 : Int64) (1 : Int64) (0 : Int32) H _ ls hw hP hD hS (lv_sub hl [4, 5, 6, 7, 3, 2, 1, 0] rfl)
