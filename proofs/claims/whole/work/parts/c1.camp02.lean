def wpX0_breathsOf (t_bags : Int32) (t_cells : Nat → Int32) (x1 : Int32) (post : Int32 → Prop) : Prop := wpX0_breathsOfThese t_bags t_cells ((1 : Int32) <<< (x1 &&& 31)) (fun r_1 => post r_1)
abbrev rmX0_breathsOf : Room := { frames := 3, cells := 0, slots := 0, locals := 67 }
set_option maxHeartbeats 4000000 in
set_option maxRecDepth 100000 in
theorem mtX0_breathsOf (l : Launch) (dC : Nat → ClassId) (dI : Nat → Nat → Nat) (cI cZ : ClassId) (a_t : Nat) (a_t_bagKinds : Nat) (a_t_manKinds : Nat) (a_t_cells : Nat) (sz : Nat) (t_bags : Int32) (d_t_men : Int32) (t_cells : Nat → Int32) (x1 : Int32) (post : Int32 → Prop) (hw : wpX0_breathsOf t_bags t_cells x1 post) : Met l yX0_breathsOf wsX0_breathsOf rmX0_breathsOf (va_Pc [.ref a_t, .int x1] (kvPre (dC, dI) cI cZ sz [(a_t, .inr (0, [.int t_bags, .int d_t_men, .ref a_t_bagKinds, .ref a_t_manKinds, .ref a_t_cells])), (a_t_cells, .inl (cI, 23, .inl t_cells))])) (va_Qi (fun (r : Int32) (u : Unit) => post r ) (kvB (dC, dI) (va_A [(a_t, .inr (0, [.int t_bags, .int d_t_men, .ref a_t_bagKinds, .ref a_t_manKinds, .ref a_t_cells])), (a_t_cells, .inl (cI, 23, .inl t_cells))] sz) (fun (u : Unit) => [(a_t, .inr (0, [.int t_bags, .int d_t_men, .ref a_t_bagKinds, .ref a_t_manKinds, .ref a_t_cells])), (a_t_cells, .inl (cI, 23, .inl t_cells))])) (va_A [(a_t, .inr (0, [.int t_bags, .int d_t_men, .ref a_t_bagKinds, .ref a_t_manKinds, .ref a_t_cells])), (a_t_cells, .inl (cI, 23, .inl t_cells))] sz)) 0 0 (va_A [(a_t, .inr (0, [.int t_bags, .int d_t_men, .ref a_t_bagKinds, .ref a_t_manKinds, .ref a_t_cells])), (a_t_cells, .inl (cI, 23, .inl t_cells))] sz) := by
  refine kv_metI (y := yX0_breathsOf) (ws := wsX0_breathsOf) (rm := rmX0_breathsOf) (av := [.ref a_t, .int x1]) (sz := sz) (w := [(a_t, .inr (0, [.int t_bags, .int d_t_men, .ref a_t_bagKinds, .ref a_t_manKinds, .ref a_t_cells])), (a_t_cells, .inl (cI, 23, .inl t_cells))]) (cc := cX0_breathsOf) (maxL := 2) (own := RX0) (post := (fun (r : Int32) (u : Unit) => post r )) (w1 := (fun (u : Unit) => [(a_t, .inr (0, [.int t_bags, .int d_t_men, .ref a_t_bagKinds, .ref a_t_manKinds, .ref a_t_cells])), (a_t_cells, .inl (cI, 23, .inl t_cells))])) (by decide) rfl rfl (Nat.le_of_ble_eq_true rfl) ?_
  intro p e s m below meth c A Q hx hb hml hown hts hK hX hA hP hD hsz hret ls hl
  have hS : va_S A s.heap s.heap [] := va_S.rf
  have hl : lv_has ls 2 [(0, .ref a_t), (1, .int x1)] := hl
  refine lv_aload_n hx hb dX0_breathsOf_0 rfl (lv_at hl 0 rfl) ?_
  refine lv_iconst (v := (1 : Int32)) hx hb dX0_breathsOf_1 (by decide) ?_
  refine lv_iload_n hx hb dX0_breathsOf_2 rfl (lv_at hl 1 rfl) ?_
  refine lv_ishl hx hb dX0_breathsOf_3 ?_
  refine kv_callVi (wr := []) (wn := (fun (u : Unit) => [(a_t, .inr (0, [.int t_bags, .int d_t_men, .ref a_t_bagKinds, .ref a_t_manKinds, .ref a_t_cells])), (a_t_cells, .inl (cI, 23, .inl t_cells))])) (As := [.int ((1 : Int32) <<< (x1 &&& 31))]) (rest := []) ⟨hx, hb, hml, hown, hts⟩ hK hX hA hP hD hS (mtX0_breathsOfThese l dC dI cI cZ a_t a_t_bagKinds a_t_manKinds a_t_cells s.heap.size t_bags d_t_men t_cells ((1 : Int32) <<< (x1 &&& 31)) _ hw) (cwV 1 hts gX0_breathsOf_X0_breathsOfThese rfl rfl rfl (by decide +kernel) ⟨Nat.le_of_ble_eq_true rfl, Nat.le_of_ble_eq_true rfl⟩) 0 0 rfl rfl rfl [0, 1] [] [0, 1] rfl rfl rfl rfl (by decide) (fun _ => rfl) rfl rfl hl.1 rfl (Nat.le_of_ble_eq_true rfl) ⟨Nat.zero_le _, Nat.zero_le _⟩ dX0_breathsOf_4 (fun r_1 u H locs hw hP hD hS => ?_)
  exact hret r_1 () H _ _ ls hw hP hD hS dX0_breathsOf_7

def wpX0_left (t_bags : Int32) (t_cells : Nat → Int32) (post : Int32 → Prop) : Prop := wpX0_fallenBits t_cells (fun r_1 => wpX0_breathsOfThese t_bags t_cells r_1 (fun r_2 => post r_2))
abbrev rmX0_left : Room := { frames := 3, cells := 0, slots := 0, locals := 67 }
set_option maxHeartbeats 4000000 in
set_option maxRecDepth 100000 in
theorem mtX0_left (l : Launch) (dC : Nat → ClassId) (dI : Nat → Nat → Nat) (cI cZ : ClassId) (a_t : Nat) (a_t_bagKinds : Nat) (a_t_manKinds : Nat) (a_t_cells : Nat) (sz : Nat) (t_bags : Int32) (d_t_men : Int32) (t_cells : Nat → Int32) (post : Int32 → Prop) (hw : wpX0_left t_bags t_cells post) : Met l yX0_left wsX0_left rmX0_left (va_Pc [.ref a_t] (kvPre (dC, dI) cI cZ sz [(a_t, .inr (0, [.int t_bags, .int d_t_men, .ref a_t_bagKinds, .ref a_t_manKinds, .ref a_t_cells])), (a_t_cells, .inl (cI, 23, .inl t_cells))])) (va_Qi (fun (r : Int32) (u : Unit) => post r ) (kvB (dC, dI) (va_A [(a_t, .inr (0, [.int t_bags, .int d_t_men, .ref a_t_bagKinds, .ref a_t_manKinds, .ref a_t_cells])), (a_t_cells, .inl (cI, 23, .inl t_cells))] sz) (fun (u : Unit) => [(a_t, .inr (0, [.int t_bags, .int d_t_men, .ref a_t_bagKinds, .ref a_t_manKinds, .ref a_t_cells])), (a_t_cells, .inl (cI, 23, .inl t_cells))])) (va_A [(a_t, .inr (0, [.int t_bags, .int d_t_men, .ref a_t_bagKinds, .ref a_t_manKinds, .ref a_t_cells])), (a_t_cells, .inl (cI, 23, .inl t_cells))] sz)) 0 0 (va_A [(a_t, .inr (0, [.int t_bags, .int d_t_men, .ref a_t_bagKinds, .ref a_t_manKinds, .ref a_t_cells])), (a_t_cells, .inl (cI, 23, .inl t_cells))] sz) := by
  refine kv_metI (y := yX0_left) (ws := wsX0_left) (rm := rmX0_left) (av := [.ref a_t]) (sz := sz) (w := [(a_t, .inr (0, [.int t_bags, .int d_t_men, .ref a_t_bagKinds, .ref a_t_manKinds, .ref a_t_cells])), (a_t_cells, .inl (cI, 23, .inl t_cells))]) (cc := cX0_left) (maxL := 1) (own := RX0) (post := (fun (r : Int32) (u : Unit) => post r )) (w1 := (fun (u : Unit) => [(a_t, .inr (0, [.int t_bags, .int d_t_men, .ref a_t_bagKinds, .ref a_t_manKinds, .ref a_t_cells])), (a_t_cells, .inl (cI, 23, .inl t_cells))])) (by decide) rfl rfl (Nat.le_of_ble_eq_true rfl) ?_
  intro p e s m below meth c A Q hx hb hml hown hts hK hX hA hP hD hsz hret ls hl
  have hS : va_S A s.heap s.heap [] := va_S.rf
  have hl : lv_has ls 1 [(0, .ref a_t)] := hl
  refine lv_aload_n hx hb dX0_left_0 rfl (lv_at hl 0 rfl) ?_
  refine lv_aload_n hx hb dX0_left_1 rfl (lv_at hl 0 rfl) ?_
  refine kv_callVi (wr := []) (wn := (fun (u : Unit) => [(a_t, .inr (0, [.int t_bags, .int d_t_men, .ref a_t_bagKinds, .ref a_t_manKinds, .ref a_t_cells])), (a_t_cells, .inl (cI, 23, .inl t_cells))])) (As := []) (rest := [.ref a_t]) ⟨hx, hb, hml, hown, hts⟩ hK hX hA hP hD hS (mtX0_fallenBits l dC dI cI cZ a_t a_t_bagKinds a_t_manKinds a_t_cells s.heap.size t_bags d_t_men t_cells _ hw) (cwV 0 hts gX0_left_X0_fallenBits rfl rfl rfl (by decide +kernel) ⟨Nat.le_of_ble_eq_true rfl, Nat.le_of_ble_eq_true rfl⟩) 0 0 rfl rfl rfl [0, 1] [] [0, 1] rfl rfl rfl rfl (by decide) (fun _ => rfl) rfl rfl hl.1 rfl (Nat.le_of_ble_eq_true rfl) ⟨Nat.zero_le _, Nat.zero_le _⟩ dX0_left_2 (fun r_1 u H locs hw hP hD hS => ?_)
  refine kv_callVi (wr := []) (wn := (fun (u : Unit) => [(a_t, .inr (0, [.int t_bags, .int d_t_men, .ref a_t_bagKinds, .ref a_t_manKinds, .ref a_t_cells])), (a_t_cells, .inl (cI, 23, .inl t_cells))])) (As := [.int r_1]) (rest := []) ⟨hx, hb, hml, hown, hts⟩ hK hX hA hP hD hS (mtX0_breathsOfThese l dC dI cI cZ a_t a_t_bagKinds a_t_manKinds a_t_cells H.size t_bags d_t_men t_cells r_1 _ hw) (cwV 1 hts gX0_left_X0_breathsOfThese rfl rfl rfl (by decide +kernel) ⟨Nat.le_of_ble_eq_true rfl, Nat.le_of_ble_eq_true rfl⟩) 0 0 rfl rfl rfl [0, 1] [] [0, 1] rfl rfl rfl rfl (by decide) (fun _ => rfl) rfl rfl hl.1 rfl (Nat.le_of_ble_eq_true rfl) ⟨Nat.zero_le _, Nat.zero_le _⟩ dX0_left_5 (fun r_2 u H locs hw hP hD hS => ?_)
  exact hret r_2 () H _ _ ls hw hP hD hS dX0_left_8

def wpX0_placePlayed (t_bags : Int32) (t_bagKinds : Nat → Int32) (t_cells : Nat → Int32) (x1 : Int32) (x2 : Int32) (post : Int32 → Prop) : Prop := wpX0_kindOfBag t_bags t_bagKinds x1 (fun r_1 => ((¬ r_1 = (1 : Int32) → wpX0_breathsIn t_bags t_cells x1 (fun r_3 => post ((r_3 - (1 : Int32)) - x2))) ∧ (r_1 = (1 : Int32) → post x2)))
abbrev rmX0_placePlayed : Room := { frames := 2, cells := 0, slots := 0, locals := 42 }
set_option maxHeartbeats 4000000 in
set_option maxRecDepth 100000 in
theorem mtX0_placePlayed (l : Launch) (dC : Nat → ClassId) (dI : Nat → Nat → Nat) (cI cZ : ClassId) (a_t : Nat) (a_t_bagKinds : Nat) (a_t_manKinds : Nat) (a_t_cells : Nat) (sz : Nat) (t_bags : Int32) (d_t_men : Int32) (t_bagKinds : Nat → Int32) (t_cells : Nat → Int32) (x1 : Int32) (x2 : Int32) (post : Int32 → Prop) (hw : wpX0_placePlayed t_bags t_bagKinds t_cells x1 x2 post) : Met l yX0_placePlayed wsX0_placePlayed rmX0_placePlayed (va_Pc [.ref a_t, .int x1, .int x2] (kvPre (dC, dI) cI cZ sz [(a_t, .inr (0, [.int t_bags, .int d_t_men, .ref a_t_bagKinds, .ref a_t_manKinds, .ref a_t_cells])), (a_t_bagKinds, .inl (cI, 3, .inl t_bagKinds)), (a_t_cells, .inl (cI, 23, .inl t_cells))])) (va_Qi (fun (r : Int32) (u : Unit) => post r ) (kvB (dC, dI) (va_A [(a_t, .inr (0, [.int t_bags, .int d_t_men, .ref a_t_bagKinds, .ref a_t_manKinds, .ref a_t_cells])), (a_t_bagKinds, .inl (cI, 3, .inl t_bagKinds)), (a_t_cells, .inl (cI, 23, .inl t_cells))] sz) (fun (u : Unit) => [(a_t, .inr (0, [.int t_bags, .int d_t_men, .ref a_t_bagKinds, .ref a_t_manKinds, .ref a_t_cells])), (a_t_bagKinds, .inl (cI, 3, .inl t_bagKinds)), (a_t_cells, .inl (cI, 23, .inl t_cells))])) (va_A [(a_t, .inr (0, [.int t_bags, .int d_t_men, .ref a_t_bagKinds, .ref a_t_manKinds, .ref a_t_cells])), (a_t_bagKinds, .inl (cI, 3, .inl t_bagKinds)), (a_t_cells, .inl (cI, 23, .inl t_cells))] sz)) 0 0 (va_A [(a_t, .inr (0, [.int t_bags, .int d_t_men, .ref a_t_bagKinds, .ref a_t_manKinds, .ref a_t_cells])), (a_t_bagKinds, .inl (cI, 3, .inl t_bagKinds)), (a_t_cells, .inl (cI, 23, .inl t_cells))] sz) := by
  refine kv_metI (y := yX0_placePlayed) (ws := wsX0_placePlayed) (rm := rmX0_placePlayed) (av := [.ref a_t, .int x1, .int x2]) (sz := sz) (w := [(a_t, .inr (0, [.int t_bags, .int d_t_men, .ref a_t_bagKinds, .ref a_t_manKinds, .ref a_t_cells])), (a_t_bagKinds, .inl (cI, 3, .inl t_bagKinds)), (a_t_cells, .inl (cI, 23, .inl t_cells))]) (cc := cX0_placePlayed) (maxL := 3) (own := RX0) (post := (fun (r : Int32) (u : Unit) => post r )) (w1 := (fun (u : Unit) => [(a_t, .inr (0, [.int t_bags, .int d_t_men, .ref a_t_bagKinds, .ref a_t_manKinds, .ref a_t_cells])), (a_t_bagKinds, .inl (cI, 3, .inl t_bagKinds)), (a_t_cells, .inl (cI, 23, .inl t_cells))])) (by decide) rfl rfl (Nat.le_of_ble_eq_true rfl) ?_
  intro p e s m below meth c A Q hx hb hml hown hts hK hX hA hP hD hsz hret ls hl
  have hS : va_S A s.heap s.heap [] := va_S.rf
  have hl : lv_has ls 3 [(0, .ref a_t), (1, .int x1), (2, .int x2)] := hl
  refine lv_aload_n hx hb dX0_placePlayed_0 rfl (lv_at hl 0 rfl) ?_
  refine lv_iload_n hx hb dX0_placePlayed_1 rfl (lv_at hl 1 rfl) ?_
  refine kv_callVi (wr := [(a_t_cells, .inl (cI, 23, .inl t_cells))]) (wn := (fun (u : Unit) => [(a_t, .inr (0, [.int t_bags, .int d_t_men, .ref a_t_bagKinds, .ref a_t_manKinds, .ref a_t_cells])), (a_t_bagKinds, .inl (cI, 3, .inl t_bagKinds)), (a_t_cells, .inl (cI, 23, .inl t_cells))])) (As := [.int x1]) (rest := []) ⟨hx, hb, hml, hown, hts⟩ hK hX hA hP hD hS (mtX0_kindOfBag l dC dI cI cZ a_t a_t_bagKinds a_t_manKinds a_t_cells s.heap.size t_bags d_t_men t_bagKinds x1 _ hw) (cwV 1 hts gX0_placePlayed_X0_kindOfBag rfl rfl rfl (by decide +kernel) ⟨Nat.le_of_ble_eq_true rfl, Nat.le_of_ble_eq_true rfl⟩) 0 0 rfl rfl rfl [0, 1] [2] [1, 2, 0] rfl rfl rfl rfl (by decide) (fun _ => rfl) rfl rfl hl.1 rfl (Nat.le_of_ble_eq_true rfl) ⟨Nat.zero_le _, Nat.zero_le _⟩ dX0_placePlayed_2 (fun r_1 u H locs hw hP hD hS => ?_)
  refine lv_iconst (v := (1 : Int32)) hx hb dX0_placePlayed_5 (by decide) ?_
  refine lv_icmp_ne (tgt := 13) hx hb dX0_placePlayed_6 (by decide) (fun c_2 => ?_) (fun c_2 => ?_)
  · have hw := hw.1 c_2
    refine lv_aload_n hx hb dX0_placePlayed_13 rfl (lv_at hl 0 rfl) ?_
    refine lv_iload_n hx hb dX0_placePlayed_14 rfl (lv_at hl 1 rfl) ?_
    refine kv_callVi (wr := [(a_t_bagKinds, .inl (cI, 3, .inl t_bagKinds))]) (wn := (fun (u : Unit) => [(a_t, .inr (0, [.int t_bags, .int d_t_men, .ref a_t_bagKinds, .ref a_t_manKinds, .ref a_t_cells])), (a_t_bagKinds, .inl (cI, 3, .inl t_bagKinds)), (a_t_cells, .inl (cI, 23, .inl t_cells))])) (As := [.int x1]) (rest := []) ⟨hx, hb, hml, hown, hts⟩ hK hX hA hP hD hS (mtX0_breathsIn l dC dI cI cZ a_t a_t_bagKinds a_t_manKinds a_t_cells H.size t_bags d_t_men t_cells x1 _ hw) (cwV 1 hts gX0_placePlayed_X0_breathsIn rfl rfl rfl (by decide +kernel) ⟨Nat.le_of_ble_eq_true rfl, Nat.le_of_ble_eq_true rfl⟩) 0 0 rfl rfl rfl [0, 2] [1] [1, 0, 2] rfl rfl rfl rfl (by decide) (fun _ => rfl) rfl rfl hl.1 rfl (Nat.le_of_ble_eq_true rfl) ⟨Nat.zero_le _, Nat.zero_le _⟩ dX0_placePlayed_15 (fun r_3 u H locs hw hP hD hS => ?_)
    refine lv_iconst (v := (1 : Int32)) hx hb dX0_placePlayed_18 (by decide) ?_
    refine lv_isub hx hb dX0_placePlayed_19 ?_
    refine lv_iload_n hx hb dX0_placePlayed_20 rfl (lv_at hl 2 rfl) ?_
    refine lv_isub hx hb dX0_placePlayed_21 ?_
    exact hret ((r_3 - (1 : Int32)) - x2) () H _ _ ls hw hP hD hS dX0_placePlayed_22
  · have hw := hw.2 c_2
    refine lv_iload_n hx hb dX0_placePlayed_9 rfl (lv_at hl 2 rfl) ?_
    refine lv_goto (tgt := 22) hx hb dX0_placePlayed_10 (by decide) ?_
    exact hret x2 () H _ _ ls hw hP hD hS dX0_placePlayed_22

def wpX0_playedBitsAs_J54 (t_bags : Int32) (t_cells : Nat → Int32) (x1 : Int32) (x2 : Int32) (x3 : Int32) (x4 : Int32) (x5_13 : Int32) (kL13 : Int32 → Int32 → Prop) (post : Int32 → Prop) (x7_54 : Int32) (k0_54 : Int32) (k1_54 : Int32) (k3_54 : Int32) (k4_54 : Int32) : Prop := wpX0_owner t_cells k1_54 k0_54 (fun r_1 => ∀ y_2 : Int32, y_2 = (k4_54 ||| (k3_54 <<< (r_1 &&& 31))) → ∀ y_3 : Int32, y_3 = (x7_54 + (1 : Int32)) → kL13 y_2 y_3)
def wpX0_playedBitsAs_L13 (t_bags : Int32) (t_cells : Nat → Int32) (x1 : Int32) (x2 : Int32) (x3 : Int32) (x4 : Int32) (x5_13 : Int32) (post : Int32 → Prop) : Nat → Int32 → Int32 → Prop
  | 0, _, _ => False
  | n + 1, x6_13, x7_13 => ((x2 ≤ x7_13 → post x6_13) ∧ (¬ x2 ≤ x7_13 → (((x5_13 - x4) ≤ x7_13 → post x6_13) ∧ (¬ (x5_13 - x4) ≤ x7_13 → ((¬ x3 = (1 : Int32) → wpX0_playedBitsAs_J54 t_bags t_cells x1 x2 x3 x4 x5_13 (wpX0_playedBitsAs_L13 t_bags t_cells x1 x2 x3 x4 x5_13 post n) post x7_13 ((x5_13 - (1 : Int32)) - x7_13) x1 (1 : Int32) x6_13) ∧ (x3 = (1 : Int32) → wpX0_playedBitsAs_J54 t_bags t_cells x1 x2 x3 x4 x5_13 (wpX0_playedBitsAs_L13 t_bags t_cells x1 x2 x3 x4 x5_13 post n) post x7_13 (x4 + x7_13) x1 (1 : Int32) x6_13))))))
def wpX0_playedBitsAs_E13 (t_bags : Int32) (t_cells : Nat → Int32) (x1 : Int32) (x2 : Int32) (x3 : Int32) (x4 : Int32) (post : Int32 → Prop) (x5_13 : Int32) (x6_13 : Int32) (x7_13 : Int32) : Prop := ∃ n : Nat, wpX0_playedBitsAs_L13 t_bags t_cells x1 x2 x3 x4 x5_13 post n x6_13 x7_13
def wpX0_playedBitsAs (t_bags : Int32) (t_cells : Nat → Int32) (x1 : Int32) (x2 : Int32) (x3 : Int32) (x4 : Int32) (post : Int32 → Prop) : Prop := wpX0_breathsIn t_bags t_cells x1 (fun r_7 => wpX0_playedBitsAs_E13 t_bags t_cells x1 x2 x3 x4 post r_7 (0 : Int32) (0 : Int32))
abbrev rmX0_playedBitsAs : Room := { frames := 2, cells := 0, slots := 0, locals := 43 }
set_option maxHeartbeats 4000000 in
set_option maxRecDepth 100000 in
theorem mtX0_playedBitsAs (l : Launch) (dC : Nat → ClassId) (dI : Nat → Nat → Nat) (cI cZ : ClassId) (a_t : Nat) (a_t_bagKinds : Nat) (a_t_manKinds : Nat) (a_t_cells : Nat) (sz : Nat) (t_bags : Int32) (d_t_men : Int32) (t_cells : Nat → Int32) (x1 : Int32) (x2 : Int32) (x3 : Int32) (x4 : Int32) (post : Int32 → Prop) (hw : wpX0_playedBitsAs t_bags t_cells x1 x2 x3 x4 post) : Met l yX0_playedBitsAs wsX0_playedBitsAs rmX0_playedBitsAs (va_Pc [.ref a_t, .int x1, .int x2, .int x3, .int x4] (kvPre (dC, dI) cI cZ sz [(a_t, .inr (0, [.int t_bags, .int d_t_men, .ref a_t_bagKinds, .ref a_t_manKinds, .ref a_t_cells])), (a_t_cells, .inl (cI, 23, .inl t_cells))])) (va_Qi (fun (r : Int32) (u : Unit) => post r ) (kvB (dC, dI) (va_A [(a_t, .inr (0, [.int t_bags, .int d_t_men, .ref a_t_bagKinds, .ref a_t_manKinds, .ref a_t_cells])), (a_t_cells, .inl (cI, 23, .inl t_cells))] sz) (fun (u : Unit) => [(a_t, .inr (0, [.int t_bags, .int d_t_men, .ref a_t_bagKinds, .ref a_t_manKinds, .ref a_t_cells])), (a_t_cells, .inl (cI, 23, .inl t_cells))])) (va_A [(a_t, .inr (0, [.int t_bags, .int d_t_men, .ref a_t_bagKinds, .ref a_t_manKinds, .ref a_t_cells])), (a_t_cells, .inl (cI, 23, .inl t_cells))] sz)) 0 0 (va_A [(a_t, .inr (0, [.int t_bags, .int d_t_men, .ref a_t_bagKinds, .ref a_t_manKinds, .ref a_t_cells])), (a_t_cells, .inl (cI, 23, .inl t_cells))] sz) := by
  refine kv_metI (y := yX0_playedBitsAs) (ws := wsX0_playedBitsAs) (rm := rmX0_playedBitsAs) (av := [.ref a_t, .int x1, .int x2, .int x3, .int x4]) (sz := sz) (w := [(a_t, .inr (0, [.int t_bags, .int d_t_men, .ref a_t_bagKinds, .ref a_t_manKinds, .ref a_t_cells])), (a_t_cells, .inl (cI, 23, .inl t_cells))]) (cc := cX0_playedBitsAs) (maxL := 8) (own := RX0) (post := (fun (r : Int32) (u : Unit) => post r )) (w1 := (fun (u : Unit) => [(a_t, .inr (0, [.int t_bags, .int d_t_men, .ref a_t_bagKinds, .ref a_t_manKinds, .ref a_t_cells])), (a_t_cells, .inl (cI, 23, .inl t_cells))])) (by decide) rfl rfl (Nat.le_of_ble_eq_true rfl) ?_
  intro p e s m below meth c A Q hx hb hml hown hts hK hX hA hP hD hsz hret ls hl
  have hS : va_S A s.heap s.heap [] := va_S.rf
  have hl : lv_has ls 8 [(0, .ref a_t), (1, .int x1), (2, .int x2), (3, .int x3), (4, .int x4)] := hl
  have L13 : ∀ (x5_13 : Int32) (n13 : Nat) (x6_13 : Int32) (x7_13 : Int32) (H : Heap) (locs : List Loc) (ls : Array Slot), wpX0_playedBitsAs_L13 t_bags t_cells x1 x2 x3 x4 x5_13 post n13 x6_13 x7_13 → va_P (dC, dI) vwCl [(a_t, .inr (0, [.int t_bags, .int d_t_men, .ref a_t_bagKinds, .ref a_t_manKinds, .ref a_t_cells])), (a_t_cells, .inl (cI, 23, .inl t_cells))] H → va_D A [(a_t, .inr (0, [.int t_bags, .int d_t_men, .ref a_t_bagKinds, .ref a_t_manKinds, .ref a_t_cells])), (a_t_cells, .inl (cI, 23, .inl t_cells))] → va_S A s.heap H locs → lv_has ls 8 [(0, .ref a_t), (1, .int x1), (2, .int x2), (3, .int x3), (4, .int x4), (5, .int x5_13), (6, .int x6_13), (7, .int x7_13)] → W p l e rmX0_playedBitsAs s m [.ref a_t, .int x1, .int x2, .int x3, .int x4].toArray below meth c H locs 0 0 Q (F0 m 13 ls []) := by
    intro x5_13 n13
    induction n13 with
    | zero => intro x6_13 x7_13 H locs ls hw hP hD hS hl; exact hw.elim
    | succ n13 ih13 =>
      have B54 : ∀ (x7_54 : Int32) (k0_54 : Int32) (k1_54 : Int32) (k3_54 : Int32) (k4_54 : Int32) (H : Heap) (locs : List Loc) (ls : Array Slot), wpX0_playedBitsAs_J54 t_bags t_cells x1 x2 x3 x4 x5_13 (wpX0_playedBitsAs_L13 t_bags t_cells x1 x2 x3 x4 x5_13 post n13) post x7_54 k0_54 k1_54 k3_54 k4_54 → va_P (dC, dI) vwCl [(a_t, .inr (0, [.int t_bags, .int d_t_men, .ref a_t_bagKinds, .ref a_t_manKinds, .ref a_t_cells])), (a_t_cells, .inl (cI, 23, .inl t_cells))] H → va_D A [(a_t, .inr (0, [.int t_bags, .int d_t_men, .ref a_t_bagKinds, .ref a_t_manKinds, .ref a_t_cells])), (a_t_cells, .inl (cI, 23, .inl t_cells))] → va_S A s.heap H locs → lv_has ls 8 [(0, .ref a_t), (1, .int x1), (2, .int x2), (3, .int x3), (4, .int x4), (5, .int x5_13), (7, .int x7_54)] → W p l e rmX0_playedBitsAs s m [.ref a_t, .int x1, .int x2, .int x3, .int x4].toArray below meth c H locs 0 0 Q (F0 m 54 ls [.int k0_54, .int k1_54, .ref a_t, .int k3_54, .int k4_54]) := by
        intro x7_54 k0_54 k1_54 k3_54 k4_54 H locs ls hw hP hD hS hl
        refine kv_callVi (wr := []) (wn := (fun (u : Unit) => [(a_t, .inr (0, [.int t_bags, .int d_t_men, .ref a_t_bagKinds, .ref a_t_manKinds, .ref a_t_cells])), (a_t_cells, .inl (cI, 23, .inl t_cells))])) (As := [.int k1_54, .int k0_54]) (rest := [.int k3_54, .int k4_54]) ⟨hx, hb, hml, hown, hts⟩ hK hX hA hP hD hS (mtX0_owner l dC dI cI cZ a_t a_t_bagKinds a_t_manKinds a_t_cells H.size t_bags d_t_men t_cells k1_54 k0_54 _ hw) (cwV 2 hts gX0_playedBitsAs_X0_owner rfl rfl rfl (by decide +kernel) ⟨Nat.le_of_ble_eq_true rfl, Nat.le_of_ble_eq_true rfl⟩) 0 0 rfl rfl rfl [0, 1] [] [0, 1] rfl rfl rfl rfl (by decide) (fun _ => rfl) rfl rfl hl.1 rfl (Nat.le_of_ble_eq_true rfl) ⟨Nat.zero_le _, Nat.zero_le _⟩ dX0_playedBitsAs_54 (fun r_1 u H locs hw hP hD hS => ?_)
        refine lv_ishl hx hb dX0_playedBitsAs_57 ?_
        refine lv_ior hx hb dX0_playedBitsAs_58 ?_
        refine lv_topi (fun y_2 ey_2 => ?_)
        have hw := hw y_2 ey_2
        refine lv_istore (lv' := [(6, .int y_2), (0, .ref a_t), (1, .int x1), (2, .int x2), (3, .int x3), (4, .int x4), (5, .int x5_13), (7, .int x7_54)]) hx hb dX0_playedBitsAs_59 hl (by decide) rfl (fun ls hl => ?_)
        obtain ⟨y_3, ey_3⟩ : ∃ y : Int32, y = (x7_54 + (1 : Int32)) := ⟨_, rfl⟩
        have hw := hw y_3 ey_3
        refine lv_iinc (v := y_3) (lv' := [(7, .int y_3), (6, .int y_2), (0, .ref a_t), (1, .int x1), (2, .int x2), (3, .int x3), (4, .int x4), (5, .int x5_13)]) hx hb dX0_playedBitsAs_61 hl (k := 7) rfl (by rw [ey_3]; rfl) (by decide) rfl (fun ls hl => ?_)
        refine lv_goto (tgt := 13) hx hb dX0_playedBitsAs_64 (by decide) ?_
        exact ih13 y_2 y_3 H _ ls hw hP hD hS (lv_sub hl [2, 3, 4, 5, 6, 7, 1, 0] rfl)
      intro x6_13 x7_13 H locs ls hw hP hD hS hl
      refine lv_iload hx hb dX0_playedBitsAs_13 (lv_at hl 7 rfl) ?_
      refine lv_iload_n hx hb dX0_playedBitsAs_15 rfl (lv_at hl 2 rfl) ?_
      refine lv_icmp_ge (tgt := 67) hx hb dX0_playedBitsAs_16 (by decide) (fun c_4 => ?_) (fun c_4 => ?_)
      · have hw := hw.1 c_4
        refine lv_iload hx hb dX0_playedBitsAs_67 (lv_at hl 6 rfl) ?_
        exact hret x6_13 () H _ _ ls hw hP hD hS dX0_playedBitsAs_69
      · have hw := hw.2 c_4
        refine lv_iload hx hb dX0_playedBitsAs_19 (lv_at hl 7 rfl) ?_
        refine lv_iload hx hb dX0_playedBitsAs_21 (lv_at hl 5 rfl) ?_
        refine lv_iload hx hb dX0_playedBitsAs_23 (lv_at hl 4 rfl) ?_
        refine lv_isub hx hb dX0_playedBitsAs_25 ?_
        refine lv_icmp_ge (tgt := 67) hx hb dX0_playedBitsAs_26 (by decide) (fun c_5 => ?_) (fun c_5 => ?_)
        · have hw := hw.1 c_5
          refine lv_iload hx hb dX0_playedBitsAs_67 (lv_at hl 6 rfl) ?_
          exact hret x6_13 () H _ _ ls hw hP hD hS dX0_playedBitsAs_69
        · have hw := hw.2 c_5
          refine lv_iload hx hb dX0_playedBitsAs_29 (lv_at hl 6 rfl) ?_
          refine lv_iconst (v := (1 : Int32)) hx hb dX0_playedBitsAs_31 (by decide) ?_
          refine lv_aload_n hx hb dX0_playedBitsAs_32 rfl (lv_at hl 0 rfl) ?_
          refine lv_iload_n hx hb dX0_playedBitsAs_33 rfl (lv_at hl 1 rfl) ?_
          refine lv_iload_n hx hb dX0_playedBitsAs_34 rfl (lv_at hl 3 rfl) ?_
          refine lv_iconst (v := (1 : Int32)) hx hb dX0_playedBitsAs_35 (by decide) ?_
          refine lv_icmp_ne (tgt := 47) hx hb dX0_playedBitsAs_36 (by decide) (fun c_6 => ?_) (fun c_6 => ?_)
          · have hw := hw.1 c_6
            refine lv_iload hx hb dX0_playedBitsAs_47 (lv_at hl 5 rfl) ?_
            refine lv_iconst (v := (1 : Int32)) hx hb dX0_playedBitsAs_49 (by decide) ?_
            refine lv_isub hx hb dX0_playedBitsAs_50 ?_
            refine lv_iload hx hb dX0_playedBitsAs_51 (lv_at hl 7 rfl) ?_
            refine lv_isub hx hb dX0_playedBitsAs_53 ?_
            exact B54 x7_13 ((x5_13 - (1 : Int32)) - x7_13) x1 (1 : Int32) x6_13 H _ ls hw hP hD hS (lv_sub hl [0, 1, 2, 3, 4, 5, 7] rfl)
          · have hw := hw.2 c_6
            refine lv_iload hx hb dX0_playedBitsAs_39 (lv_at hl 4 rfl) ?_
            refine lv_iload hx hb dX0_playedBitsAs_41 (lv_at hl 7 rfl) ?_
            refine lv_iadd hx hb dX0_playedBitsAs_43 ?_
            refine lv_goto (tgt := 54) hx hb dX0_playedBitsAs_44 (by decide) ?_
            exact B54 x7_13 (x4 + x7_13) x1 (1 : Int32) x6_13 H _ ls hw hP hD hS (lv_sub hl [0, 1, 2, 3, 4, 5, 7] rfl)
  have E13 : ∀ (x5_13 : Int32) (x6_13 : Int32) (x7_13 : Int32) (H : Heap) (locs : List Loc) (ls : Array Slot), wpX0_playedBitsAs_E13 t_bags t_cells x1 x2 x3 x4 post x5_13 x6_13 x7_13 → va_P (dC, dI) vwCl [(a_t, .inr (0, [.int t_bags, .int d_t_men, .ref a_t_bagKinds, .ref a_t_manKinds, .ref a_t_cells])), (a_t_cells, .inl (cI, 23, .inl t_cells))] H → va_D A [(a_t, .inr (0, [.int t_bags, .int d_t_men, .ref a_t_bagKinds, .ref a_t_manKinds, .ref a_t_cells])), (a_t_cells, .inl (cI, 23, .inl t_cells))] → va_S A s.heap H locs → lv_has ls 8 [(0, .ref a_t), (1, .int x1), (2, .int x2), (3, .int x3), (4, .int x4), (5, .int x5_13), (6, .int x6_13), (7, .int x7_13)] → W p l e rmX0_playedBitsAs s m [.ref a_t, .int x1, .int x2, .int x3, .int x4].toArray below meth c H locs 0 0 Q (F0 m 13 ls []) := by
    intro x5_13 x6_13 x7_13 H locs ls hw hP hD hS hl
    obtain ⟨n, hw⟩ := hw
    exact L13 x5_13 n x6_13 x7_13 H locs ls hw hP hD hS hl
  refine lv_aload_n hx hb dX0_playedBitsAs_0 rfl (lv_at hl 0 rfl) ?_
  refine lv_iload_n hx hb dX0_playedBitsAs_1 rfl (lv_at hl 1 rfl) ?_
  refine kv_callVi (wr := []) (wn := (fun (u : Unit) => [(a_t, .inr (0, [.int t_bags, .int d_t_men, .ref a_t_bagKinds, .ref a_t_manKinds, .ref a_t_cells])), (a_t_cells, .inl (cI, 23, .inl t_cells))])) (As := [.int x1]) (rest := []) ⟨hx, hb, hml, hown, hts⟩ hK hX hA hP hD hS (mtX0_breathsIn l dC dI cI cZ a_t a_t_bagKinds a_t_manKinds a_t_cells s.heap.size t_bags d_t_men t_cells x1 _ hw) (cwV 1 hts gX0_playedBitsAs_X0_breathsIn rfl rfl rfl (by decide +kernel) ⟨Nat.le_of_ble_eq_true rfl, Nat.le_of_ble_eq_true rfl⟩) 0 0 rfl rfl rfl [0, 1] [] [0, 1] rfl rfl rfl rfl (by decide) (fun _ => rfl) rfl rfl hl.1 rfl (Nat.le_of_ble_eq_true rfl) ⟨Nat.zero_le _, Nat.zero_le _⟩ dX0_playedBitsAs_2 (fun r_7 u H locs hw hP hD hS => ?_)
  refine lv_istore (lv' := [(5, .int r_7), (0, .ref a_t), (1, .int x1), (2, .int x2), (3, .int x3), (4, .int x4)]) hx hb dX0_playedBitsAs_5 hl (by decide) rfl (fun ls hl => ?_)
  refine lv_iconst (v := (0 : Int32)) hx hb dX0_playedBitsAs_7 (by decide) ?_
  refine lv_istore (lv' := [(6, .int (0 : Int32)), (5, .int r_7), (0, .ref a_t), (1, .int x1), (2, .int x2), (3, .int x3), (4, .int x4)]) hx hb dX0_playedBitsAs_8 hl (by decide) rfl (fun ls hl => ?_)
  refine lv_iconst (v := (0 : Int32)) hx hb dX0_playedBitsAs_10 (by decide) ?_
  refine lv_istore (lv' := [(7, .int (0 : Int32)), (6, .int (0 : Int32)), (5, .int r_7), (0, .ref a_t), (1, .int x1), (2, .int x2), (3, .int x3), (4, .int x4)]) hx hb dX0_playedBitsAs_11 hl (by decide) rfl (fun ls hl => ?_)
  exact E13 r_7 (0 : Int32) (0 : Int32) H _ ls hw hP hD hS (lv_sub hl [3, 4, 5, 6, 7, 2, 1, 0] rfl)

def wpX0_playedBits (t_bags : Int32) (t_bagKinds : Nat → Int32) (t_cells : Nat → Int32) (x1 : Int32) (x2 : Int32) (post : Int32 → Prop) : Prop := wpX0_kindOfBag t_bags t_bagKinds x1 (fun r_1 => wpX0_playedBitsAs t_bags t_cells x1 x2 r_1 (0 : Int32) (fun r_2 => post r_2))
abbrev rmX0_playedBits : Room := { frames := 3, cells := 0, slots := 0, locals := 70 }
set_option maxHeartbeats 4000000 in
set_option maxRecDepth 100000 in
theorem mtX0_playedBits (l : Launch) (dC : Nat → ClassId) (dI : Nat → Nat → Nat) (cI cZ : ClassId) (a_t : Nat) (a_t_bagKinds : Nat) (a_t_manKinds : Nat) (a_t_cells : Nat) (sz : Nat) (t_bags : Int32) (d_t_men : Int32) (t_bagKinds : Nat → Int32) (t_cells : Nat → Int32) (x1 : Int32) (x2 : Int32) (post : Int32 → Prop) (hw : wpX0_playedBits t_bags t_bagKinds t_cells x1 x2 post) : Met l yX0_playedBits wsX0_playedBits rmX0_playedBits (va_Pc [.ref a_t, .int x1, .int x2] (kvPre (dC, dI) cI cZ sz [(a_t, .inr (0, [.int t_bags, .int d_t_men, .ref a_t_bagKinds, .ref a_t_manKinds, .ref a_t_cells])), (a_t_bagKinds, .inl (cI, 3, .inl t_bagKinds)), (a_t_cells, .inl (cI, 23, .inl t_cells))])) (va_Qi (fun (r : Int32) (u : Unit) => post r ) (kvB (dC, dI) (va_A [(a_t, .inr (0, [.int t_bags, .int d_t_men, .ref a_t_bagKinds, .ref a_t_manKinds, .ref a_t_cells])), (a_t_bagKinds, .inl (cI, 3, .inl t_bagKinds)), (a_t_cells, .inl (cI, 23, .inl t_cells))] sz) (fun (u : Unit) => [(a_t, .inr (0, [.int t_bags, .int d_t_men, .ref a_t_bagKinds, .ref a_t_manKinds, .ref a_t_cells])), (a_t_bagKinds, .inl (cI, 3, .inl t_bagKinds)), (a_t_cells, .inl (cI, 23, .inl t_cells))])) (va_A [(a_t, .inr (0, [.int t_bags, .int d_t_men, .ref a_t_bagKinds, .ref a_t_manKinds, .ref a_t_cells])), (a_t_bagKinds, .inl (cI, 3, .inl t_bagKinds)), (a_t_cells, .inl (cI, 23, .inl t_cells))] sz)) 0 0 (va_A [(a_t, .inr (0, [.int t_bags, .int d_t_men, .ref a_t_bagKinds, .ref a_t_manKinds, .ref a_t_cells])), (a_t_bagKinds, .inl (cI, 3, .inl t_bagKinds)), (a_t_cells, .inl (cI, 23, .inl t_cells))] sz) := by
  refine kv_metI (y := yX0_playedBits) (ws := wsX0_playedBits) (rm := rmX0_playedBits) (av := [.ref a_t, .int x1, .int x2]) (sz := sz) (w := [(a_t, .inr (0, [.int t_bags, .int d_t_men, .ref a_t_bagKinds, .ref a_t_manKinds, .ref a_t_cells])), (a_t_bagKinds, .inl (cI, 3, .inl t_bagKinds)), (a_t_cells, .inl (cI, 23, .inl t_cells))]) (cc := cX0_playedBits) (maxL := 3) (own := RX0) (post := (fun (r : Int32) (u : Unit) => post r )) (w1 := (fun (u : Unit) => [(a_t, .inr (0, [.int t_bags, .int d_t_men, .ref a_t_bagKinds, .ref a_t_manKinds, .ref a_t_cells])), (a_t_bagKinds, .inl (cI, 3, .inl t_bagKinds)), (a_t_cells, .inl (cI, 23, .inl t_cells))])) (by decide) rfl rfl (Nat.le_of_ble_eq_true rfl) ?_
  intro p e s m below meth c A Q hx hb hml hown hts hK hX hA hP hD hsz hret ls hl
  have hS : va_S A s.heap s.heap [] := va_S.rf
  have hl : lv_has ls 3 [(0, .ref a_t), (1, .int x1), (2, .int x2)] := hl
  refine lv_aload_n hx hb dX0_playedBits_0 rfl (lv_at hl 0 rfl) ?_
  refine lv_iload_n hx hb dX0_playedBits_1 rfl (lv_at hl 1 rfl) ?_
  refine lv_iload_n hx hb dX0_playedBits_2 rfl (lv_at hl 2 rfl) ?_
  refine lv_aload_n hx hb dX0_playedBits_3 rfl (lv_at hl 0 rfl) ?_
  refine lv_iload_n hx hb dX0_playedBits_4 rfl (lv_at hl 1 rfl) ?_
  refine kv_callVi (wr := [(a_t_cells, .inl (cI, 23, .inl t_cells))]) (wn := (fun (u : Unit) => [(a_t, .inr (0, [.int t_bags, .int d_t_men, .ref a_t_bagKinds, .ref a_t_manKinds, .ref a_t_cells])), (a_t_bagKinds, .inl (cI, 3, .inl t_bagKinds)), (a_t_cells, .inl (cI, 23, .inl t_cells))])) (As := [.int x1]) (rest := [.int x2, .int x1, .ref a_t]) ⟨hx, hb, hml, hown, hts⟩ hK hX hA hP hD hS (mtX0_kindOfBag l dC dI cI cZ a_t a_t_bagKinds a_t_manKinds a_t_cells s.heap.size t_bags d_t_men t_bagKinds x1 _ hw) (cwV 1 hts gX0_playedBits_X0_kindOfBag rfl rfl rfl (by decide +kernel) ⟨Nat.le_of_ble_eq_true rfl, Nat.le_of_ble_eq_true rfl⟩) 0 0 rfl rfl rfl [0, 1] [2] [1, 2, 0] rfl rfl rfl rfl (by decide) (fun _ => rfl) rfl rfl hl.1 rfl (Nat.le_of_ble_eq_true rfl) ⟨Nat.zero_le _, Nat.zero_le _⟩ dX0_playedBits_5 (fun r_1 u H locs hw hP hD hS => ?_)
  refine lv_iconst (v := (0 : Int32)) hx hb dX0_playedBits_8 (by decide) ?_
  refine kv_callVi (wr := [(a_t_bagKinds, .inl (cI, 3, .inl t_bagKinds))]) (wn := (fun (u : Unit) => [(a_t, .inr (0, [.int t_bags, .int d_t_men, .ref a_t_bagKinds, .ref a_t_manKinds, .ref a_t_cells])), (a_t_bagKinds, .inl (cI, 3, .inl t_bagKinds)), (a_t_cells, .inl (cI, 23, .inl t_cells))])) (As := [.int x1, .int x2, .int r_1, .int (0 : Int32)]) (rest := []) ⟨hx, hb, hml, hown, hts⟩ hK hX hA hP hD hS (mtX0_playedBitsAs l dC dI cI cZ a_t a_t_bagKinds a_t_manKinds a_t_cells H.size t_bags d_t_men t_cells x1 x2 r_1 (0 : Int32) _ hw) (cwV 4 hts gX0_playedBits_X0_playedBitsAs rfl rfl rfl (by decide +kernel) ⟨Nat.le_of_ble_eq_true rfl, Nat.le_of_ble_eq_true rfl⟩) 0 0 rfl rfl rfl [0, 2] [1] [1, 0, 2] rfl rfl rfl rfl (by decide) (fun _ => rfl) rfl rfl hl.1 rfl (Nat.le_of_ble_eq_true rfl) ⟨Nat.zero_le _, Nat.zero_le _⟩ dX0_playedBits_9 (fun r_2 u H locs hw hP hD hS => ?_)
  exact hret r_2 () H _ _ ls hw hP hD hS dX0_playedBits_12

def wpX0_lay (t_bags : Int32) (t_cells : Nat → Int32) (x1 : Int32) (x2 : Int32) (post : (Nat → Int32) → Prop) : Prop := wpX0_breathsIn t_bags t_cells x2 (fun r_1 => (((9 : Int32) ≤ r_1 → post t_cells) ∧ (¬ (9 : Int32) ≤ r_1 → wpX0_cell t_cells ((20 : Int32) + x2) (fun r_3 => wpX0_setCell t_cells ((20 : Int32) + x2) (r_3 ||| (x1 <<< (((3 : Int32) * r_1) &&& 31))) (fun t_cells_4 => wpX0_setCell t_cells_4 ((17 : Int32) + x2) (r_1 + (1 : Int32)) (fun t_cells_5 => post t_cells_5))))))
abbrev rmX0_lay : Room := { frames := 2, cells := 0, slots := 0, locals := 42 }
set_option maxHeartbeats 4000000 in
set_option maxRecDepth 100000 in
theorem mtX0_lay (l : Launch) (dC : Nat → ClassId) (dI : Nat → Nat → Nat) (cI cZ : ClassId) (a_t : Nat) (a_t_bagKinds : Nat) (a_t_manKinds : Nat) (a_t_cells : Nat) (sz : Nat) (t_bags : Int32) (d_t_men : Int32) (t_cells : Nat → Int32) (x1 : Int32) (x2 : Int32) (post : (Nat → Int32) → Prop) (hw : wpX0_lay t_bags t_cells x1 x2 post) : Met l yX0_lay wsX0_lay rmX0_lay (va_Pc [.ref a_t, .int x1, .int x2] (kvPre (dC, dI) cI cZ sz [(a_t, .inr (0, [.int t_bags, .int d_t_men, .ref a_t_bagKinds, .ref a_t_manKinds, .ref a_t_cells])), (a_t_cells, .inl (cI, 23, .inl t_cells))])) (va_Qv (fun (u : (Nat → Int32)) => post u) (kvB (dC, dI) (va_A [(a_t, .inr (0, [.int t_bags, .int d_t_men, .ref a_t_bagKinds, .ref a_t_manKinds, .ref a_t_cells])), (a_t_cells, .inl (cI, 23, .inl t_cells))] sz) (fun (u : (Nat → Int32)) => [(a_t, .inr (0, [.int t_bags, .int d_t_men, .ref a_t_bagKinds, .ref a_t_manKinds, .ref a_t_cells])), (a_t_cells, .inl (cI, 23, .inl u))])) (va_A [(a_t, .inr (0, [.int t_bags, .int d_t_men, .ref a_t_bagKinds, .ref a_t_manKinds, .ref a_t_cells])), (a_t_cells, .inl (cI, 23, .inl t_cells))] sz)) 0 0 (va_A [(a_t, .inr (0, [.int t_bags, .int d_t_men, .ref a_t_bagKinds, .ref a_t_manKinds, .ref a_t_cells])), (a_t_cells, .inl (cI, 23, .inl t_cells))] sz) := by
  refine kv_metV (y := yX0_lay) (ws := wsX0_lay) (rm := rmX0_lay) (av := [.ref a_t, .int x1, .int x2]) (sz := sz) (w := [(a_t, .inr (0, [.int t_bags, .int d_t_men, .ref a_t_bagKinds, .ref a_t_manKinds, .ref a_t_cells])), (a_t_cells, .inl (cI, 23, .inl t_cells))]) (cc := cX0_lay) (maxL := 4) (own := RX0) (post := (fun (u : (Nat → Int32)) => post u)) (w1 := (fun (u : (Nat → Int32)) => [(a_t, .inr (0, [.int t_bags, .int d_t_men, .ref a_t_bagKinds, .ref a_t_manKinds, .ref a_t_cells])), (a_t_cells, .inl (cI, 23, .inl u))])) (by decide) rfl rfl (Nat.le_of_ble_eq_true rfl) ?_
  intro p e s m below meth c A Q hx hb hml hown hts hK hX hA hP hD hsz hret ls hl
  have hS : va_S A s.heap s.heap [] := va_S.rf
  have hl : lv_has ls 4 [(0, .ref a_t), (1, .int x1), (2, .int x2)] := hl
  refine lv_aload_n hx hb dX0_lay_0 rfl (lv_at hl 0 rfl) ?_
  refine lv_iload_n hx hb dX0_lay_1 rfl (lv_at hl 2 rfl) ?_
  refine kv_callVi (wr := []) (wn := (fun (u : Unit) => [(a_t, .inr (0, [.int t_bags, .int d_t_men, .ref a_t_bagKinds, .ref a_t_manKinds, .ref a_t_cells])), (a_t_cells, .inl (cI, 23, .inl t_cells))])) (As := [.int x2]) (rest := []) ⟨hx, hb, hml, hown, hts⟩ hK hX hA hP hD hS (mtX0_breathsIn l dC dI cI cZ a_t a_t_bagKinds a_t_manKinds a_t_cells s.heap.size t_bags d_t_men t_cells x2 _ hw) (cwV 1 hts gX0_lay_X0_breathsIn rfl rfl rfl (by decide +kernel) ⟨Nat.le_of_ble_eq_true rfl, Nat.le_of_ble_eq_true rfl⟩) 0 0 rfl rfl rfl [0, 1] [] [0, 1] rfl rfl rfl rfl (by decide) (fun _ => rfl) rfl rfl hl.1 rfl (Nat.le_of_ble_eq_true rfl) ⟨Nat.zero_le _, Nat.zero_le _⟩ dX0_lay_2 (fun r_1 u H locs hw hP hD hS => ?_)
  refine lv_istore_n (lv' := [(3, .int r_1), (0, .ref a_t), (1, .int x1), (2, .int x2)]) hx hb dX0_lay_5 rfl hl (by decide) rfl (fun ls hl => ?_)
  refine lv_iload_n hx hb dX0_lay_6 rfl (lv_at hl 0 rfl) ?_
  refine lv_bipush (v := (9 : Int32)) hx hb dX0_lay_7 (by decide) ?_
  refine lv_icmp_ge (tgt := 45) hx hb dX0_lay_9 (by decide) (fun c_2 => ?_) (fun c_2 => ?_)
  · have hw := hw.1 c_2
    exact hret t_cells H _ _ ls hw hP hD hS dX0_lay_45
  · have hw := hw.2 c_2
    refine lv_aload_n hx hb dX0_lay_12 rfl (lv_at hl 1 rfl) ?_
    refine lv_bipush (v := (20 : Int32)) hx hb dX0_lay_13 (by decide) ?_
    refine lv_iload_n hx hb dX0_lay_15 rfl (lv_at hl 3 rfl) ?_
    refine lv_iadd hx hb dX0_lay_16 ?_
    refine lv_aload_n hx hb dX0_lay_17 rfl (lv_at hl 1 rfl) ?_
    refine lv_bipush (v := (20 : Int32)) hx hb dX0_lay_18 (by decide) ?_
    refine lv_iload_n hx hb dX0_lay_20 rfl (lv_at hl 3 rfl) ?_
    refine lv_iadd hx hb dX0_lay_21 ?_
    refine kv_callVi (wr := []) (wn := (fun (u : Unit) => [(a_t, .inr (0, [.int t_bags, .int d_t_men, .ref a_t_bagKinds, .ref a_t_manKinds, .ref a_t_cells])), (a_t_cells, .inl (cI, 23, .inl t_cells))])) (As := [.int ((20 : Int32) + x2)]) (rest := [.int ((20 : Int32) + x2), .ref a_t]) ⟨hx, hb, hml, hown, hts⟩ hK hX hA hP hD hS (mtX0_cell l dC dI cI cZ a_t a_t_bagKinds a_t_manKinds a_t_cells H.size t_bags d_t_men t_cells ((20 : Int32) + x2) _ hw) (cwV 1 hts gX0_lay_X0_cell rfl rfl rfl (by decide +kernel) ⟨Nat.le_of_ble_eq_true rfl, Nat.le_of_ble_eq_true rfl⟩) 0 0 rfl rfl rfl [0, 1] [] [0, 1] rfl rfl rfl rfl (by decide) (fun _ => rfl) rfl rfl hl.1 rfl (Nat.le_of_ble_eq_true rfl) ⟨Nat.zero_le _, Nat.zero_le _⟩ dX0_lay_22 (fun r_3 u H locs hw hP hD hS => ?_)
    refine lv_iload_n hx hb dX0_lay_25 rfl (lv_at hl 2 rfl) ?_
    refine lv_iconst (v := (3 : Int32)) hx hb dX0_lay_26 (by decide) ?_
    refine lv_iload_n hx hb dX0_lay_27 rfl (lv_at hl 0 rfl) ?_
    refine lv_imul hx hb dX0_lay_28 ?_
    refine lv_ishl hx hb dX0_lay_29 ?_
    refine lv_ior hx hb dX0_lay_30 ?_
    refine kv_callVv (wr := []) (wn := (fun (u : (Nat → Int32)) => [(a_t, .inr (0, [.int t_bags, .int d_t_men, .ref a_t_bagKinds, .ref a_t_manKinds, .ref a_t_cells])), (a_t_cells, .inl (cI, 23, .inl u))])) (As := [.int ((20 : Int32) + x2), .int (r_3 ||| (x1 <<< (((3 : Int32) * r_1) &&& 31)))]) (rest := []) ⟨hx, hb, hml, hown, hts⟩ hK hX hA hP hD hS (mtX0_setCell l dC dI cI cZ a_t a_t_bagKinds a_t_manKinds a_t_cells H.size t_bags d_t_men t_cells ((20 : Int32) + x2) (r_3 ||| (x1 <<< (((3 : Int32) * r_1) &&& 31))) _ hw) (cwV 2 hts gX0_lay_X0_setCell rfl rfl rfl (by decide +kernel) ⟨Nat.le_of_ble_eq_true rfl, Nat.le_of_ble_eq_true rfl⟩) 0 0 rfl rfl rfl [0, 1] [] [0, 1] rfl rfl rfl rfl (by decide) (fun _ => rfl) rfl rfl hl.1 rfl (Nat.le_of_ble_eq_true rfl) ⟨Nat.zero_le _, Nat.zero_le _⟩ dX0_lay_31 (fun u H locs hw hP hD hS => ?_)
    obtain ⟨t_cells_4, rfl⟩ : ∃ z, z = u := ⟨_, rfl⟩
    have hP : va_P (dC, dI) vwCl [(a_t, .inr (0, [.int t_bags, .int d_t_men, .ref a_t_bagKinds, .ref a_t_manKinds, .ref a_t_cells])), (a_t_cells, .inl (cI, 23, .inl t_cells_4))] H := hP
    have hD : va_D A [(a_t, .inr (0, [.int t_bags, .int d_t_men, .ref a_t_bagKinds, .ref a_t_manKinds, .ref a_t_cells])), (a_t_cells, .inl (cI, 23, .inl t_cells_4))] := hD
    refine lv_aload_n hx hb dX0_lay_34 rfl (lv_at hl 1 rfl) ?_
    refine lv_bipush (v := (17 : Int32)) hx hb dX0_lay_35 (by decide) ?_
    refine lv_iload_n hx hb dX0_lay_37 rfl (lv_at hl 3 rfl) ?_
    refine lv_iadd hx hb dX0_lay_38 ?_
    refine lv_iload_n hx hb dX0_lay_39 rfl (lv_at hl 0 rfl) ?_
    refine lv_iconst (v := (1 : Int32)) hx hb dX0_lay_40 (by decide) ?_
    refine lv_iadd hx hb dX0_lay_41 ?_
    refine kv_callVv (wr := []) (wn := (fun (u : (Nat → Int32)) => [(a_t, .inr (0, [.int t_bags, .int d_t_men, .ref a_t_bagKinds, .ref a_t_manKinds, .ref a_t_cells])), (a_t_cells, .inl (cI, 23, .inl u))])) (As := [.int ((17 : Int32) + x2), .int (r_1 + (1 : Int32))]) (rest := []) ⟨hx, hb, hml, hown, hts⟩ hK hX hA hP hD hS (mtX0_setCell l dC dI cI cZ a_t a_t_bagKinds a_t_manKinds a_t_cells H.size t_bags d_t_men t_cells_4 ((17 : Int32) + x2) (r_1 + (1 : Int32)) _ hw) (cwV 2 hts gX0_lay_X0_setCell rfl rfl rfl (by decide +kernel) ⟨Nat.le_of_ble_eq_true rfl, Nat.le_of_ble_eq_true rfl⟩) 0 0 rfl rfl rfl [0, 1] [] [0, 1] rfl rfl rfl rfl (by decide) (fun _ => rfl) rfl rfl hl.1 rfl (Nat.le_of_ble_eq_true rfl) ⟨Nat.zero_le _, Nat.zero_le _⟩ dX0_lay_42 (fun u H locs hw hP hD hS => ?_)
    obtain ⟨t_cells_5, rfl⟩ : ∃ z, z = u := ⟨_, rfl⟩
    have hP : va_P (dC, dI) vwCl [(a_t, .inr (0, [.int t_bags, .int d_t_men, .ref a_t_bagKinds, .ref a_t_manKinds, .ref a_t_cells])), (a_t_cells, .inl (cI, 23, .inl t_cells_5))] H := hP
    have hD : va_D A [(a_t, .inr (0, [.int t_bags, .int d_t_men, .ref a_t_bagKinds, .ref a_t_manKinds, .ref a_t_cells])), (a_t_cells, .inl (cI, 23, .inl t_cells_5))] := hD
    exact hret t_cells_5 H _ _ ls hw hP hD hS dX0_lay_45

def wpX0_lift (t_cells : Nat → Int32) (x1 : Int32) (x2 : Int32) (post : (Nat → Int32) → Prop) : Prop := wpX0_cell t_cells ((20 : Int32) + x1) (fun r_1 => ∀ y_2 : Int32, y_2 = (r_1 &&& (((1 : Int32) <<< (((3 : Int32) * x2) &&& 31)) - (1 : Int32))) → ∀ y_3 : Int32, y_3 = ((r_1 >>> (((3 : Int32) * (x2 + (1 : Int32))) &&& 31)) <<< (((3 : Int32) * x2) &&& 31)) → wpX0_setCell t_cells ((20 : Int32) + x1) (y_3 ||| y_2) (fun t_cells_4 => wpX0_addTo t_cells_4 ((17 : Int32) + x1) (-1 : Int32) (fun t_cells_5 => post t_cells_5)))
abbrev rmX0_lift : Room := { frames := 2, cells := 0, slots := 0, locals := 44 }
set_option maxHeartbeats 4000000 in
set_option maxRecDepth 100000 in
theorem mtX0_lift (l : Launch) (dC : Nat → ClassId) (dI : Nat → Nat → Nat) (cI cZ : ClassId) (a_t : Nat) (a_t_bagKinds : Nat) (a_t_manKinds : Nat) (a_t_cells : Nat) (sz : Nat) (d_t_bags : Int32) (d_t_men : Int32) (t_cells : Nat → Int32) (x1 : Int32) (x2 : Int32) (post : (Nat → Int32) → Prop) (hw : wpX0_lift t_cells x1 x2 post) : Met l yX0_lift wsX0_lift rmX0_lift (va_Pc [.ref a_t, .int x1, .int x2] (kvPre (dC, dI) cI cZ sz [(a_t, .inr (0, [.int d_t_bags, .int d_t_men, .ref a_t_bagKinds, .ref a_t_manKinds, .ref a_t_cells])), (a_t_cells, .inl (cI, 23, .inl t_cells))])) (va_Qv (fun (u : (Nat → Int32)) => post u) (kvB (dC, dI) (va_A [(a_t, .inr (0, [.int d_t_bags, .int d_t_men, .ref a_t_bagKinds, .ref a_t_manKinds, .ref a_t_cells])), (a_t_cells, .inl (cI, 23, .inl t_cells))] sz) (fun (u : (Nat → Int32)) => [(a_t, .inr (0, [.int d_t_bags, .int d_t_men, .ref a_t_bagKinds, .ref a_t_manKinds, .ref a_t_cells])), (a_t_cells, .inl (cI, 23, .inl u))])) (va_A [(a_t, .inr (0, [.int d_t_bags, .int d_t_men, .ref a_t_bagKinds, .ref a_t_manKinds, .ref a_t_cells])), (a_t_cells, .inl (cI, 23, .inl t_cells))] sz)) 0 0 (va_A [(a_t, .inr (0, [.int d_t_bags, .int d_t_men, .ref a_t_bagKinds, .ref a_t_manKinds, .ref a_t_cells])), (a_t_cells, .inl (cI, 23, .inl t_cells))] sz) := by
  refine kv_metV (y := yX0_lift) (ws := wsX0_lift) (rm := rmX0_lift) (av := [.ref a_t, .int x1, .int x2]) (sz := sz) (w := [(a_t, .inr (0, [.int d_t_bags, .int d_t_men, .ref a_t_bagKinds, .ref a_t_manKinds, .ref a_t_cells])), (a_t_cells, .inl (cI, 23, .inl t_cells))]) (cc := cX0_lift) (maxL := 6) (own := RX0) (post := (fun (u : (Nat → Int32)) => post u)) (w1 := (fun (u : (Nat → Int32)) => [(a_t, .inr (0, [.int d_t_bags, .int d_t_men, .ref a_t_bagKinds, .ref a_t_manKinds, .ref a_t_cells])), (a_t_cells, .inl (cI, 23, .inl u))])) (by decide) rfl rfl (Nat.le_of_ble_eq_true rfl) ?_
  intro p e s m below meth c A Q hx hb hml hown hts hK hX hA hP hD hsz hret ls hl
  have hS : va_S A s.heap s.heap [] := va_S.rf
  have hl : lv_has ls 6 [(0, .ref a_t), (1, .int x1), (2, .int x2)] := hl
  refine lv_aload_n hx hb dX0_lift_0 rfl (lv_at hl 0 rfl) ?_
  refine lv_bipush (v := (20 : Int32)) hx hb dX0_lift_1 (by decide) ?_
  refine lv_iload_n hx hb dX0_lift_3 rfl (lv_at hl 1 rfl) ?_
  refine lv_iadd hx hb dX0_lift_4 ?_
  refine kv_callVi (wr := []) (wn := (fun (u : Unit) => [(a_t, .inr (0, [.int d_t_bags, .int d_t_men, .ref a_t_bagKinds, .ref a_t_manKinds, .ref a_t_cells])), (a_t_cells, .inl (cI, 23, .inl t_cells))])) (As := [.int ((20 : Int32) + x1)]) (rest := []) ⟨hx, hb, hml, hown, hts⟩ hK hX hA hP hD hS (mtX0_cell l dC dI cI cZ a_t a_t_bagKinds a_t_manKinds a_t_cells s.heap.size d_t_bags d_t_men t_cells ((20 : Int32) + x1) _ hw) (cwV 1 hts gX0_lift_X0_cell rfl rfl rfl (by decide +kernel) ⟨Nat.le_of_ble_eq_true rfl, Nat.le_of_ble_eq_true rfl⟩) 0 0 rfl rfl rfl [0, 1] [] [0, 1] rfl rfl rfl rfl (by decide) (fun _ => rfl) rfl rfl hl.1 rfl (Nat.le_of_ble_eq_true rfl) ⟨Nat.zero_le _, Nat.zero_le _⟩ dX0_lift_5 (fun r_1 u H locs hw hP hD hS => ?_)
  refine lv_istore_n (lv' := [(3, .int r_1), (0, .ref a_t), (1, .int x1), (2, .int x2)]) hx hb dX0_lift_8 rfl hl (by decide) rfl (fun ls hl => ?_)
  refine lv_iload_n hx hb dX0_lift_9 rfl (lv_at hl 0 rfl) ?_
  refine lv_iconst (v := (1 : Int32)) hx hb dX0_lift_10 (by decide) ?_
  refine lv_iconst (v := (3 : Int32)) hx hb dX0_lift_11 (by decide) ?_
  refine lv_iload_n hx hb dX0_lift_12 rfl (lv_at hl 3 rfl) ?_
  refine lv_imul hx hb dX0_lift_13 ?_
  refine lv_ishl hx hb dX0_lift_14 ?_
  refine lv_iconst (v := (1 : Int32)) hx hb dX0_lift_15 (by decide) ?_
  refine lv_isub hx hb dX0_lift_16 ?_
  refine lv_iand hx hb dX0_lift_17 ?_
  refine lv_topi (fun y_2 ey_2 => ?_)
  have hw := hw y_2 ey_2
  refine lv_istore (lv' := [(4, .int y_2), (3, .int r_1), (0, .ref a_t), (1, .int x1), (2, .int x2)]) hx hb dX0_lift_18 hl (by decide) rfl (fun ls hl => ?_)
  refine lv_iload_n hx hb dX0_lift_20 rfl (lv_at hl 1 rfl) ?_
  refine lv_iconst (v := (3 : Int32)) hx hb dX0_lift_21 (by decide) ?_
  refine lv_iload_n hx hb dX0_lift_22 rfl (lv_at hl 4 rfl) ?_
  refine lv_iconst (v := (1 : Int32)) hx hb dX0_lift_23 (by decide) ?_
  refine lv_iadd hx hb dX0_lift_24 ?_
  refine lv_imul hx hb dX0_lift_25 ?_
  refine lv_ishr hx hb dX0_lift_26 ?_
  refine lv_iconst (v := (3 : Int32)) hx hb dX0_lift_27 (by decide) ?_
  refine lv_iload_n hx hb dX0_lift_28 rfl (lv_at hl 4 rfl) ?_
  refine lv_imul hx hb dX0_lift_29 ?_
  refine lv_ishl hx hb dX0_lift_30 ?_
  refine lv_topi (fun y_3 ey_3 => ?_)
  have hw := hw y_3 ey_3
  refine lv_istore (lv' := [(5, .int y_3), (4, .int y_2), (3, .int r_1), (0, .ref a_t), (1, .int x1), (2, .int x2)]) hx hb dX0_lift_31 hl (by decide) rfl (fun ls hl => ?_)
  refine lv_aload_n hx hb dX0_lift_33 rfl (lv_at hl 3 rfl) ?_
  refine lv_bipush (v := (20 : Int32)) hx hb dX0_lift_34 (by decide) ?_
  refine lv_iload_n hx hb dX0_lift_36 rfl (lv_at hl 4 rfl) ?_
  refine lv_iadd hx hb dX0_lift_37 ?_
  refine lv_iload hx hb dX0_lift_38 (lv_at hl 0 rfl) ?_
  refine lv_iload hx hb dX0_lift_40 (lv_at hl 1 rfl) ?_
  refine lv_ior hx hb dX0_lift_42 ?_
  refine kv_callVv (wr := []) (wn := (fun (u : (Nat → Int32)) => [(a_t, .inr (0, [.int d_t_bags, .int d_t_men, .ref a_t_bagKinds, .ref a_t_manKinds, .ref a_t_cells])), (a_t_cells, .inl (cI, 23, .inl u))])) (As := [.int ((20 : Int32) + x1), .int (y_3 ||| y_2)]) (rest := []) ⟨hx, hb, hml, hown, hts⟩ hK hX hA hP hD hS (mtX0_setCell l dC dI cI cZ a_t a_t_bagKinds a_t_manKinds a_t_cells H.size d_t_bags d_t_men t_cells ((20 : Int32) + x1) (y_3 ||| y_2) _ hw) (cwV 2 hts gX0_lift_X0_setCell rfl rfl rfl (by decide +kernel) ⟨Nat.le_of_ble_eq_true rfl, Nat.le_of_ble_eq_true rfl⟩) 0 0 rfl rfl rfl [0, 1] [] [0, 1] rfl rfl rfl rfl (by decide) (fun _ => rfl) rfl rfl hl.1 rfl (Nat.le_of_ble_eq_true rfl) ⟨Nat.zero_le _, Nat.zero_le _⟩ dX0_lift_43 (fun u H locs hw hP hD hS => ?_)
  obtain ⟨t_cells_4, rfl⟩ : ∃ z, z = u := ⟨_, rfl⟩
  have hP : va_P (dC, dI) vwCl [(a_t, .inr (0, [.int d_t_bags, .int d_t_men, .ref a_t_bagKinds, .ref a_t_manKinds, .ref a_t_cells])), (a_t_cells, .inl (cI, 23, .inl t_cells_4))] H := hP
  have hD : va_D A [(a_t, .inr (0, [.int d_t_bags, .int d_t_men, .ref a_t_bagKinds, .ref a_t_manKinds, .ref a_t_cells])), (a_t_cells, .inl (cI, 23, .inl t_cells_4))] := hD
  refine lv_aload_n hx hb dX0_lift_46 rfl (lv_at hl 3 rfl) ?_
  refine lv_bipush (v := (17 : Int32)) hx hb dX0_lift_47 (by decide) ?_
  refine lv_iload_n hx hb dX0_lift_49 rfl (lv_at hl 4 rfl) ?_
  refine lv_iadd hx hb dX0_lift_50 ?_
  refine lv_iconst (v := (-1 : Int32)) hx hb dX0_lift_51 (by decide) ?_
  refine kv_callVv (wr := []) (wn := (fun (u : (Nat → Int32)) => [(a_t, .inr (0, [.int d_t_bags, .int d_t_men, .ref a_t_bagKinds, .ref a_t_manKinds, .ref a_t_cells])), (a_t_cells, .inl (cI, 23, .inl u))])) (As := [.int ((17 : Int32) + x1), .int (-1 : Int32)]) (rest := []) ⟨hx, hb, hml, hown, hts⟩ hK hX hA hP hD hS (mtX0_addTo l dC dI cI cZ a_t a_t_bagKinds a_t_manKinds a_t_cells H.size d_t_bags d_t_men t_cells_4 ((17 : Int32) + x1) (-1 : Int32) _ hw) (cwV 2 hts gX0_lift_X0_addTo rfl rfl rfl (by decide +kernel) ⟨Nat.le_of_ble_eq_true rfl, Nat.le_of_ble_eq_true rfl⟩) 0 0 rfl rfl rfl [0, 1] [] [0, 1] rfl rfl rfl rfl (by decide) (fun _ => rfl) rfl rfl hl.1 rfl (Nat.le_of_ble_eq_true rfl) ⟨Nat.zero_le _, Nat.zero_le _⟩ dX0_lift_52 (fun u H locs hw hP hD hS => ?_)
  obtain ⟨t_cells_5, rfl⟩ : ∃ z, z = u := ⟨_, rfl⟩
  have hP : va_P (dC, dI) vwCl [(a_t, .inr (0, [.int d_t_bags, .int d_t_men, .ref a_t_bagKinds, .ref a_t_manKinds, .ref a_t_cells])), (a_t_cells, .inl (cI, 23, .inl t_cells_5))] H := hP
  have hD : va_D A [(a_t, .inr (0, [.int d_t_bags, .int d_t_men, .ref a_t_bagKinds, .ref a_t_manKinds, .ref a_t_cells])), (a_t_cells, .inl (cI, 23, .inl t_cells_5))] := hD
  exact hret t_cells_5 H _ _ ls hw hP hD hS dX0_lift_55

def wpX0_lose (t_cells : Nat → Int32) (x1 : Int32) (x2 : Int32) (post : (Nat → Int32) → Prop) : Prop := wpX0_owner t_cells x1 x2 (fun r_1 => wpX0_addTo t_cells ((12 : Int32) + r_1) (1 : Int32) (fun t_cells_2 => wpX0_lift t_cells_2 x1 x2 (fun t_cells_3 => post t_cells_3)))
abbrev rmX0_lose : Room := { frames := 3, cells := 0, slots := 0, locals := 69 }
set_option maxHeartbeats 4000000 in
set_option maxRecDepth 100000 in
theorem mtX0_lose (l : Launch) (dC : Nat → ClassId) (dI : Nat → Nat → Nat) (cI cZ : ClassId) (a_t : Nat) (a_t_bagKinds : Nat) (a_t_manKinds : Nat) (a_t_cells : Nat) (sz : Nat) (d_t_bags : Int32) (d_t_men : Int32) (t_cells : Nat → Int32) (x1 : Int32) (x2 : Int32) (post : (Nat → Int32) → Prop) (hw : wpX0_lose t_cells x1 x2 post) : Met l yX0_lose wsX0_lose rmX0_lose (va_Pc [.ref a_t, .int x1, .int x2] (kvPre (dC, dI) cI cZ sz [(a_t, .inr (0, [.int d_t_bags, .int d_t_men, .ref a_t_bagKinds, .ref a_t_manKinds, .ref a_t_cells])), (a_t_cells, .inl (cI, 23, .inl t_cells))])) (va_Qv (fun (u : (Nat → Int32)) => post u) (kvB (dC, dI) (va_A [(a_t, .inr (0, [.int d_t_bags, .int d_t_men, .ref a_t_bagKinds, .ref a_t_manKinds, .ref a_t_cells])), (a_t_cells, .inl (cI, 23, .inl t_cells))] sz) (fun (u : (Nat → Int32)) => [(a_t, .inr (0, [.int d_t_bags, .int d_t_men, .ref a_t_bagKinds, .ref a_t_manKinds, .ref a_t_cells])), (a_t_cells, .inl (cI, 23, .inl u))])) (va_A [(a_t, .inr (0, [.int d_t_bags, .int d_t_men, .ref a_t_bagKinds, .ref a_t_manKinds, .ref a_t_cells])), (a_t_cells, .inl (cI, 23, .inl t_cells))] sz)) 0 0 (va_A [(a_t, .inr (0, [.int d_t_bags, .int d_t_men, .ref a_t_bagKinds, .ref a_t_manKinds, .ref a_t_cells])), (a_t_cells, .inl (cI, 23, .inl t_cells))] sz) := by
  refine kv_metV (y := yX0_lose) (ws := wsX0_lose) (rm := rmX0_lose) (av := [.ref a_t, .int x1, .int x2]) (sz := sz) (w := [(a_t, .inr (0, [.int d_t_bags, .int d_t_men, .ref a_t_bagKinds, .ref a_t_manKinds, .ref a_t_cells])), (a_t_cells, .inl (cI, 23, .inl t_cells))]) (cc := cX0_lose) (maxL := 3) (own := RX0) (post := (fun (u : (Nat → Int32)) => post u)) (w1 := (fun (u : (Nat → Int32)) => [(a_t, .inr (0, [.int d_t_bags, .int d_t_men, .ref a_t_bagKinds, .ref a_t_manKinds, .ref a_t_cells])), (a_t_cells, .inl (cI, 23, .inl u))])) (by decide) rfl rfl (Nat.le_of_ble_eq_true rfl) ?_
  intro p e s m below meth c A Q hx hb hml hown hts hK hX hA hP hD hsz hret ls hl
  have hS : va_S A s.heap s.heap [] := va_S.rf
  have hl : lv_has ls 3 [(0, .ref a_t), (1, .int x1), (2, .int x2)] := hl
  refine lv_aload_n hx hb dX0_lose_0 rfl (lv_at hl 0 rfl) ?_
  refine lv_bipush (v := (12 : Int32)) hx hb dX0_lose_1 (by decide) ?_
  refine lv_aload_n hx hb dX0_lose_3 rfl (lv_at hl 0 rfl) ?_
  refine lv_iload_n hx hb dX0_lose_4 rfl (lv_at hl 1 rfl) ?_
  refine lv_iload_n hx hb dX0_lose_5 rfl (lv_at hl 2 rfl) ?_
  refine kv_callVi (wr := []) (wn := (fun (u : Unit) => [(a_t, .inr (0, [.int d_t_bags, .int d_t_men, .ref a_t_bagKinds, .ref a_t_manKinds, .ref a_t_cells])), (a_t_cells, .inl (cI, 23, .inl t_cells))])) (As := [.int x1, .int x2]) (rest := [.int (12 : Int32), .ref a_t]) ⟨hx, hb, hml, hown, hts⟩ hK hX hA hP hD hS (mtX0_owner l dC dI cI cZ a_t a_t_bagKinds a_t_manKinds a_t_cells s.heap.size d_t_bags d_t_men t_cells x1 x2 _ hw) (cwV 2 hts gX0_lose_X0_owner rfl rfl rfl (by decide +kernel) ⟨Nat.le_of_ble_eq_true rfl, Nat.le_of_ble_eq_true rfl⟩) 0 0 rfl rfl rfl [0, 1] [] [0, 1] rfl rfl rfl rfl (by decide) (fun _ => rfl) rfl rfl hl.1 rfl (Nat.le_of_ble_eq_true rfl) ⟨Nat.zero_le _, Nat.zero_le _⟩ dX0_lose_6 (fun r_1 u H locs hw hP hD hS => ?_)
  refine lv_iadd hx hb dX0_lose_9 ?_
  refine lv_iconst (v := (1 : Int32)) hx hb dX0_lose_10 (by decide) ?_
  refine kv_callVv (wr := []) (wn := (fun (u : (Nat → Int32)) => [(a_t, .inr (0, [.int d_t_bags, .int d_t_men, .ref a_t_bagKinds, .ref a_t_manKinds, .ref a_t_cells])), (a_t_cells, .inl (cI, 23, .inl u))])) (As := [.int ((12 : Int32) + r_1), .int (1 : Int32)]) (rest := []) ⟨hx, hb, hml, hown, hts⟩ hK hX hA hP hD hS (mtX0_addTo l dC dI cI cZ a_t a_t_bagKinds a_t_manKinds a_t_cells H.size d_t_bags d_t_men t_cells ((12 : Int32) + r_1) (1 : Int32) _ hw) (cwV 2 hts gX0_lose_X0_addTo rfl rfl rfl (by decide +kernel) ⟨Nat.le_of_ble_eq_true rfl, Nat.le_of_ble_eq_true rfl⟩) 0 0 rfl rfl rfl [0, 1] [] [0, 1] rfl rfl rfl rfl (by decide) (fun _ => rfl) rfl rfl hl.1 rfl (Nat.le_of_ble_eq_true rfl) ⟨Nat.zero_le _, Nat.zero_le _⟩ dX0_lose_11 (fun u H locs hw hP hD hS => ?_)
  obtain ⟨t_cells_2, rfl⟩ : ∃ z, z = u := ⟨_, rfl⟩
  have hP : va_P (dC, dI) vwCl [(a_t, .inr (0, [.int d_t_bags, .int d_t_men, .ref a_t_bagKinds, .ref a_t_manKinds, .ref a_t_cells])), (a_t_cells, .inl (cI, 23, .inl t_cells_2))] H := hP
  have hD : va_D A [(a_t, .inr (0, [.int d_t_bags, .int d_t_men, .ref a_t_bagKinds, .ref a_t_manKinds, .ref a_t_cells])), (a_t_cells, .inl (cI, 23, .inl t_cells_2))] := hD
  refine lv_aload_n hx hb dX0_lose_14 rfl (lv_at hl 0 rfl) ?_
  refine lv_iload_n hx hb dX0_lose_15 rfl (lv_at hl 1 rfl) ?_
  refine lv_iload_n hx hb dX0_lose_16 rfl (lv_at hl 2 rfl) ?_
  refine kv_callVv (wr := []) (wn := (fun (u : (Nat → Int32)) => [(a_t, .inr (0, [.int d_t_bags, .int d_t_men, .ref a_t_bagKinds, .ref a_t_manKinds, .ref a_t_cells])), (a_t_cells, .inl (cI, 23, .inl u))])) (As := [.int x1, .int x2]) (rest := []) ⟨hx, hb, hml, hown, hts⟩ hK hX hA hP hD hS (mtX0_lift l dC dI cI cZ a_t a_t_bagKinds a_t_manKinds a_t_cells H.size d_t_bags d_t_men t_cells_2 x1 x2 _ hw) (cwV 2 hts gX0_lose_X0_lift rfl rfl rfl (by decide +kernel) ⟨Nat.le_of_ble_eq_true rfl, Nat.le_of_ble_eq_true rfl⟩) 0 0 rfl rfl rfl [0, 1] [] [0, 1] rfl rfl rfl rfl (by decide) (fun _ => rfl) rfl rfl hl.1 rfl (Nat.le_of_ble_eq_true rfl) ⟨Nat.zero_le _, Nat.zero_le _⟩ dX0_lose_17 (fun u H locs hw hP hD hS => ?_)
  obtain ⟨t_cells_3, rfl⟩ : ∃ z, z = u := ⟨_, rfl⟩
  have hP : va_P (dC, dI) vwCl [(a_t, .inr (0, [.int d_t_bags, .int d_t_men, .ref a_t_bagKinds, .ref a_t_manKinds, .ref a_t_cells])), (a_t_cells, .inl (cI, 23, .inl t_cells_3))] H := hP
  have hD : va_D A [(a_t, .inr (0, [.int d_t_bags, .int d_t_men, .ref a_t_bagKinds, .ref a_t_manKinds, .ref a_t_cells])), (a_t_cells, .inl (cI, 23, .inl t_cells_3))] := hD
  exact hret t_cells_3 H _ _ ls hw hP hD hS dX0_lose_20

def wpX0_giveBreath (t_bags : Int32) (t_men : Int32) (t_cells : Nat → Int32) (x1 : Int32) (x2 : Int32) (post : Int32 → (Nat → Int32) → Prop) : Prop := wpX0_isMan t_men x1 (fun r_1 => ((r_1 = 0 → post (-1 : Int32) t_cells) ∧ (¬ r_1 = 0 → wpX0_isBag t_bags x2 (fun r_3 => ((¬ r_3 = 0 → wpX0_hasFallen t_cells x1 (fun r_5 => ((¬ r_5 = 0 → post (-3 : Int32) t_cells) ∧ (r_5 = 0 → wpX0_ofMan t_men t_cells (2 : Int32) x1 (fun r_7 => ((¬ r_7 = 0 → wpX0_breathsIn t_bags t_cells x2 (fun r_9 => ((r_9 < (9 : Int32) → wpX0_addTo t_cells ((2 : Int32) + x1) (-1 : Int32) (fun t_cells_11 => wpX0_lay t_bags t_cells_11 x1 x2 (fun t_cells_12 => wpX0_breathsIn t_bags t_cells_12 x2 (fun r_13 => post r_13 t_cells_12)))) ∧ (¬ r_9 < (9 : Int32) → post (-4 : Int32) t_cells)))) ∧ (r_7 = 0 → post (-3 : Int32) t_cells))))))) ∧ (r_3 = 0 → post (-1 : Int32) t_cells))))))
abbrev rmX0_giveBreath : Room := { frames := 3, cells := 0, slots := 0, locals := 65 }
set_option maxHeartbeats 4000000 in
set_option maxRecDepth 100000 in
theorem mtX0_giveBreath (l : Launch) (dC : Nat → ClassId) (dI : Nat → Nat → Nat) (cI cZ : ClassId) (a_t : Nat) (a_t_bagKinds : Nat) (a_t_manKinds : Nat) (a_t_cells : Nat) (sz : Nat) (t_bags : Int32) (t_men : Int32) (t_cells : Nat → Int32) (x1 : Int32) (x2 : Int32) (post : Int32 → (Nat → Int32) → Prop) (hw : wpX0_giveBreath t_bags t_men t_cells x1 x2 post) : Met l yX0_giveBreath wsX0_giveBreath rmX0_giveBreath (va_Pc [.ref a_t, .int x1, .int x2] (kvPre (dC, dI) cI cZ sz [(a_t, .inr (0, [.int t_bags, .int t_men, .ref a_t_bagKinds, .ref a_t_manKinds, .ref a_t_cells])), (a_t_cells, .inl (cI, 23, .inl t_cells))])) (va_Qi (fun (r : Int32) (u : (Nat → Int32)) => post r u) (kvB (dC, dI) (va_A [(a_t, .inr (0, [.int t_bags, .int t_men, .ref a_t_bagKinds, .ref a_t_manKinds, .ref a_t_cells])), (a_t_cells, .inl (cI, 23, .inl t_cells))] sz) (fun (u : (Nat → Int32)) => [(a_t, .inr (0, [.int t_bags, .int t_men, .ref a_t_bagKinds, .ref a_t_manKinds, .ref a_t_cells])), (a_t_cells, .inl (cI, 23, .inl u))])) (va_A [(a_t, .inr (0, [.int t_bags, .int t_men, .ref a_t_bagKinds, .ref a_t_manKinds, .ref a_t_cells])), (a_t_cells, .inl (cI, 23, .inl t_cells))] sz)) 0 0 (va_A [(a_t, .inr (0, [.int t_bags, .int t_men, .ref a_t_bagKinds, .ref a_t_manKinds, .ref a_t_cells])), (a_t_cells, .inl (cI, 23, .inl t_cells))] sz) := by
  refine kv_metI (y := yX0_giveBreath) (ws := wsX0_giveBreath) (rm := rmX0_giveBreath) (av := [.ref a_t, .int x1, .int x2]) (sz := sz) (w := [(a_t, .inr (0, [.int t_bags, .int t_men, .ref a_t_bagKinds, .ref a_t_manKinds, .ref a_t_cells])), (a_t_cells, .inl (cI, 23, .inl t_cells))]) (cc := cX0_giveBreath) (maxL := 3) (own := RX0) (post := (fun (r : Int32) (u : (Nat → Int32)) => post r u)) (w1 := (fun (u : (Nat → Int32)) => [(a_t, .inr (0, [.int t_bags, .int t_men, .ref a_t_bagKinds, .ref a_t_manKinds, .ref a_t_cells])), (a_t_cells, .inl (cI, 23, .inl u))])) (by decide) rfl rfl (Nat.le_of_ble_eq_true rfl) ?_
  intro p e s m below meth c A Q hx hb hml hown hts hK hX hA hP hD hsz hret ls hl
  have hS : va_S A s.heap s.heap [] := va_S.rf
  have hl : lv_has ls 3 [(0, .ref a_t), (1, .int x1), (2, .int x2)] := hl
  refine lv_aload_n hx hb dX0_giveBreath_0 rfl (lv_at hl 0 rfl) ?_
  refine lv_iload_n hx hb dX0_giveBreath_1 rfl (lv_at hl 1 rfl) ?_
  refine kv_callVi (wr := [(a_t_cells, .inl (cI, 23, .inl t_cells))]) (wn := (fun (u : Unit) => [(a_t, .inr (0, [.int t_bags, .int t_men, .ref a_t_bagKinds, .ref a_t_manKinds, .ref a_t_cells])), (a_t_cells, .inl (cI, 23, .inl t_cells))])) (As := [.int x1]) (rest := []) ⟨hx, hb, hml, hown, hts⟩ hK hX hA hP hD hS (mtX0_isMan l dC dI cI cZ a_t a_t_bagKinds a_t_manKinds a_t_cells s.heap.size t_bags t_men x1 _ hw) (cwV 1 hts gX0_giveBreath_X0_isMan rfl rfl rfl (by decide +kernel) ⟨Nat.le_of_ble_eq_true rfl, Nat.le_of_ble_eq_true rfl⟩) 0 0 rfl rfl rfl [0] [1] [1, 0] rfl rfl rfl rfl (by decide) (fun _ => rfl) rfl rfl hl.1 rfl (Nat.le_of_ble_eq_true rfl) ⟨Nat.zero_le _, Nat.zero_le _⟩ dX0_giveBreath_2 (fun r_1 u H locs hw hP hD hS => ?_)
  obtain ⟨hb_r_1, hw⟩ := hw
  refine lv_if_eq (tgt := 16) hx hb dX0_giveBreath_5 (by decide) (fun c_2 => ?_) (fun c_2 => ?_)
  · have hw := hw.1 c_2
    refine lv_iconst (v := (-1 : Int32)) hx hb dX0_giveBreath_16 (by decide) ?_
    exact hret (-1 : Int32) t_cells H _ _ ls hw hP hD hS dX0_giveBreath_17
  · have hw := hw.2 c_2
    refine lv_aload_n hx hb dX0_giveBreath_8 rfl (lv_at hl 0 rfl) ?_
    refine lv_iload_n hx hb dX0_giveBreath_9 rfl (lv_at hl 2 rfl) ?_
    refine kv_callVi (wr := [(a_t_cells, .inl (cI, 23, .inl t_cells))]) (wn := (fun (u : Unit) => [(a_t, .inr (0, [.int t_bags, .int t_men, .ref a_t_bagKinds, .ref a_t_manKinds, .ref a_t_cells])), (a_t_cells, .inl (cI, 23, .inl t_cells))])) (As := [.int x2]) (rest := []) ⟨hx, hb, hml, hown, hts⟩ hK hX hA hP hD hS (mtX0_isBag l dC dI cI cZ a_t a_t_bagKinds a_t_manKinds a_t_cells H.size t_bags t_men x2 _ hw) (cwV 1 hts gX0_giveBreath_X0_isBag rfl rfl rfl (by decide +kernel) ⟨Nat.le_of_ble_eq_true rfl, Nat.le_of_ble_eq_true rfl⟩) 0 0 rfl rfl rfl [0] [1] [1, 0] rfl rfl rfl rfl (by decide) (fun _ => rfl) rfl rfl hl.1 rfl (Nat.le_of_ble_eq_true rfl) ⟨Nat.zero_le _, Nat.zero_le _⟩ dX0_giveBreath_10 (fun r_3 u H locs hw hP hD hS => ?_)
    obtain ⟨hb_r_3, hw⟩ := hw
    refine lv_if_ne (tgt := 18) hx hb dX0_giveBreath_13 (by decide) (fun c_4 => ?_) (fun c_4 => ?_)
    · have hw := hw.1 c_4
      refine lv_aload_n hx hb dX0_giveBreath_18 rfl (lv_at hl 0 rfl) ?_
      refine lv_iload_n hx hb dX0_giveBreath_19 rfl (lv_at hl 1 rfl) ?_
      refine kv_callVi (wr := []) (wn := (fun (u : Unit) => [(a_t, .inr (0, [.int t_bags, .int t_men, .ref a_t_bagKinds, .ref a_t_manKinds, .ref a_t_cells])), (a_t_cells, .inl (cI, 23, .inl t_cells))])) (As := [.int x1]) (rest := []) ⟨hx, hb, hml, hown, hts⟩ hK hX hA hP hD hS (mtX0_hasFallen l dC dI cI cZ a_t a_t_bagKinds a_t_manKinds a_t_cells H.size t_bags t_men t_cells x1 _ hw) (cwV 1 hts gX0_giveBreath_X0_hasFallen rfl rfl rfl (by decide +kernel) ⟨Nat.le_of_ble_eq_true rfl, Nat.le_of_ble_eq_true rfl⟩) 0 0 rfl rfl rfl [0, 1] [] [0, 1] rfl rfl rfl rfl (by decide) (fun _ => rfl) rfl rfl hl.1 rfl (Nat.le_of_ble_eq_true rfl) ⟨Nat.zero_le _, Nat.zero_le _⟩ dX0_giveBreath_20 (fun r_5 u H locs hw hP hD hS => ?_)
      obtain ⟨hb_r_5, hw⟩ := hw
      refine lv_if_ne (tgt := 35) hx hb dX0_giveBreath_23 (by decide) (fun c_6 => ?_) (fun c_6 => ?_)
      · have hw := hw.1 c_6
        refine lv_bipush (v := (-3 : Int32)) hx hb dX0_giveBreath_35 (by decide) ?_
        exact hret (-3 : Int32) t_cells H _ _ ls hw hP hD hS dX0_giveBreath_37
      · have hw := hw.2 c_6
        refine lv_aload_n hx hb dX0_giveBreath_26 rfl (lv_at hl 0 rfl) ?_
        refine lv_iconst (v := (2 : Int32)) hx hb dX0_giveBreath_27 (by decide) ?_
        refine lv_iload_n hx hb dX0_giveBreath_28 rfl (lv_at hl 1 rfl) ?_
        refine kv_callVi (wr := []) (wn := (fun (u : Unit) => [(a_t, .inr (0, [.int t_bags, .int t_men, .ref a_t_bagKinds, .ref a_t_manKinds, .ref a_t_cells])), (a_t_cells, .inl (cI, 23, .inl t_cells))])) (As := [.int (2 : Int32), .int x1]) (rest := []) ⟨hx, hb, hml, hown, hts⟩ hK hX hA hP hD hS (mtX0_ofMan l dC dI cI cZ a_t a_t_bagKinds a_t_manKinds a_t_cells H.size t_bags t_men t_cells (2 : Int32) x1 _ hw) (cwV 2 hts gX0_giveBreath_X0_ofMan rfl rfl rfl (by decide +kernel) ⟨Nat.le_of_ble_eq_true rfl, Nat.le_of_ble_eq_true rfl⟩) 0 0 rfl rfl rfl [0, 1] [] [0, 1] rfl rfl rfl rfl (by decide) (fun _ => rfl) rfl rfl hl.1 rfl (Nat.le_of_ble_eq_true rfl) ⟨Nat.zero_le _, Nat.zero_le _⟩ dX0_giveBreath_29 (fun r_7 u H locs hw hP hD hS => ?_)
        refine lv_if_ne (tgt := 38) hx hb dX0_giveBreath_32 (by decide) (fun c_8 => ?_) (fun c_8 => ?_)
        · have hw := hw.1 c_8
          refine lv_aload_n hx hb dX0_giveBreath_38 rfl (lv_at hl 0 rfl) ?_
          refine lv_iload_n hx hb dX0_giveBreath_39 rfl (lv_at hl 2 rfl) ?_
          refine kv_callVi (wr := []) (wn := (fun (u : Unit) => [(a_t, .inr (0, [.int t_bags, .int t_men, .ref a_t_bagKinds, .ref a_t_manKinds, .ref a_t_cells])), (a_t_cells, .inl (cI, 23, .inl t_cells))])) (As := [.int x2]) (rest := []) ⟨hx, hb, hml, hown, hts⟩ hK hX hA hP hD hS (mtX0_breathsIn l dC dI cI cZ a_t a_t_bagKinds a_t_manKinds a_t_cells H.size t_bags t_men t_cells x2 _ hw) (cwV 1 hts gX0_giveBreath_X0_breathsIn rfl rfl rfl (by decide +kernel) ⟨Nat.le_of_ble_eq_true rfl, Nat.le_of_ble_eq_true rfl⟩) 0 0 rfl rfl rfl [0, 1] [] [0, 1] rfl rfl rfl rfl (by decide) (fun _ => rfl) rfl rfl hl.1 rfl (Nat.le_of_ble_eq_true rfl) ⟨Nat.zero_le _, Nat.zero_le _⟩ dX0_giveBreath_40 (fun r_9 u H locs hw hP hD hS => ?_)
          refine lv_bipush (v := (9 : Int32)) hx hb dX0_giveBreath_43 (by decide) ?_
          refine lv_icmp_lt (tgt := 51) hx hb dX0_giveBreath_45 (by decide) (fun c_10 => ?_) (fun c_10 => ?_)
          · have hw := hw.1 c_10
            refine lv_aload_n hx hb dX0_giveBreath_51 rfl (lv_at hl 0 rfl) ?_
            refine lv_iconst (v := (2 : Int32)) hx hb dX0_giveBreath_52 (by decide) ?_
            refine lv_iload_n hx hb dX0_giveBreath_53 rfl (lv_at hl 1 rfl) ?_
            refine lv_iadd hx hb dX0_giveBreath_54 ?_
            refine lv_iconst (v := (-1 : Int32)) hx hb dX0_giveBreath_55 (by decide) ?_
            refine kv_callVv (wr := []) (wn := (fun (u : (Nat → Int32)) => [(a_t, .inr (0, [.int t_bags, .int t_men, .ref a_t_bagKinds, .ref a_t_manKinds, .ref a_t_cells])), (a_t_cells, .inl (cI, 23, .inl u))])) (As := [.int ((2 : Int32) + x1), .int (-1 : Int32)]) (rest := []) ⟨hx, hb, hml, hown, hts⟩ hK hX hA hP hD hS (mtX0_addTo l dC dI cI cZ a_t a_t_bagKinds a_t_manKinds a_t_cells H.size t_bags t_men t_cells ((2 : Int32) + x1) (-1 : Int32) _ hw) (cwV 2 hts gX0_giveBreath_X0_addTo rfl rfl rfl (by decide +kernel) ⟨Nat.le_of_ble_eq_true rfl, Nat.le_of_ble_eq_true rfl⟩) 0 0 rfl rfl rfl [0, 1] [] [0, 1] rfl rfl rfl rfl (by decide) (fun _ => rfl) rfl rfl hl.1 rfl (Nat.le_of_ble_eq_true rfl) ⟨Nat.zero_le _, Nat.zero_le _⟩ dX0_giveBreath_56 (fun u H locs hw hP hD hS => ?_)
            obtain ⟨t_cells_11, rfl⟩ : ∃ z, z = u := ⟨_, rfl⟩
            have hP : va_P (dC, dI) vwCl [(a_t, .inr (0, [.int t_bags, .int t_men, .ref a_t_bagKinds, .ref a_t_manKinds, .ref a_t_cells])), (a_t_cells, .inl (cI, 23, .inl t_cells_11))] H := hP
            have hD : va_D A [(a_t, .inr (0, [.int t_bags, .int t_men, .ref a_t_bagKinds, .ref a_t_manKinds, .ref a_t_cells])), (a_t_cells, .inl (cI, 23, .inl t_cells_11))] := hD
            refine lv_aload_n hx hb dX0_giveBreath_59 rfl (lv_at hl 0 rfl) ?_
            refine lv_iload_n hx hb dX0_giveBreath_60 rfl (lv_at hl 1 rfl) ?_
            refine lv_iload_n hx hb dX0_giveBreath_61 rfl (lv_at hl 2 rfl) ?_
            refine kv_callVv (wr := []) (wn := (fun (u : (Nat → Int32)) => [(a_t, .inr (0, [.int t_bags, .int t_men, .ref a_t_bagKinds, .ref a_t_manKinds, .ref a_t_cells])), (a_t_cells, .inl (cI, 23, .inl u))])) (As := [.int x1, .int x2]) (rest := []) ⟨hx, hb, hml, hown, hts⟩ hK hX hA hP hD hS (mtX0_lay l dC dI cI cZ a_t a_t_bagKinds a_t_manKinds a_t_cells H.size t_bags t_men t_cells_11 x1 x2 _ hw) (cwV 2 hts gX0_giveBreath_X0_lay rfl rfl rfl (by decide +kernel) ⟨Nat.le_of_ble_eq_true rfl, Nat.le_of_ble_eq_true rfl⟩) 0 0 rfl rfl rfl [0, 1] [] [0, 1] rfl rfl rfl rfl (by decide) (fun _ => rfl) rfl rfl hl.1 rfl (Nat.le_of_ble_eq_true rfl) ⟨Nat.zero_le _, Nat.zero_le _⟩ dX0_giveBreath_62 (fun u H locs hw hP hD hS => ?_)
            obtain ⟨t_cells_12, rfl⟩ : ∃ z, z = u := ⟨_, rfl⟩
            have hP : va_P (dC, dI) vwCl [(a_t, .inr (0, [.int t_bags, .int t_men, .ref a_t_bagKinds, .ref a_t_manKinds, .ref a_t_cells])), (a_t_cells, .inl (cI, 23, .inl t_cells_12))] H := hP
            have hD : va_D A [(a_t, .inr (0, [.int t_bags, .int t_men, .ref a_t_bagKinds, .ref a_t_manKinds, .ref a_t_cells])), (a_t_cells, .inl (cI, 23, .inl t_cells_12))] := hD
            refine lv_aload_n hx hb dX0_giveBreath_65 rfl (lv_at hl 0 rfl) ?_
            refine lv_iload_n hx hb dX0_giveBreath_66 rfl (lv_at hl 2 rfl) ?_
            refine kv_callVi (wr := []) (wn := (fun (u : Unit) => [(a_t, .inr (0, [.int t_bags, .int t_men, .ref a_t_bagKinds, .ref a_t_manKinds, .ref a_t_cells])), (a_t_cells, .inl (cI, 23, .inl t_cells_12))])) (As := [.int x2]) (rest := []) ⟨hx, hb, hml, hown, hts⟩ hK hX hA hP hD hS (mtX0_breathsIn l dC dI cI cZ a_t a_t_bagKinds a_t_manKinds a_t_cells H.size t_bags t_men t_cells_12 x2 _ hw) (cwV 1 hts gX0_giveBreath_X0_breathsIn rfl rfl rfl (by decide +kernel) ⟨Nat.le_of_ble_eq_true rfl, Nat.le_of_ble_eq_true rfl⟩) 0 0 rfl rfl rfl [0, 1] [] [0, 1] rfl rfl rfl rfl (by decide) (fun _ => rfl) rfl rfl hl.1 rfl (Nat.le_of_ble_eq_true rfl) ⟨Nat.zero_le _, Nat.zero_le _⟩ dX0_giveBreath_67 (fun r_13 u H locs hw hP hD hS => ?_)
            exact hret r_13 t_cells_12 H _ _ ls hw hP hD hS dX0_giveBreath_70
          · have hw := hw.2 c_10
            refine lv_bipush (v := (-4 : Int32)) hx hb dX0_giveBreath_48 (by decide) ?_
            exact hret (-4 : Int32) t_cells H _ _ ls hw hP hD hS dX0_giveBreath_50
        · have hw := hw.2 c_8
          refine lv_bipush (v := (-3 : Int32)) hx hb dX0_giveBreath_35 (by decide) ?_
          exact hret (-3 : Int32) t_cells H _ _ ls hw hP hD hS dX0_giveBreath_37
    · have hw := hw.2 c_4
      refine lv_iconst (v := (-1 : Int32)) hx hb dX0_giveBreath_16 (by decide) ?_
      exact hret (-1 : Int32) t_cells H _ _ ls hw hP hD hS dX0_giveBreath_17

def wpX0_playBreaths_J60 (t_bags : Int32) (t_bagKinds : Nat → Int32) (x1 : Int32) (x2 : Int32) (post : Int32 → (Nat → Int32) → Prop) (t_cells_60 : Nat → Int32) : Prop := wpX0_breathsIn t_bags t_cells_60 x1 (fun r_1 => post r_1 t_cells_60)
def wpX0_playBreaths_L38 (t_bags : Int32) (t_bagKinds : Nat → Int32) (x1 : Int32) (x2 : Int32) (kJ60 : (Nat → Int32) → Prop) (post : Int32 → (Nat → Int32) → Prop) : Nat → (Nat → Int32) → Int32 → Prop
  | 0, _, _ => False
  | n + 1, t_cells_38, x3_38 => ((x2 ≤ x3_38 → kJ60 t_cells_38) ∧ (¬ x2 ≤ x3_38 → wpX0_placePlayed t_bags t_bagKinds t_cells_38 x1 (0 : Int32) (fun r_3 => wpX0_lose t_cells_38 x1 r_3 (fun t_cells_4 => ∀ y_5 : Int32, y_5 = (x3_38 + (1 : Int32)) → wpX0_playBreaths_L38 t_bags t_bagKinds x1 x2 kJ60 post n t_cells_4 y_5))))
def wpX0_playBreaths_E38 (t_bags : Int32) (t_bagKinds : Nat → Int32) (x1 : Int32) (x2 : Int32) (post : Int32 → (Nat → Int32) → Prop) (t_cells_38 : Nat → Int32) (x3_38 : Int32) : Prop := ∃ n : Nat, wpX0_playBreaths_L38 t_bags t_bagKinds x1 x2 (wpX0_playBreaths_J60 t_bags t_bagKinds x1 x2 post) post n t_cells_38 x3_38
def wpX0_playBreaths (t_bags : Int32) (t_bagKinds : Nat → Int32) (t_cells : Nat → Int32) (x1 : Int32) (x2 : Int32) (post : Int32 → (Nat → Int32) → Prop) : Prop := wpX0_isBag t_bags x1 (fun r_6 => ((¬ r_6 = 0 → ((x2 < (1 : Int32) → post (-2 : Int32) t_cells) ∧ (¬ x2 < (1 : Int32) → ((x2 ≤ (9 : Int32) → wpX0_breathsIn t_bags t_cells x1 (fun r_10 => ((x2 ≤ r_10 → wpX0_playBreaths_E38 t_bags t_bagKinds x1 x2 post t_cells (0 : Int32)) ∧ (¬ x2 ≤ r_10 → post (-3 : Int32) t_cells)))) ∧ (¬ x2 ≤ (9 : Int32) → post (-2 : Int32) t_cells))))) ∧ (r_6 = 0 → post (-1 : Int32) t_cells)))
abbrev rmX0_playBreaths : Room := { frames := 4, cells := 0, slots := 0, locals := 91 }
set_option maxHeartbeats 4000000 in
set_option maxRecDepth 100000 in
theorem mtX0_playBreaths (l : Launch) (dC : Nat → ClassId) (dI : Nat → Nat → Nat) (cI cZ : ClassId) (a_t : Nat) (a_t_bagKinds : Nat) (a_t_manKinds : Nat) (a_t_cells : Nat) (sz : Nat) (t_bags : Int32) (d_t_men : Int32) (t_bagKinds : Nat → Int32) (t_cells : Nat → Int32) (x1 : Int32) (x2 : Int32) (post : Int32 → (Nat → Int32) → Prop) (hw : wpX0_playBreaths t_bags t_bagKinds t_cells x1 x2 post) : Met l yX0_playBreaths wsX0_playBreaths rmX0_playBreaths (va_Pc [.ref a_t, .int x1, .int x2] (kvPre (dC, dI) cI cZ sz [(a_t, .inr (0, [.int t_bags, .int d_t_men, .ref a_t_bagKinds, .ref a_t_manKinds, .ref a_t_cells])), (a_t_bagKinds, .inl (cI, 3, .inl t_bagKinds)), (a_t_cells, .inl (cI, 23, .inl t_cells))])) (va_Qi (fun (r : Int32) (u : (Nat → Int32)) => post r u) (kvB (dC, dI) (va_A [(a_t, .inr (0, [.int t_bags, .int d_t_men, .ref a_t_bagKinds, .ref a_t_manKinds, .ref a_t_cells])), (a_t_bagKinds, .inl (cI, 3, .inl t_bagKinds)), (a_t_cells, .inl (cI, 23, .inl t_cells))] sz) (fun (u : (Nat → Int32)) => [(a_t, .inr (0, [.int t_bags, .int d_t_men, .ref a_t_bagKinds, .ref a_t_manKinds, .ref a_t_cells])), (a_t_bagKinds, .inl (cI, 3, .inl t_bagKinds)), (a_t_cells, .inl (cI, 23, .inl u))])) (va_A [(a_t, .inr (0, [.int t_bags, .int d_t_men, .ref a_t_bagKinds, .ref a_t_manKinds, .ref a_t_cells])), (a_t_bagKinds, .inl (cI, 3, .inl t_bagKinds)), (a_t_cells, .inl (cI, 23, .inl t_cells))] sz)) 0 0 (va_A [(a_t, .inr (0, [.int t_bags, .int d_t_men, .ref a_t_bagKinds, .ref a_t_manKinds, .ref a_t_cells])), (a_t_bagKinds, .inl (cI, 3, .inl t_bagKinds)), (a_t_cells, .inl (cI, 23, .inl t_cells))] sz) := by
  refine kv_metI (y := yX0_playBreaths) (ws := wsX0_playBreaths) (rm := rmX0_playBreaths) (av := [.ref a_t, .int x1, .int x2]) (sz := sz) (w := [(a_t, .inr (0, [.int t_bags, .int d_t_men, .ref a_t_bagKinds, .ref a_t_manKinds, .ref a_t_cells])), (a_t_bagKinds, .inl (cI, 3, .inl t_bagKinds)), (a_t_cells, .inl (cI, 23, .inl t_cells))]) (cc := cX0_playBreaths) (maxL := 4) (own := RX0) (post := (fun (r : Int32) (u : (Nat → Int32)) => post r u)) (w1 := (fun (u : (Nat → Int32)) => [(a_t, .inr (0, [.int t_bags, .int d_t_men, .ref a_t_bagKinds, .ref a_t_manKinds, .ref a_t_cells])), (a_t_bagKinds, .inl (cI, 3, .inl t_bagKinds)), (a_t_cells, .inl (cI, 23, .inl u))])) (by decide) rfl rfl (Nat.le_of_ble_eq_true rfl) ?_
  intro p e s m below meth c A Q hx hb hml hown hts hK hX hA hP hD hsz hret ls hl
  have hS : va_S A s.heap s.heap [] := va_S.rf
  have hl : lv_has ls 4 [(0, .ref a_t), (1, .int x1), (2, .int x2)] := hl
  have B60 : ∀ (t_cells_60 : Nat → Int32) (H : Heap) (locs : List Loc) (ls : Array Slot), wpX0_playBreaths_J60 t_bags t_bagKinds x1 x2 post t_cells_60 → va_P (dC, dI) vwCl [(a_t, .inr (0, [.int t_bags, .int d_t_men, .ref a_t_bagKinds, .ref a_t_manKinds, .ref a_t_cells])), (a_t_bagKinds, .inl (cI, 3, .inl t_bagKinds)), (a_t_cells, .inl (cI, 23, .inl t_cells_60))] H → va_D A [(a_t, .inr (0, [.int t_bags, .int d_t_men, .ref a_t_bagKinds, .ref a_t_manKinds, .ref a_t_cells])), (a_t_bagKinds, .inl (cI, 3, .inl t_bagKinds)), (a_t_cells, .inl (cI, 23, .inl t_cells_60))] → va_S A s.heap H locs → lv_has ls 4 [(0, .ref a_t), (1, .int x1)] → W p l e rmX0_playBreaths s m [.ref a_t, .int x1, .int x2].toArray below meth c H locs 0 0 Q (F0 m 60 ls []) := by
    intro t_cells_60 H locs ls hw hP hD hS hl
    refine lv_aload_n hx hb dX0_playBreaths_60 rfl (lv_at hl 0 rfl) ?_
    refine lv_iload_n hx hb dX0_playBreaths_61 rfl (lv_at hl 1 rfl) ?_
    refine kv_callVi (wr := [(a_t_bagKinds, .inl (cI, 3, .inl t_bagKinds))]) (wn := (fun (u : Unit) => [(a_t, .inr (0, [.int t_bags, .int d_t_men, .ref a_t_bagKinds, .ref a_t_manKinds, .ref a_t_cells])), (a_t_bagKinds, .inl (cI, 3, .inl t_bagKinds)), (a_t_cells, .inl (cI, 23, .inl t_cells_60))])) (As := [.int x1]) (rest := []) ⟨hx, hb, hml, hown, hts⟩ hK hX hA hP hD hS (mtX0_breathsIn l dC dI cI cZ a_t a_t_bagKinds a_t_manKinds a_t_cells H.size t_bags d_t_men t_cells_60 x1 _ hw) (cwV 1 hts gX0_playBreaths_X0_breathsIn rfl rfl rfl (by decide +kernel) ⟨Nat.le_of_ble_eq_true rfl, Nat.le_of_ble_eq_true rfl⟩) 0 0 rfl rfl rfl [0, 2] [1] [1, 0, 2] rfl rfl rfl rfl (by decide) (fun _ => rfl) rfl rfl hl.1 rfl (Nat.le_of_ble_eq_true rfl) ⟨Nat.zero_le _, Nat.zero_le _⟩ dX0_playBreaths_62 (fun r_1 u H locs hw hP hD hS => ?_)
    exact hret r_1 t_cells_60 H _ _ ls hw hP hD hS dX0_playBreaths_65
  have L38 : ∀  (n38 : Nat) (t_cells_38 : Nat → Int32) (x3_38 : Int32) (H : Heap) (locs : List Loc) (ls : Array Slot), wpX0_playBreaths_L38 t_bags t_bagKinds x1 x2 (wpX0_playBreaths_J60 t_bags t_bagKinds x1 x2 post) post n38 t_cells_38 x3_38 → va_P (dC, dI) vwCl [(a_t, .inr (0, [.int t_bags, .int d_t_men, .ref a_t_bagKinds, .ref a_t_manKinds, .ref a_t_cells])), (a_t_bagKinds, .inl (cI, 3, .inl t_bagKinds)), (a_t_cells, .inl (cI, 23, .inl t_cells_38))] H → va_D A [(a_t, .inr (0, [.int t_bags, .int d_t_men, .ref a_t_bagKinds, .ref a_t_manKinds, .ref a_t_cells])), (a_t_bagKinds, .inl (cI, 3, .inl t_bagKinds)), (a_t_cells, .inl (cI, 23, .inl t_cells_38))] → va_S A s.heap H locs → lv_has ls 4 [(0, .ref a_t), (1, .int x1), (2, .int x2), (3, .int x3_38)] → W p l e rmX0_playBreaths s m [.ref a_t, .int x1, .int x2].toArray below meth c H locs 0 0 Q (F0 m 38 ls []) := by
    intro  n38
    induction n38 with
    | zero => intro t_cells_38 x3_38 H locs ls hw hP hD hS hl; exact hw.elim
    | succ n38 ih38 =>
      intro t_cells_38 x3_38 H locs ls hw hP hD hS hl
      refine lv_iload_n hx hb dX0_playBreaths_38 rfl (lv_at hl 3 rfl) ?_
      refine lv_iload_n hx hb dX0_playBreaths_39 rfl (lv_at hl 2 rfl) ?_
      refine lv_icmp_ge (tgt := 60) hx hb dX0_playBreaths_40 (by decide) (fun c_2 => ?_) (fun c_2 => ?_)
      · have hw := hw.1 c_2
        exact B60 t_cells_38 H _ ls hw hP hD hS (lv_sub hl [0, 1] rfl)
      · have hw := hw.2 c_2
        refine lv_aload_n hx hb dX0_playBreaths_43 rfl (lv_at hl 0 rfl) ?_
        refine lv_iload_n hx hb dX0_playBreaths_44 rfl (lv_at hl 1 rfl) ?_
        refine lv_aload_n hx hb dX0_playBreaths_45 rfl (lv_at hl 0 rfl) ?_
        refine lv_iload_n hx hb dX0_playBreaths_46 rfl (lv_at hl 1 rfl) ?_
        refine lv_iconst (v := (0 : Int32)) hx hb dX0_playBreaths_47 (by decide) ?_
        refine kv_callVi (wr := []) (wn := (fun (u : Unit) => [(a_t, .inr (0, [.int t_bags, .int d_t_men, .ref a_t_bagKinds, .ref a_t_manKinds, .ref a_t_cells])), (a_t_bagKinds, .inl (cI, 3, .inl t_bagKinds)), (a_t_cells, .inl (cI, 23, .inl t_cells_38))])) (As := [.int x1, .int (0 : Int32)]) (rest := [.int x1, .ref a_t]) ⟨hx, hb, hml, hown, hts⟩ hK hX hA hP hD hS (mtX0_placePlayed l dC dI cI cZ a_t a_t_bagKinds a_t_manKinds a_t_cells H.size t_bags d_t_men t_bagKinds t_cells_38 x1 (0 : Int32) _ hw) (cwV 2 hts gX0_playBreaths_X0_placePlayed rfl rfl rfl (by decide +kernel) ⟨Nat.le_of_ble_eq_true rfl, Nat.le_of_ble_eq_true rfl⟩) 0 0 rfl rfl rfl [0, 1, 2] [] [0, 1, 2] rfl rfl rfl rfl (by decide) (fun _ => rfl) rfl rfl hl.1 rfl (Nat.le_of_ble_eq_true rfl) ⟨Nat.zero_le _, Nat.zero_le _⟩ dX0_playBreaths_48 (fun r_3 u H locs hw hP hD hS => ?_)
        refine kv_callVv (wr := [(a_t_bagKinds, .inl (cI, 3, .inl t_bagKinds))]) (wn := (fun (u : (Nat → Int32)) => [(a_t, .inr (0, [.int t_bags, .int d_t_men, .ref a_t_bagKinds, .ref a_t_manKinds, .ref a_t_cells])), (a_t_bagKinds, .inl (cI, 3, .inl t_bagKinds)), (a_t_cells, .inl (cI, 23, .inl u))])) (As := [.int x1, .int r_3]) (rest := []) ⟨hx, hb, hml, hown, hts⟩ hK hX hA hP hD hS (mtX0_lose l dC dI cI cZ a_t a_t_bagKinds a_t_manKinds a_t_cells H.size t_bags d_t_men t_cells_38 x1 r_3 _ hw) (cwV 2 hts gX0_playBreaths_X0_lose rfl rfl rfl (by decide +kernel) ⟨Nat.le_of_ble_eq_true rfl, Nat.le_of_ble_eq_true rfl⟩) 0 0 rfl rfl rfl [0, 2] [1] [1, 0, 2] rfl rfl rfl rfl (by decide) (fun _ => rfl) rfl rfl hl.1 rfl (Nat.le_of_ble_eq_true rfl) ⟨Nat.zero_le _, Nat.zero_le _⟩ dX0_playBreaths_51 (fun u H locs hw hP hD hS => ?_)
        obtain ⟨t_cells_4, rfl⟩ : ∃ z, z = u := ⟨_, rfl⟩
        have hP : va_P (dC, dI) vwCl [(a_t, .inr (0, [.int t_bags, .int d_t_men, .ref a_t_bagKinds, .ref a_t_manKinds, .ref a_t_cells])), (a_t_bagKinds, .inl (cI, 3, .inl t_bagKinds)), (a_t_cells, .inl (cI, 23, .inl t_cells_4))] H := hP
        have hD : va_D A [(a_t, .inr (0, [.int t_bags, .int d_t_men, .ref a_t_bagKinds, .ref a_t_manKinds, .ref a_t_cells])), (a_t_bagKinds, .inl (cI, 3, .inl t_bagKinds)), (a_t_cells, .inl (cI, 23, .inl t_cells_4))] := hD
        obtain ⟨y_5, ey_5⟩ : ∃ y : Int32, y = (x3_38 + (1 : Int32)) := ⟨_, rfl⟩
        have hw := hw y_5 ey_5
        refine lv_iinc (v := y_5) (lv' := [(3, .int y_5), (0, .ref a_t), (1, .int x1), (2, .int x2)]) hx hb dX0_playBreaths_54 hl (k := 3) rfl (by rw [ey_5]; rfl) (by decide) rfl (fun ls hl => ?_)
        refine lv_goto (tgt := 38) hx hb dX0_playBreaths_57 (by decide) ?_
        exact ih38 t_cells_4 y_5 H _ ls hw hP hD hS (lv_sub hl [1, 2, 3, 0] rfl)
  have E38 : ∀ (t_cells_38 : Nat → Int32) (x3_38 : Int32) (H : Heap) (locs : List Loc) (ls : Array Slot), wpX0_playBreaths_E38 t_bags t_bagKinds x1 x2 post t_cells_38 x3_38 → va_P (dC, dI) vwCl [(a_t, .inr (0, [.int t_bags, .int d_t_men, .ref a_t_bagKinds, .ref a_t_manKinds, .ref a_t_cells])), (a_t_bagKinds, .inl (cI, 3, .inl t_bagKinds)), (a_t_cells, .inl (cI, 23, .inl t_cells_38))] H → va_D A [(a_t, .inr (0, [.int t_bags, .int d_t_men, .ref a_t_bagKinds, .ref a_t_manKinds, .ref a_t_cells])), (a_t_bagKinds, .inl (cI, 3, .inl t_bagKinds)), (a_t_cells, .inl (cI, 23, .inl t_cells_38))] → va_S A s.heap H locs → lv_has ls 4 [(0, .ref a_t), (1, .int x1), (2, .int x2), (3, .int x3_38)] → W p l e rmX0_playBreaths s m [.ref a_t, .int x1, .int x2].toArray below meth c H locs 0 0 Q (F0 m 38 ls []) := by
    intro t_cells_38 x3_38 H locs ls hw hP hD hS hl
    obtain ⟨n, hw⟩ := hw
    exact L38  n t_cells_38 x3_38 H locs ls hw hP hD hS hl
  refine lv_aload_n hx hb dX0_playBreaths_0 rfl (lv_at hl 0 rfl) ?_
  refine lv_iload_n hx hb dX0_playBreaths_1 rfl (lv_at hl 1 rfl) ?_
  refine kv_callVi (wr := [(a_t_bagKinds, .inl (cI, 3, .inl t_bagKinds)), (a_t_cells, .inl (cI, 23, .inl t_cells))]) (wn := (fun (u : Unit) => [(a_t, .inr (0, [.int t_bags, .int d_t_men, .ref a_t_bagKinds, .ref a_t_manKinds, .ref a_t_cells])), (a_t_bagKinds, .inl (cI, 3, .inl t_bagKinds)), (a_t_cells, .inl (cI, 23, .inl t_cells))])) (As := [.int x1]) (rest := []) ⟨hx, hb, hml, hown, hts⟩ hK hX hA hP hD hS (mtX0_isBag l dC dI cI cZ a_t a_t_bagKinds a_t_manKinds a_t_cells s.heap.size t_bags d_t_men x1 _ hw) (cwV 1 hts gX0_playBreaths_X0_isBag rfl rfl rfl (by decide +kernel) ⟨Nat.le_of_ble_eq_true rfl, Nat.le_of_ble_eq_true rfl⟩) 0 0 rfl rfl rfl [0] [1, 2] [2, 0, 1] rfl rfl rfl rfl (by decide) (fun _ => rfl) rfl rfl hl.1 rfl (Nat.le_of_ble_eq_true rfl) ⟨Nat.zero_le _, Nat.zero_le _⟩ dX0_playBreaths_2 (fun r_6 u H locs hw hP hD hS => ?_)
  obtain ⟨hb_r_6, hw⟩ := hw
  refine lv_if_ne (tgt := 10) hx hb dX0_playBreaths_5 (by decide) (fun c_7 => ?_) (fun c_7 => ?_)
  · have hw := hw.1 c_7
    refine lv_iload_n hx hb dX0_playBreaths_10 rfl (lv_at hl 2 rfl) ?_
    refine lv_iconst (v := (1 : Int32)) hx hb dX0_playBreaths_11 (by decide) ?_
    refine lv_icmp_lt (tgt := 21) hx hb dX0_playBreaths_12 (by decide) (fun c_8 => ?_) (fun c_8 => ?_)
    · have hw := hw.1 c_8
      refine lv_bipush (v := (-2 : Int32)) hx hb dX0_playBreaths_21 (by decide) ?_
      exact hret (-2 : Int32) t_cells H _ _ ls hw hP hD hS dX0_playBreaths_23
    · have hw := hw.2 c_8
      refine lv_iload_n hx hb dX0_playBreaths_15 rfl (lv_at hl 2 rfl) ?_
      refine lv_bipush (v := (9 : Int32)) hx hb dX0_playBreaths_16 (by decide) ?_
      refine lv_icmp_le (tgt := 24) hx hb dX0_playBreaths_18 (by decide) (fun c_9 => ?_) (fun c_9 => ?_)
      · have hw := hw.1 c_9
        refine lv_aload_n hx hb dX0_playBreaths_24 rfl (lv_at hl 0 rfl) ?_
        refine lv_iload_n hx hb dX0_playBreaths_25 rfl (lv_at hl 1 rfl) ?_
        refine kv_callVi (wr := [(a_t_bagKinds, .inl (cI, 3, .inl t_bagKinds))]) (wn := (fun (u : Unit) => [(a_t, .inr (0, [.int t_bags, .int d_t_men, .ref a_t_bagKinds, .ref a_t_manKinds, .ref a_t_cells])), (a_t_bagKinds, .inl (cI, 3, .inl t_bagKinds)), (a_t_cells, .inl (cI, 23, .inl t_cells))])) (As := [.int x1]) (rest := []) ⟨hx, hb, hml, hown, hts⟩ hK hX hA hP hD hS (mtX0_breathsIn l dC dI cI cZ a_t a_t_bagKinds a_t_manKinds a_t_cells H.size t_bags d_t_men t_cells x1 _ hw) (cwV 1 hts gX0_playBreaths_X0_breathsIn rfl rfl rfl (by decide +kernel) ⟨Nat.le_of_ble_eq_true rfl, Nat.le_of_ble_eq_true rfl⟩) 0 0 rfl rfl rfl [0, 2] [1] [1, 0, 2] rfl rfl rfl rfl (by decide) (fun _ => rfl) rfl rfl hl.1 rfl (Nat.le_of_ble_eq_true rfl) ⟨Nat.zero_le _, Nat.zero_le _⟩ dX0_playBreaths_26 (fun r_10 u H locs hw hP hD hS => ?_)
        refine lv_iload_n hx hb dX0_playBreaths_29 rfl (lv_at hl 2 rfl) ?_
        refine lv_icmp_ge (tgt := 36) hx hb dX0_playBreaths_30 (by decide) (fun c_11 => ?_) (fun c_11 => ?_)
        · have hw := hw.1 c_11
          refine lv_iconst (v := (0 : Int32)) hx hb dX0_playBreaths_36 (by decide) ?_
          refine lv_istore_n (lv' := [(3, .int (0 : Int32)), (0, .ref a_t), (1, .int x1), (2, .int x2)]) hx hb dX0_playBreaths_37 rfl hl (by decide) rfl (fun ls hl => ?_)
          exact E38 t_cells (0 : Int32) H _ ls hw hP hD hS (lv_sub hl [1, 2, 3, 0] rfl)
        · have hw := hw.2 c_11
          refine lv_bipush (v := (-3 : Int32)) hx hb dX0_playBreaths_33 (by decide) ?_
          exact hret (-3 : Int32) t_cells H _ _ ls hw hP hD hS dX0_playBreaths_35
      · have hw := hw.2 c_9
        refine lv_bipush (v := (-2 : Int32)) hx hb dX0_playBreaths_21 (by decide) ?_
        exact hret (-2 : Int32) t_cells H _ _ ls hw hP hD hS dX0_playBreaths_23
  · have hw := hw.2 c_7
    refine lv_iconst (v := (-1 : Int32)) hx hb dX0_playBreaths_8 (by decide) ?_
    exact hret (-1 : Int32) t_cells H _ _ ls hw hP hD hS dX0_playBreaths_9

def wpX0_takeBack_J68 (t_bags : Int32) (t_men : Int32) (t_bagKinds : Nat → Int32) (x1 : Int32) (x2 : Int32) (post : Int32 → (Nat → Int32) → Prop) (t_cells_68 : Nat → Int32) (x4_68 : Int32) : Prop := wpX0_lift t_cells_68 x2 x4_68 (fun t_cells_1 => wpX0_ofMan t_men t_cells_1 (2 : Int32) x1 (fun r_2 => wpX0_setCell t_cells_1 ((2 : Int32) + x1) (if (r_2 + (1 : Int32)) < (99 : Int32) then (r_2 + (1 : Int32)) else (99 : Int32)) (fun t_cells_3 => wpX0_ofMan t_men t_cells_3 (2 : Int32) x1 (fun r_4 => post r_4 t_cells_3))))
def wpX0_takeBack_L40 (t_bags : Int32) (t_men : Int32) (t_bagKinds : Nat → Int32) (x1 : Int32) (x2 : Int32) (t_cells_40 : Nat → Int32) (kJ68 : (Nat → Int32) → Int32 → Prop) (post : Int32 → (Nat → Int32) → Prop) : Nat → Int32 → Prop
  | 0, _ => False
  | n + 1, x3_40 => wpX0_breathsIn t_bags t_cells_40 x2 (fun r_5 => ((r_5 ≤ x3_40 → post (-3 : Int32) t_cells_40) ∧ (¬ r_5 ≤ x3_40 → wpX0_placePlayed t_bags t_bagKinds t_cells_40 x2 x3_40 (fun r_7 => wpX0_owner t_cells_40 x2 r_7 (fun r_8 => ((¬ r_8 = x1 → ∀ y_10 : Int32, y_10 = (x3_40 + (1 : Int32)) → wpX0_takeBack_L40 t_bags t_men t_bagKinds x1 x2 t_cells_40 kJ68 post n y_10) ∧ (r_8 = x1 → kJ68 t_cells_40 r_7)))))))
def wpX0_takeBack_E40 (t_bags : Int32) (t_men : Int32) (t_bagKinds : Nat → Int32) (x1 : Int32) (x2 : Int32) (post : Int32 → (Nat → Int32) → Prop) (t_cells_40 : Nat → Int32) (x3_40 : Int32) : Prop := ∃ n : Nat, wpX0_takeBack_L40 t_bags t_men t_bagKinds x1 x2 t_cells_40 (wpX0_takeBack_J68 t_bags t_men t_bagKinds x1 x2 post) post n x3_40
def wpX0_takeBack (t_bags : Int32) (t_men : Int32) (t_bagKinds : Nat → Int32) (t_cells : Nat → Int32) (x1 : Int32) (x2 : Int32) (post : Int32 → (Nat → Int32) → Prop) : Prop := wpX0_isMan t_men x1 (fun r_11 => ((r_11 = 0 → post (-1 : Int32) t_cells) ∧ (¬ r_11 = 0 → wpX0_isBag t_bags x2 (fun r_13 => ((¬ r_13 = 0 → wpX0_hasFallen t_cells x1 (fun r_15 => ((¬ r_15 = 0 → post (-3 : Int32) t_cells) ∧ (r_15 = 0 → wpX0_kindOfBag t_bags t_bagKinds x2 (fun r_17 => ((¬ r_17 = (3 : Int32) → wpX0_takeBack_E40 t_bags t_men t_bagKinds x1 x2 post t_cells (0 : Int32)) ∧ (r_17 = (3 : Int32) → post (-3 : Int32) t_cells))))))) ∧ (r_13 = 0 → post (-1 : Int32) t_cells))))))
abbrev rmX0_takeBack : Room := { frames := 3, cells := 0, slots := 0, locals := 69 }
set_option maxHeartbeats 4000000 in
set_option maxRecDepth 100000 in
theorem mtX0_takeBack (l : Launch) (dC : Nat → ClassId) (dI : Nat → Nat → Nat) (cI cZ : ClassId) (a_t : Nat) (a_t_bagKinds : Nat) (a_t_manKinds : Nat) (a_t_cells : Nat) (sz : Nat) (t_bags : Int32) (t_men : Int32) (t_bagKinds : Nat → Int32) (t_cells : Nat → Int32) (x1 : Int32) (x2 : Int32) (post : Int32 → (Nat → Int32) → Prop) (hw : wpX0_takeBack t_bags t_men t_bagKinds t_cells x1 x2 post) : Met l yX0_takeBack wsX0_takeBack rmX0_takeBack (va_Pc [.ref a_t, .int x1, .int x2] (kvPre (dC, dI) cI cZ sz [(a_t, .inr (0, [.int t_bags, .int t_men, .ref a_t_bagKinds, .ref a_t_manKinds, .ref a_t_cells])), (a_t_bagKinds, .inl (cI, 3, .inl t_bagKinds)), (a_t_cells, .inl (cI, 23, .inl t_cells))])) (va_Qi (fun (r : Int32) (u : (Nat → Int32)) => post r u) (kvB (dC, dI) (va_A [(a_t, .inr (0, [.int t_bags, .int t_men, .ref a_t_bagKinds, .ref a_t_manKinds, .ref a_t_cells])), (a_t_bagKinds, .inl (cI, 3, .inl t_bagKinds)), (a_t_cells, .inl (cI, 23, .inl t_cells))] sz) (fun (u : (Nat → Int32)) => [(a_t, .inr (0, [.int t_bags, .int t_men, .ref a_t_bagKinds, .ref a_t_manKinds, .ref a_t_cells])), (a_t_bagKinds, .inl (cI, 3, .inl t_bagKinds)), (a_t_cells, .inl (cI, 23, .inl u))])) (va_A [(a_t, .inr (0, [.int t_bags, .int t_men, .ref a_t_bagKinds, .ref a_t_manKinds, .ref a_t_cells])), (a_t_bagKinds, .inl (cI, 3, .inl t_bagKinds)), (a_t_cells, .inl (cI, 23, .inl t_cells))] sz)) 0 0 (va_A [(a_t, .inr (0, [.int t_bags, .int t_men, .ref a_t_bagKinds, .ref a_t_manKinds, .ref a_t_cells])), (a_t_bagKinds, .inl (cI, 3, .inl t_bagKinds)), (a_t_cells, .inl (cI, 23, .inl t_cells))] sz) := by
  refine kv_metI (y := yX0_takeBack) (ws := wsX0_takeBack) (rm := rmX0_takeBack) (av := [.ref a_t, .int x1, .int x2]) (sz := sz) (w := [(a_t, .inr (0, [.int t_bags, .int t_men, .ref a_t_bagKinds, .ref a_t_manKinds, .ref a_t_cells])), (a_t_bagKinds, .inl (cI, 3, .inl t_bagKinds)), (a_t_cells, .inl (cI, 23, .inl t_cells))]) (cc := cX0_takeBack) (maxL := 5) (own := RX0) (post := (fun (r : Int32) (u : (Nat → Int32)) => post r u)) (w1 := (fun (u : (Nat → Int32)) => [(a_t, .inr (0, [.int t_bags, .int t_men, .ref a_t_bagKinds, .ref a_t_manKinds, .ref a_t_cells])), (a_t_bagKinds, .inl (cI, 3, .inl t_bagKinds)), (a_t_cells, .inl (cI, 23, .inl u))])) (by decide) rfl rfl (Nat.le_of_ble_eq_true rfl) ?_
  intro p e s m below meth c A Q hx hb hml hown hts hK hX hA hP hD hsz hret ls hl
  have hS : va_S A s.heap s.heap [] := va_S.rf
  have hl : lv_has ls 5 [(0, .ref a_t), (1, .int x1), (2, .int x2)] := hl
  have B68 : ∀ (t_cells_68 : Nat → Int32) (x4_68 : Int32) (H : Heap) (locs : List Loc) (ls : Array Slot), wpX0_takeBack_J68 t_bags t_men t_bagKinds x1 x2 post t_cells_68 x4_68 → va_P (dC, dI) vwCl [(a_t, .inr (0, [.int t_bags, .int t_men, .ref a_t_bagKinds, .ref a_t_manKinds, .ref a_t_cells])), (a_t_bagKinds, .inl (cI, 3, .inl t_bagKinds)), (a_t_cells, .inl (cI, 23, .inl t_cells_68))] H → va_D A [(a_t, .inr (0, [.int t_bags, .int t_men, .ref a_t_bagKinds, .ref a_t_manKinds, .ref a_t_cells])), (a_t_bagKinds, .inl (cI, 3, .inl t_bagKinds)), (a_t_cells, .inl (cI, 23, .inl t_cells_68))] → va_S A s.heap H locs → lv_has ls 5 [(0, .ref a_t), (1, .int x1), (2, .int x2), (4, .int x4_68)] → W p l e rmX0_takeBack s m [.ref a_t, .int x1, .int x2].toArray below meth c H locs 0 0 Q (F0 m 68 ls []) := by
    intro t_cells_68 x4_68 H locs ls hw hP hD hS hl
    refine lv_aload_n hx hb dX0_takeBack_68 rfl (lv_at hl 0 rfl) ?_
    refine lv_iload_n hx hb dX0_takeBack_69 rfl (lv_at hl 2 rfl) ?_
    refine lv_iload hx hb dX0_takeBack_70 (lv_at hl 3 rfl) ?_
    refine kv_callVv (wr := [(a_t_bagKinds, .inl (cI, 3, .inl t_bagKinds))]) (wn := (fun (u : (Nat → Int32)) => [(a_t, .inr (0, [.int t_bags, .int t_men, .ref a_t_bagKinds, .ref a_t_manKinds, .ref a_t_cells])), (a_t_bagKinds, .inl (cI, 3, .inl t_bagKinds)), (a_t_cells, .inl (cI, 23, .inl u))])) (As := [.int x2, .int x4_68]) (rest := []) ⟨hx, hb, hml, hown, hts⟩ hK hX hA hP hD hS (mtX0_lift l dC dI cI cZ a_t a_t_bagKinds a_t_manKinds a_t_cells H.size t_bags t_men t_cells_68 x2 x4_68 _ hw) (cwV 2 hts gX0_takeBack_X0_lift rfl rfl rfl (by decide +kernel) ⟨Nat.le_of_ble_eq_true rfl, Nat.le_of_ble_eq_true rfl⟩) 0 0 rfl rfl rfl [0, 2] [1] [1, 0, 2] rfl rfl rfl rfl (by decide) (fun _ => rfl) rfl rfl hl.1 rfl (Nat.le_of_ble_eq_true rfl) ⟨Nat.zero_le _, Nat.zero_le _⟩ dX0_takeBack_72 (fun u H locs hw hP hD hS => ?_)
    obtain ⟨t_cells_1, rfl⟩ : ∃ z, z = u := ⟨_, rfl⟩
    have hP : va_P (dC, dI) vwCl [(a_t, .inr (0, [.int t_bags, .int t_men, .ref a_t_bagKinds, .ref a_t_manKinds, .ref a_t_cells])), (a_t_bagKinds, .inl (cI, 3, .inl t_bagKinds)), (a_t_cells, .inl (cI, 23, .inl t_cells_1))] H := hP
    have hD : va_D A [(a_t, .inr (0, [.int t_bags, .int t_men, .ref a_t_bagKinds, .ref a_t_manKinds, .ref a_t_cells])), (a_t_bagKinds, .inl (cI, 3, .inl t_bagKinds)), (a_t_cells, .inl (cI, 23, .inl t_cells_1))] := hD
    refine lv_aload_n hx hb dX0_takeBack_75 rfl (lv_at hl 0 rfl) ?_
    refine lv_iconst (v := (2 : Int32)) hx hb dX0_takeBack_76 (by decide) ?_
    refine lv_iload_n hx hb dX0_takeBack_77 rfl (lv_at hl 1 rfl) ?_
    refine lv_iadd hx hb dX0_takeBack_78 ?_
    refine lv_bipush (v := (99 : Int32)) hx hb dX0_takeBack_79 (by decide) ?_
    refine lv_aload_n hx hb dX0_takeBack_81 rfl (lv_at hl 0 rfl) ?_
    refine lv_iconst (v := (2 : Int32)) hx hb dX0_takeBack_82 (by decide) ?_
    refine lv_iload_n hx hb dX0_takeBack_83 rfl (lv_at hl 1 rfl) ?_
    refine kv_callVi (wr := [(a_t_bagKinds, .inl (cI, 3, .inl t_bagKinds))]) (wn := (fun (u : Unit) => [(a_t, .inr (0, [.int t_bags, .int t_men, .ref a_t_bagKinds, .ref a_t_manKinds, .ref a_t_cells])), (a_t_bagKinds, .inl (cI, 3, .inl t_bagKinds)), (a_t_cells, .inl (cI, 23, .inl t_cells_1))])) (As := [.int (2 : Int32), .int x1]) (rest := [.int (99 : Int32), .int ((2 : Int32) + x1), .ref a_t]) ⟨hx, hb, hml, hown, hts⟩ hK hX hA hP hD hS (mtX0_ofMan l dC dI cI cZ a_t a_t_bagKinds a_t_manKinds a_t_cells H.size t_bags t_men t_cells_1 (2 : Int32) x1 _ hw) (cwV 2 hts gX0_takeBack_X0_ofMan rfl rfl rfl (by decide +kernel) ⟨Nat.le_of_ble_eq_true rfl, Nat.le_of_ble_eq_true rfl⟩) 0 0 rfl rfl rfl [0, 2] [1] [1, 0, 2] rfl rfl rfl rfl (by decide) (fun _ => rfl) rfl rfl hl.1 rfl (Nat.le_of_ble_eq_true rfl) ⟨Nat.zero_le _, Nat.zero_le _⟩ dX0_takeBack_84 (fun r_2 u H locs hw hP hD hS => ?_)
    refine lv_iconst (v := (1 : Int32)) hx hb dX0_takeBack_87 (by decide) ?_
    refine lv_iadd hx hb dX0_takeBack_88 ?_
    refine va_mmin hx hb (by rw [hml]; exact hl.1.symm) hown (hts (.methodLink RX0 88 Lib.Math.min.name) (by decide +kernel)) (hts (.static Lib.Math.min.name) (by decide +kernel)) (hts (.initialized "java/lang/Math") (by decide +kernel)) (hts (.code Lib.Math.min.name Lib.Math.min.code 2 (some .int)) (by decide +kernel)) (Nat.le_of_ble_eq_true rfl) (Nat.le_of_ble_eq_true rfl) (Nat.zero_le _) (Nat.zero_le _) dX0_takeBack_89 ?_
    refine kv_callVv (wr := [(a_t_bagKinds, .inl (cI, 3, .inl t_bagKinds))]) (wn := (fun (u : (Nat → Int32)) => [(a_t, .inr (0, [.int t_bags, .int t_men, .ref a_t_bagKinds, .ref a_t_manKinds, .ref a_t_cells])), (a_t_bagKinds, .inl (cI, 3, .inl t_bagKinds)), (a_t_cells, .inl (cI, 23, .inl u))])) (As := [.int ((2 : Int32) + x1), .int (if (r_2 + (1 : Int32)) < (99 : Int32) then (r_2 + (1 : Int32)) else (99 : Int32))]) (rest := []) ⟨hx, hb, hml, hown, hts⟩ hK hX hA hP hD hS (mtX0_setCell l dC dI cI cZ a_t a_t_bagKinds a_t_manKinds a_t_cells H.size t_bags t_men t_cells_1 ((2 : Int32) + x1) (if (r_2 + (1 : Int32)) < (99 : Int32) then (r_2 + (1 : Int32)) else (99 : Int32)) _ hw) (cwV 2 hts gX0_takeBack_X0_setCell rfl rfl rfl (by decide +kernel) ⟨Nat.le_of_ble_eq_true rfl, Nat.le_of_ble_eq_true rfl⟩) 0 0 rfl rfl rfl [0, 2] [1] [1, 0, 2] rfl rfl rfl rfl (by decide) (fun _ => rfl) rfl rfl hl.1 rfl (Nat.le_of_ble_eq_true rfl) ⟨Nat.zero_le _, Nat.zero_le _⟩ dX0_takeBack_92 (fun u H locs hw hP hD hS => ?_)
    obtain ⟨t_cells_3, rfl⟩ : ∃ z, z = u := ⟨_, rfl⟩
    have hP : va_P (dC, dI) vwCl [(a_t, .inr (0, [.int t_bags, .int t_men, .ref a_t_bagKinds, .ref a_t_manKinds, .ref a_t_cells])), (a_t_bagKinds, .inl (cI, 3, .inl t_bagKinds)), (a_t_cells, .inl (cI, 23, .inl t_cells_3))] H := hP
    have hD : va_D A [(a_t, .inr (0, [.int t_bags, .int t_men, .ref a_t_bagKinds, .ref a_t_manKinds, .ref a_t_cells])), (a_t_bagKinds, .inl (cI, 3, .inl t_bagKinds)), (a_t_cells, .inl (cI, 23, .inl t_cells_3))] := hD
    refine lv_aload_n hx hb dX0_takeBack_95 rfl (lv_at hl 0 rfl) ?_
    refine lv_iconst (v := (2 : Int32)) hx hb dX0_takeBack_96 (by decide) ?_
    refine lv_iload_n hx hb dX0_takeBack_97 rfl (lv_at hl 1 rfl) ?_
    refine kv_callVi (wr := [(a_t_bagKinds, .inl (cI, 3, .inl t_bagKinds))]) (wn := (fun (u : Unit) => [(a_t, .inr (0, [.int t_bags, .int t_men, .ref a_t_bagKinds, .ref a_t_manKinds, .ref a_t_cells])), (a_t_bagKinds, .inl (cI, 3, .inl t_bagKinds)), (a_t_cells, .inl (cI, 23, .inl t_cells_3))])) (As := [.int (2 : Int32), .int x1]) (rest := []) ⟨hx, hb, hml, hown, hts⟩ hK hX hA hP hD hS (mtX0_ofMan l dC dI cI cZ a_t a_t_bagKinds a_t_manKinds a_t_cells H.size t_bags t_men t_cells_3 (2 : Int32) x1 _ hw) (cwV 2 hts gX0_takeBack_X0_ofMan rfl rfl rfl (by decide +kernel) ⟨Nat.le_of_ble_eq_true rfl, Nat.le_of_ble_eq_true rfl⟩) 0 0 rfl rfl rfl [0, 2] [1] [1, 0, 2] rfl rfl rfl rfl (by decide) (fun _ => rfl) rfl rfl hl.1 rfl (Nat.le_of_ble_eq_true rfl) ⟨Nat.zero_le _, Nat.zero_le _⟩ dX0_takeBack_98 (fun r_4 u H locs hw hP hD hS => ?_)
    exact hret r_4 t_cells_3 H _ _ ls hw hP hD hS dX0_takeBack_101
  have L40 : ∀ (t_cells_40 : Nat → Int32) (n40 : Nat) (x3_40 : Int32) (H : Heap) (locs : List Loc) (ls : Array Slot), wpX0_takeBack_L40 t_bags t_men t_bagKinds x1 x2 t_cells_40 (wpX0_takeBack_J68 t_bags t_men t_bagKinds x1 x2 post) post n40 x3_40 → va_P (dC, dI) vwCl [(a_t, .inr (0, [.int t_bags, .int t_men, .ref a_t_bagKinds, .ref a_t_manKinds, .ref a_t_cells])), (a_t_bagKinds, .inl (cI, 3, .inl t_bagKinds)), (a_t_cells, .inl (cI, 23, .inl t_cells_40))] H → va_D A [(a_t, .inr (0, [.int t_bags, .int t_men, .ref a_t_bagKinds, .ref a_t_manKinds, .ref a_t_cells])), (a_t_bagKinds, .inl (cI, 3, .inl t_bagKinds)), (a_t_cells, .inl (cI, 23, .inl t_cells_40))] → va_S A s.heap H locs → lv_has ls 5 [(0, .ref a_t), (1, .int x1), (2, .int x2), (3, .int x3_40)] → W p l e rmX0_takeBack s m [.ref a_t, .int x1, .int x2].toArray below meth c H locs 0 0 Q (F0 m 40 ls []) := by
    intro t_cells_40 n40
    induction n40 with
    | zero => intro x3_40 H locs ls hw hP hD hS hl; exact hw.elim
    | succ n40 ih40 =>
      intro x3_40 H locs ls hw hP hD hS hl
      refine lv_iload_n hx hb dX0_takeBack_40 rfl (lv_at hl 3 rfl) ?_
      refine lv_aload_n hx hb dX0_takeBack_41 rfl (lv_at hl 0 rfl) ?_
      refine lv_iload_n hx hb dX0_takeBack_42 rfl (lv_at hl 2 rfl) ?_
      refine kv_callVi (wr := [(a_t_bagKinds, .inl (cI, 3, .inl t_bagKinds))]) (wn := (fun (u : Unit) => [(a_t, .inr (0, [.int t_bags, .int t_men, .ref a_t_bagKinds, .ref a_t_manKinds, .ref a_t_cells])), (a_t_bagKinds, .inl (cI, 3, .inl t_bagKinds)), (a_t_cells, .inl (cI, 23, .inl t_cells_40))])) (As := [.int x2]) (rest := [.int x3_40]) ⟨hx, hb, hml, hown, hts⟩ hK hX hA hP hD hS (mtX0_breathsIn l dC dI cI cZ a_t a_t_bagKinds a_t_manKinds a_t_cells H.size t_bags t_men t_cells_40 x2 _ hw) (cwV 1 hts gX0_takeBack_X0_breathsIn rfl rfl rfl (by decide +kernel) ⟨Nat.le_of_ble_eq_true rfl, Nat.le_of_ble_eq_true rfl⟩) 0 0 rfl rfl rfl [0, 2] [1] [1, 0, 2] rfl rfl rfl rfl (by decide) (fun _ => rfl) rfl rfl hl.1 rfl (Nat.le_of_ble_eq_true rfl) ⟨Nat.zero_le _, Nat.zero_le _⟩ dX0_takeBack_43 (fun r_5 u H locs hw hP hD hS => ?_)
      refine lv_icmp_ge (tgt := 108) hx hb dX0_takeBack_46 (by decide) (fun c_6 => ?_) (fun c_6 => ?_)
      · have hw := hw.1 c_6
        refine lv_bipush (v := (-3 : Int32)) hx hb dX0_takeBack_108 (by decide) ?_
        exact hret (-3 : Int32) t_cells_40 H _ _ ls hw hP hD hS dX0_takeBack_110
      · have hw := hw.2 c_6
        refine lv_aload_n hx hb dX0_takeBack_49 rfl (lv_at hl 0 rfl) ?_
        refine lv_iload_n hx hb dX0_takeBack_50 rfl (lv_at hl 2 rfl) ?_
        refine lv_iload_n hx hb dX0_takeBack_51 rfl (lv_at hl 3 rfl) ?_
        refine kv_callVi (wr := []) (wn := (fun (u : Unit) => [(a_t, .inr (0, [.int t_bags, .int t_men, .ref a_t_bagKinds, .ref a_t_manKinds, .ref a_t_cells])), (a_t_bagKinds, .inl (cI, 3, .inl t_bagKinds)), (a_t_cells, .inl (cI, 23, .inl t_cells_40))])) (As := [.int x2, .int x3_40]) (rest := []) ⟨hx, hb, hml, hown, hts⟩ hK hX hA hP hD hS (mtX0_placePlayed l dC dI cI cZ a_t a_t_bagKinds a_t_manKinds a_t_cells H.size t_bags t_men t_bagKinds t_cells_40 x2 x3_40 _ hw) (cwV 2 hts gX0_takeBack_X0_placePlayed rfl rfl rfl (by decide +kernel) ⟨Nat.le_of_ble_eq_true rfl, Nat.le_of_ble_eq_true rfl⟩) 0 0 rfl rfl rfl [0, 1, 2] [] [0, 1, 2] rfl rfl rfl rfl (by decide) (fun _ => rfl) rfl rfl hl.1 rfl (Nat.le_of_ble_eq_true rfl) ⟨Nat.zero_le _, Nat.zero_le _⟩ dX0_takeBack_52 (fun r_7 u H locs hw hP hD hS => ?_)
        refine lv_istore (lv' := [(4, .int r_7), (0, .ref a_t), (1, .int x1), (2, .int x2), (3, .int x3_40)]) hx hb dX0_takeBack_55 hl (by decide) rfl (fun ls hl => ?_)
        refine lv_aload_n hx hb dX0_takeBack_57 rfl (lv_at hl 1 rfl) ?_
        refine lv_iload_n hx hb dX0_takeBack_58 rfl (lv_at hl 3 rfl) ?_
        refine lv_iload hx hb dX0_takeBack_59 (lv_at hl 0 rfl) ?_
        refine kv_callVi (wr := [(a_t_bagKinds, .inl (cI, 3, .inl t_bagKinds))]) (wn := (fun (u : Unit) => [(a_t, .inr (0, [.int t_bags, .int t_men, .ref a_t_bagKinds, .ref a_t_manKinds, .ref a_t_cells])), (a_t_bagKinds, .inl (cI, 3, .inl t_bagKinds)), (a_t_cells, .inl (cI, 23, .inl t_cells_40))])) (As := [.int x2, .int r_7]) (rest := []) ⟨hx, hb, hml, hown, hts⟩ hK hX hA hP hD hS (mtX0_owner l dC dI cI cZ a_t a_t_bagKinds a_t_manKinds a_t_cells H.size t_bags t_men t_cells_40 x2 r_7 _ hw) (cwV 2 hts gX0_takeBack_X0_owner rfl rfl rfl (by decide +kernel) ⟨Nat.le_of_ble_eq_true rfl, Nat.le_of_ble_eq_true rfl⟩) 0 0 rfl rfl rfl [0, 2] [1] [1, 0, 2] rfl rfl rfl rfl (by decide) (fun _ => rfl) rfl rfl hl.1 rfl (Nat.le_of_ble_eq_true rfl) ⟨Nat.zero_le _, Nat.zero_le _⟩ dX0_takeBack_61 (fun r_8 u H locs hw hP hD hS => ?_)
        refine lv_iload_n hx hb dX0_takeBack_64 rfl (lv_at hl 2 rfl) ?_
        refine lv_icmp_ne (tgt := 102) hx hb dX0_takeBack_65 (by decide) (fun c_9 => ?_) (fun c_9 => ?_)
        · have hw := hw.1 c_9
          obtain ⟨y_10, ey_10⟩ : ∃ y : Int32, y = (x3_40 + (1 : Int32)) := ⟨_, rfl⟩
          have hw := hw y_10 ey_10
          refine lv_iinc (v := y_10) (lv' := [(3, .int y_10), (4, .int r_7), (0, .ref a_t), (1, .int x1), (2, .int x2)]) hx hb dX0_takeBack_102 hl (k := 4) rfl (by rw [ey_10]; rfl) (by decide) rfl (fun ls hl => ?_)
          refine lv_goto (tgt := 40) hx hb dX0_takeBack_105 (by decide) ?_
          exact ih40 y_10 H _ ls hw hP hD hS (lv_sub hl [2, 3, 4, 0] rfl)
        · have hw := hw.2 c_9
          exact B68 t_cells_40 r_7 H _ ls hw hP hD hS (lv_sub hl [1, 2, 3, 0] rfl)
  have E40 : ∀ (t_cells_40 : Nat → Int32) (x3_40 : Int32) (H : Heap) (locs : List Loc) (ls : Array Slot), wpX0_takeBack_E40 t_bags t_men t_bagKinds x1 x2 post t_cells_40 x3_40 → va_P (dC, dI) vwCl [(a_t, .inr (0, [.int t_bags, .int t_men, .ref a_t_bagKinds, .ref a_t_manKinds, .ref a_t_cells])), (a_t_bagKinds, .inl (cI, 3, .inl t_bagKinds)), (a_t_cells, .inl (cI, 23, .inl t_cells_40))] H → va_D A [(a_t, .inr (0, [.int t_bags, .int t_men, .ref a_t_bagKinds, .ref a_t_manKinds, .ref a_t_cells])), (a_t_bagKinds, .inl (cI, 3, .inl t_bagKinds)), (a_t_cells, .inl (cI, 23, .inl t_cells_40))] → va_S A s.heap H locs → lv_has ls 5 [(0, .ref a_t), (1, .int x1), (2, .int x2), (3, .int x3_40)] → W p l e rmX0_takeBack s m [.ref a_t, .int x1, .int x2].toArray below meth c H locs 0 0 Q (F0 m 40 ls []) := by
    intro t_cells_40 x3_40 H locs ls hw hP hD hS hl
    obtain ⟨n, hw⟩ := hw
    exact L40 t_cells_40 n x3_40 H locs ls hw hP hD hS hl
  refine lv_aload_n hx hb dX0_takeBack_0 rfl (lv_at hl 0 rfl) ?_
  refine lv_iload_n hx hb dX0_takeBack_1 rfl (lv_at hl 1 rfl) ?_
  refine kv_callVi (wr := [(a_t_bagKinds, .inl (cI, 3, .inl t_bagKinds)), (a_t_cells, .inl (cI, 23, .inl t_cells))]) (wn := (fun (u : Unit) => [(a_t, .inr (0, [.int t_bags, .int t_men, .ref a_t_bagKinds, .ref a_t_manKinds, .ref a_t_cells])), (a_t_bagKinds, .inl (cI, 3, .inl t_bagKinds)), (a_t_cells, .inl (cI, 23, .inl t_cells))])) (As := [.int x1]) (rest := []) ⟨hx, hb, hml, hown, hts⟩ hK hX hA hP hD hS (mtX0_isMan l dC dI cI cZ a_t a_t_bagKinds a_t_manKinds a_t_cells s.heap.size t_bags t_men x1 _ hw) (cwV 1 hts gX0_takeBack_X0_isMan rfl rfl rfl (by decide +kernel) ⟨Nat.le_of_ble_eq_true rfl, Nat.le_of_ble_eq_true rfl⟩) 0 0 rfl rfl rfl [0] [1, 2] [2, 0, 1] rfl rfl rfl rfl (by decide) (fun _ => rfl) rfl rfl hl.1 rfl (Nat.le_of_ble_eq_true rfl) ⟨Nat.zero_le _, Nat.zero_le _⟩ dX0_takeBack_2 (fun r_11 u H locs hw hP hD hS => ?_)
  obtain ⟨hb_r_11, hw⟩ := hw
  refine lv_if_eq (tgt := 16) hx hb dX0_takeBack_5 (by decide) (fun c_12 => ?_) (fun c_12 => ?_)
  · have hw := hw.1 c_12
    refine lv_iconst (v := (-1 : Int32)) hx hb dX0_takeBack_16 (by decide) ?_
    exact hret (-1 : Int32) t_cells H _ _ ls hw hP hD hS dX0_takeBack_17
  · have hw := hw.2 c_12
    refine lv_aload_n hx hb dX0_takeBack_8 rfl (lv_at hl 0 rfl) ?_
    refine lv_iload_n hx hb dX0_takeBack_9 rfl (lv_at hl 2 rfl) ?_
    refine kv_callVi (wr := [(a_t_bagKinds, .inl (cI, 3, .inl t_bagKinds)), (a_t_cells, .inl (cI, 23, .inl t_cells))]) (wn := (fun (u : Unit) => [(a_t, .inr (0, [.int t_bags, .int t_men, .ref a_t_bagKinds, .ref a_t_manKinds, .ref a_t_cells])), (a_t_bagKinds, .inl (cI, 3, .inl t_bagKinds)), (a_t_cells, .inl (cI, 23, .inl t_cells))])) (As := [.int x2]) (rest := []) ⟨hx, hb, hml, hown, hts⟩ hK hX hA hP hD hS (mtX0_isBag l dC dI cI cZ a_t a_t_bagKinds a_t_manKinds a_t_cells H.size t_bags t_men x2 _ hw) (cwV 1 hts gX0_takeBack_X0_isBag rfl rfl rfl (by decide +kernel) ⟨Nat.le_of_ble_eq_true rfl, Nat.le_of_ble_eq_true rfl⟩) 0 0 rfl rfl rfl [0] [1, 2] [2, 0, 1] rfl rfl rfl rfl (by decide) (fun _ => rfl) rfl rfl hl.1 rfl (Nat.le_of_ble_eq_true rfl) ⟨Nat.zero_le _, Nat.zero_le _⟩ dX0_takeBack_10 (fun r_13 u H locs hw hP hD hS => ?_)
    obtain ⟨hb_r_13, hw⟩ := hw
    refine lv_if_ne (tgt := 18) hx hb dX0_takeBack_13 (by decide) (fun c_14 => ?_) (fun c_14 => ?_)
    · have hw := hw.1 c_14
      refine lv_aload_n hx hb dX0_takeBack_18 rfl (lv_at hl 0 rfl) ?_
      refine lv_iload_n hx hb dX0_takeBack_19 rfl (lv_at hl 1 rfl) ?_
      refine kv_callVi (wr := [(a_t_bagKinds, .inl (cI, 3, .inl t_bagKinds))]) (wn := (fun (u : Unit) => [(a_t, .inr (0, [.int t_bags, .int t_men, .ref a_t_bagKinds, .ref a_t_manKinds, .ref a_t_cells])), (a_t_bagKinds, .inl (cI, 3, .inl t_bagKinds)), (a_t_cells, .inl (cI, 23, .inl t_cells))])) (As := [.int x1]) (rest := []) ⟨hx, hb, hml, hown, hts⟩ hK hX hA hP hD hS (mtX0_hasFallen l dC dI cI cZ a_t a_t_bagKinds a_t_manKinds a_t_cells H.size t_bags t_men t_cells x1 _ hw) (cwV 1 hts gX0_takeBack_X0_hasFallen rfl rfl rfl (by decide +kernel) ⟨Nat.le_of_ble_eq_true rfl, Nat.le_of_ble_eq_true rfl⟩) 0 0 rfl rfl rfl [0, 2] [1] [1, 0, 2] rfl rfl rfl rfl (by decide) (fun _ => rfl) rfl rfl hl.1 rfl (Nat.le_of_ble_eq_true rfl) ⟨Nat.zero_le _, Nat.zero_le _⟩ dX0_takeBack_20 (fun r_15 u H locs hw hP hD hS => ?_)
      obtain ⟨hb_r_15, hw⟩ := hw
      refine lv_if_ne (tgt := 35) hx hb dX0_takeBack_23 (by decide) (fun c_16 => ?_) (fun c_16 => ?_)
      · have hw := hw.1 c_16
        refine lv_bipush (v := (-3 : Int32)) hx hb dX0_takeBack_35 (by decide) ?_
        exact hret (-3 : Int32) t_cells H _ _ ls hw hP hD hS dX0_takeBack_37
      · have hw := hw.2 c_16
        refine lv_aload_n hx hb dX0_takeBack_26 rfl (lv_at hl 0 rfl) ?_
        refine lv_iload_n hx hb dX0_takeBack_27 rfl (lv_at hl 2 rfl) ?_
        refine kv_callVi (wr := [(a_t_cells, .inl (cI, 23, .inl t_cells))]) (wn := (fun (u : Unit) => [(a_t, .inr (0, [.int t_bags, .int t_men, .ref a_t_bagKinds, .ref a_t_manKinds, .ref a_t_cells])), (a_t_bagKinds, .inl (cI, 3, .inl t_bagKinds)), (a_t_cells, .inl (cI, 23, .inl t_cells))])) (As := [.int x2]) (rest := []) ⟨hx, hb, hml, hown, hts⟩ hK hX hA hP hD hS (mtX0_kindOfBag l dC dI cI cZ a_t a_t_bagKinds a_t_manKinds a_t_cells H.size t_bags t_men t_bagKinds x2 _ hw) (cwV 1 hts gX0_takeBack_X0_kindOfBag rfl rfl rfl (by decide +kernel) ⟨Nat.le_of_ble_eq_true rfl, Nat.le_of_ble_eq_true rfl⟩) 0 0 rfl rfl rfl [0, 1] [2] [1, 2, 0] rfl rfl rfl rfl (by decide) (fun _ => rfl) rfl rfl hl.1 rfl (Nat.le_of_ble_eq_true rfl) ⟨Nat.zero_le _, Nat.zero_le _⟩ dX0_takeBack_28 (fun r_17 u H locs hw hP hD hS => ?_)
        refine lv_iconst (v := (3 : Int32)) hx hb dX0_takeBack_31 (by decide) ?_
        refine lv_icmp_ne (tgt := 38) hx hb dX0_takeBack_32 (by decide) (fun c_18 => ?_) (fun c_18 => ?_)
        · have hw := hw.1 c_18
          refine lv_iconst (v := (0 : Int32)) hx hb dX0_takeBack_38 (by decide) ?_
          refine lv_istore_n (lv' := [(3, .int (0 : Int32)), (0, .ref a_t), (1, .int x1), (2, .int x2)]) hx hb dX0_takeBack_39 rfl hl (by decide) rfl (fun ls hl => ?_)
          exact E40 t_cells (0 : Int32) H _ ls hw hP hD hS (lv_sub hl [1, 2, 3, 0] rfl)
        · have hw := hw.2 c_18
          refine lv_bipush (v := (-3 : Int32)) hx hb dX0_takeBack_35 (by decide) ?_
          exact hret (-3 : Int32) t_cells H _ _ ls hw hP hD hS dX0_takeBack_37
    · have hw := hw.2 c_14
      refine lv_iconst (v := (-1 : Int32)) hx hb dX0_takeBack_16 (by decide) ?_
      exact hret (-1 : Int32) t_cells H _ _ ls hw hP hD hS dX0_takeBack_17

def wpX0_cutOpen_L25 (t_bags : Int32) (x1 : Int32) (x2_25 : Int32) (post : Int32 → (Nat → Int32) → Prop) : Nat → (Nat → Int32) → Int32 → Prop
  | 0, _, _ => False
  | n + 1, t_cells_25, x3_25 => ((x2_25 ≤ x3_25 → post x2_25 t_cells_25) ∧ (¬ x2_25 ≤ x3_25 → wpX0_lose t_cells_25 x1 (0 : Int32) (fun t_cells_2 => ∀ y_3 : Int32, y_3 = (x3_25 + (1 : Int32)) → wpX0_cutOpen_L25 t_bags x1 x2_25 post n t_cells_2 y_3)))
def wpX0_cutOpen_E25 (t_bags : Int32) (x1 : Int32) (post : Int32 → (Nat → Int32) → Prop) (t_cells_25 : Nat → Int32) (x2_25 : Int32) (x3_25 : Int32) : Prop := ∃ n : Nat, wpX0_cutOpen_L25 t_bags x1 x2_25 post n t_cells_25 x3_25
def wpX0_cutOpen (t_bags : Int32) (t_cells : Nat → Int32) (x1 : Int32) (post : Int32 → (Nat → Int32) → Prop) : Prop := wpX0_isBag t_bags x1 (fun r_4 => ((¬ r_4 = 0 → wpX0_breathsIn t_bags t_cells x1 (fun r_6 => ((¬ r_6 = 0 → wpX0_cutOpen_E25 t_bags x1 post t_cells r_6 (0 : Int32)) ∧ (r_6 = 0 → post (-3 : Int32) t_cells)))) ∧ (r_4 = 0 → post (-1 : Int32) t_cells)))
abbrev rmX0_cutOpen : Room := { frames := 4, cells := 0, slots := 0, locals := 91 }
set_option maxHeartbeats 4000000 in
set_option maxRecDepth 100000 in
theorem mtX0_cutOpen (l : Launch) (dC : Nat → ClassId) (dI : Nat → Nat → Nat) (cI cZ : ClassId) (a_t : Nat) (a_t_bagKinds : Nat) (a_t_manKinds : Nat) (a_t_cells : Nat) (sz : Nat) (t_bags : Int32) (d_t_men : Int32) (t_cells : Nat → Int32) (x1 : Int32) (post : Int32 → (Nat → Int32) → Prop) (hw : wpX0_cutOpen t_bags t_cells x1 post) : Met l yX0_cutOpen wsX0_cutOpen rmX0_cutOpen (va_Pc [.ref a_t, .int x1] (kvPre (dC, dI) cI cZ sz [(a_t, .inr (0, [.int t_bags, .int d_t_men, .ref a_t_bagKinds, .ref a_t_manKinds, .ref a_t_cells])), (a_t_cells, .inl (cI, 23, .inl t_cells))])) (va_Qi (fun (r : Int32) (u : (Nat → Int32)) => post r u) (kvB (dC, dI) (va_A [(a_t, .inr (0, [.int t_bags, .int d_t_men, .ref a_t_bagKinds, .ref a_t_manKinds, .ref a_t_cells])), (a_t_cells, .inl (cI, 23, .inl t_cells))] sz) (fun (u : (Nat → Int32)) => [(a_t, .inr (0, [.int t_bags, .int d_t_men, .ref a_t_bagKinds, .ref a_t_manKinds, .ref a_t_cells])), (a_t_cells, .inl (cI, 23, .inl u))])) (va_A [(a_t, .inr (0, [.int t_bags, .int d_t_men, .ref a_t_bagKinds, .ref a_t_manKinds, .ref a_t_cells])), (a_t_cells, .inl (cI, 23, .inl t_cells))] sz)) 0 0 (va_A [(a_t, .inr (0, [.int t_bags, .int d_t_men, .ref a_t_bagKinds, .ref a_t_manKinds, .ref a_t_cells])), (a_t_cells, .inl (cI, 23, .inl t_cells))] sz) := by
  refine kv_metI (y := yX0_cutOpen) (ws := wsX0_cutOpen) (rm := rmX0_cutOpen) (av := [.ref a_t, .int x1]) (sz := sz) (w := [(a_t, .inr (0, [.int t_bags, .int d_t_men, .ref a_t_bagKinds, .ref a_t_manKinds, .ref a_t_cells])), (a_t_cells, .inl (cI, 23, .inl t_cells))]) (cc := cX0_cutOpen) (maxL := 4) (own := RX0) (post := (fun (r : Int32) (u : (Nat → Int32)) => post r u)) (w1 := (fun (u : (Nat → Int32)) => [(a_t, .inr (0, [.int t_bags, .int d_t_men, .ref a_t_bagKinds, .ref a_t_manKinds, .ref a_t_cells])), (a_t_cells, .inl (cI, 23, .inl u))])) (by decide) rfl rfl (Nat.le_of_ble_eq_true rfl) ?_
  intro p e s m below meth c A Q hx hb hml hown hts hK hX hA hP hD hsz hret ls hl
  have hS : va_S A s.heap s.heap [] := va_S.rf
  have hl : lv_has ls 4 [(0, .ref a_t), (1, .int x1)] := hl
  have L25 : ∀ (x2_25 : Int32) (n25 : Nat) (t_cells_25 : Nat → Int32) (x3_25 : Int32) (H : Heap) (locs : List Loc) (ls : Array Slot), wpX0_cutOpen_L25 t_bags x1 x2_25 post n25 t_cells_25 x3_25 → va_P (dC, dI) vwCl [(a_t, .inr (0, [.int t_bags, .int d_t_men, .ref a_t_bagKinds, .ref a_t_manKinds, .ref a_t_cells])), (a_t_cells, .inl (cI, 23, .inl t_cells_25))] H → va_D A [(a_t, .inr (0, [.int t_bags, .int d_t_men, .ref a_t_bagKinds, .ref a_t_manKinds, .ref a_t_cells])), (a_t_cells, .inl (cI, 23, .inl t_cells_25))] → va_S A s.heap H locs → lv_has ls 4 [(0, .ref a_t), (1, .int x1), (2, .int x2_25), (3, .int x3_25)] → W p l e rmX0_cutOpen s m [.ref a_t, .int x1].toArray below meth c H locs 0 0 Q (F0 m 25 ls []) := by
    intro x2_25 n25
    induction n25 with
    | zero => intro t_cells_25 x3_25 H locs ls hw hP hD hS hl; exact hw.elim
    | succ n25 ih25 =>
      intro t_cells_25 x3_25 H locs ls hw hP hD hS hl
      refine lv_iload_n hx hb dX0_cutOpen_25 rfl (lv_at hl 3 rfl) ?_
      refine lv_iload_n hx hb dX0_cutOpen_26 rfl (lv_at hl 2 rfl) ?_
      refine lv_icmp_ge (tgt := 42) hx hb dX0_cutOpen_27 (by decide) (fun c_1 => ?_) (fun c_1 => ?_)
      · have hw := hw.1 c_1
        refine lv_iload_n hx hb dX0_cutOpen_42 rfl (lv_at hl 2 rfl) ?_
        exact hret x2_25 t_cells_25 H _ _ ls hw hP hD hS dX0_cutOpen_43
      · have hw := hw.2 c_1
        refine lv_aload_n hx hb dX0_cutOpen_30 rfl (lv_at hl 0 rfl) ?_
        refine lv_iload_n hx hb dX0_cutOpen_31 rfl (lv_at hl 1 rfl) ?_
        refine lv_iconst (v := (0 : Int32)) hx hb dX0_cutOpen_32 (by decide) ?_
        refine kv_callVv (wr := []) (wn := (fun (u : (Nat → Int32)) => [(a_t, .inr (0, [.int t_bags, .int d_t_men, .ref a_t_bagKinds, .ref a_t_manKinds, .ref a_t_cells])), (a_t_cells, .inl (cI, 23, .inl u))])) (As := [.int x1, .int (0 : Int32)]) (rest := []) ⟨hx, hb, hml, hown, hts⟩ hK hX hA hP hD hS (mtX0_lose l dC dI cI cZ a_t a_t_bagKinds a_t_manKinds a_t_cells H.size t_bags d_t_men t_cells_25 x1 (0 : Int32) _ hw) (cwV 2 hts gX0_cutOpen_X0_lose rfl rfl rfl (by decide +kernel) ⟨Nat.le_of_ble_eq_true rfl, Nat.le_of_ble_eq_true rfl⟩) 0 0 rfl rfl rfl [0, 1] [] [0, 1] rfl rfl rfl rfl (by decide) (fun _ => rfl) rfl rfl hl.1 rfl (Nat.le_of_ble_eq_true rfl) ⟨Nat.zero_le _, Nat.zero_le _⟩ dX0_cutOpen_33 (fun u H locs hw hP hD hS => ?_)
        obtain ⟨t_cells_2, rfl⟩ : ∃ z, z = u := ⟨_, rfl⟩
        have hP : va_P (dC, dI) vwCl [(a_t, .inr (0, [.int t_bags, .int d_t_men, .ref a_t_bagKinds, .ref a_t_manKinds, .ref a_t_cells])), (a_t_cells, .inl (cI, 23, .inl t_cells_2))] H := hP
        have hD : va_D A [(a_t, .inr (0, [.int t_bags, .int d_t_men, .ref a_t_bagKinds, .ref a_t_manKinds, .ref a_t_cells])), (a_t_cells, .inl (cI, 23, .inl t_cells_2))] := hD
        obtain ⟨y_3, ey_3⟩ : ∃ y : Int32, y = (x3_25 + (1 : Int32)) := ⟨_, rfl⟩
        have hw := hw y_3 ey_3
        refine lv_iinc (v := y_3) (lv' := [(3, .int y_3), (0, .ref a_t), (1, .int x1), (2, .int x2_25)]) hx hb dX0_cutOpen_36 hl (k := 3) rfl (by rw [ey_3]; rfl) (by decide) rfl (fun ls hl => ?_)
        refine lv_goto (tgt := 25) hx hb dX0_cutOpen_39 (by decide) ?_
        exact ih25 t_cells_2 y_3 H _ ls hw hP hD hS (lv_sub hl [1, 2, 3, 0] rfl)
  have E25 : ∀ (t_cells_25 : Nat → Int32) (x2_25 : Int32) (x3_25 : Int32) (H : Heap) (locs : List Loc) (ls : Array Slot), wpX0_cutOpen_E25 t_bags x1 post t_cells_25 x2_25 x3_25 → va_P (dC, dI) vwCl [(a_t, .inr (0, [.int t_bags, .int d_t_men, .ref a_t_bagKinds, .ref a_t_manKinds, .ref a_t_cells])), (a_t_cells, .inl (cI, 23, .inl t_cells_25))] H → va_D A [(a_t, .inr (0, [.int t_bags, .int d_t_men, .ref a_t_bagKinds, .ref a_t_manKinds, .ref a_t_cells])), (a_t_cells, .inl (cI, 23, .inl t_cells_25))] → va_S A s.heap H locs → lv_has ls 4 [(0, .ref a_t), (1, .int x1), (2, .int x2_25), (3, .int x3_25)] → W p l e rmX0_cutOpen s m [.ref a_t, .int x1].toArray below meth c H locs 0 0 Q (F0 m 25 ls []) := by
    intro t_cells_25 x2_25 x3_25 H locs ls hw hP hD hS hl
    obtain ⟨n, hw⟩ := hw
    exact L25 x2_25 n t_cells_25 x3_25 H locs ls hw hP hD hS hl
  refine lv_aload_n hx hb dX0_cutOpen_0 rfl (lv_at hl 0 rfl) ?_
  refine lv_iload_n hx hb dX0_cutOpen_1 rfl (lv_at hl 1 rfl) ?_
  refine kv_callVi (wr := [(a_t_cells, .inl (cI, 23, .inl t_cells))]) (wn := (fun (u : Unit) => [(a_t, .inr (0, [.int t_bags, .int d_t_men, .ref a_t_bagKinds, .ref a_t_manKinds, .ref a_t_cells])), (a_t_cells, .inl (cI, 23, .inl t_cells))])) (As := [.int x1]) (rest := []) ⟨hx, hb, hml, hown, hts⟩ hK hX hA hP hD hS (mtX0_isBag l dC dI cI cZ a_t a_t_bagKinds a_t_manKinds a_t_cells s.heap.size t_bags d_t_men x1 _ hw) (cwV 1 hts gX0_cutOpen_X0_isBag rfl rfl rfl (by decide +kernel) ⟨Nat.le_of_ble_eq_true rfl, Nat.le_of_ble_eq_true rfl⟩) 0 0 rfl rfl rfl [0] [1] [1, 0] rfl rfl rfl rfl (by decide) (fun _ => rfl) rfl rfl hl.1 rfl (Nat.le_of_ble_eq_true rfl) ⟨Nat.zero_le _, Nat.zero_le _⟩ dX0_cutOpen_2 (fun r_4 u H locs hw hP hD hS => ?_)
  obtain ⟨hb_r_4, hw⟩ := hw
  refine lv_if_ne (tgt := 10) hx hb dX0_cutOpen_5 (by decide) (fun c_5 => ?_) (fun c_5 => ?_)
  · have hw := hw.1 c_5
    refine lv_aload_n hx hb dX0_cutOpen_10 rfl (lv_at hl 0 rfl) ?_
    refine lv_iload_n hx hb dX0_cutOpen_11 rfl (lv_at hl 1 rfl) ?_
    refine kv_callVi (wr := []) (wn := (fun (u : Unit) => [(a_t, .inr (0, [.int t_bags, .int d_t_men, .ref a_t_bagKinds, .ref a_t_manKinds, .ref a_t_cells])), (a_t_cells, .inl (cI, 23, .inl t_cells))])) (As := [.int x1]) (rest := []) ⟨hx, hb, hml, hown, hts⟩ hK hX hA hP hD hS (mtX0_breathsIn l dC dI cI cZ a_t a_t_bagKinds a_t_manKinds a_t_cells H.size t_bags d_t_men t_cells x1 _ hw) (cwV 1 hts gX0_cutOpen_X0_breathsIn rfl rfl rfl (by decide +kernel) ⟨Nat.le_of_ble_eq_true rfl, Nat.le_of_ble_eq_true rfl⟩) 0 0 rfl rfl rfl [0, 1] [] [0, 1] rfl rfl rfl rfl (by decide) (fun _ => rfl) rfl rfl hl.1 rfl (Nat.le_of_ble_eq_true rfl) ⟨Nat.zero_le _, Nat.zero_le _⟩ dX0_cutOpen_12 (fun r_6 u H locs hw hP hD hS => ?_)
    refine lv_istore_n (lv' := [(2, .int r_6), (0, .ref a_t), (1, .int x1)]) hx hb dX0_cutOpen_15 rfl hl (by decide) rfl (fun ls hl => ?_)
    refine lv_iload_n hx hb dX0_cutOpen_16 rfl (lv_at hl 0 rfl) ?_
    refine lv_if_ne (tgt := 23) hx hb dX0_cutOpen_17 (by decide) (fun c_7 => ?_) (fun c_7 => ?_)
    · have hw := hw.1 c_7
      refine lv_iconst (v := (0 : Int32)) hx hb dX0_cutOpen_23 (by decide) ?_
      refine lv_istore_n (lv' := [(3, .int (0 : Int32)), (2, .int r_6), (0, .ref a_t), (1, .int x1)]) hx hb dX0_cutOpen_24 rfl hl (by decide) rfl (fun ls hl => ?_)
      exact E25 t_cells r_6 (0 : Int32) H _ ls hw hP hD hS (lv_sub hl [2, 3, 1, 0] rfl)
    · have hw := hw.2 c_7
      refine lv_bipush (v := (-3 : Int32)) hx hb dX0_cutOpen_20 (by decide) ?_
      exact hret (-3 : Int32) t_cells H _ _ ls hw hP hD hS dX0_cutOpen_22
  · have hw := hw.2 c_5
    refine lv_iconst (v := (-1 : Int32)) hx hb dX0_cutOpen_8 (by decide) ?_
    exact hret (-1 : Int32) t_cells H _ _ ls hw hP hD hS dX0_cutOpen_9

def wpX0_loseMan (t_bags : Int32) (t_men : Int32) (t_cells : Nat → Int32) (x1 : Int32) (post : Int32 → (Nat → Int32) → Prop) : Prop := wpX0_isMan t_men x1 (fun r_1 => ((¬ r_1 = 0 → wpX0_hasFallen t_cells x1 (fun r_3 => ((r_3 = 0 → wpX0_fallenBits t_cells (fun r_5 => wpX0_setCell t_cells (1 : Int32) (r_5 ||| ((1 : Int32) <<< (x1 &&& 31))) (fun t_cells_6 => wpX0_left t_bags t_cells_6 (fun r_7 => post r_7 t_cells_6)))) ∧ (¬ r_3 = 0 → post (-3 : Int32) t_cells)))) ∧ (r_1 = 0 → post (-1 : Int32) t_cells)))
abbrev rmX0_loseMan : Room := { frames := 4, cells := 0, slots := 0, locals := 87 }
set_option maxHeartbeats 4000000 in
set_option maxRecDepth 100000 in
theorem mtX0_loseMan (l : Launch) (dC : Nat → ClassId) (dI : Nat → Nat → Nat) (cI cZ : ClassId) (a_t : Nat) (a_t_bagKinds : Nat) (a_t_manKinds : Nat) (a_t_cells : Nat) (sz : Nat) (t_bags : Int32) (t_men : Int32) (t_cells : Nat → Int32) (x1 : Int32) (post : Int32 → (Nat → Int32) → Prop) (hw : wpX0_loseMan t_bags t_men t_cells x1 post) : Met l yX0_loseMan wsX0_loseMan rmX0_loseMan (va_Pc [.ref a_t, .int x1] (kvPre (dC, dI) cI cZ sz [(a_t, .inr (0, [.int t_bags, .int t_men, .ref a_t_bagKinds, .ref a_t_manKinds, .ref a_t_cells])), (a_t_cells, .inl (cI, 23, .inl t_cells))])) (va_Qi (fun (r : Int32) (u : (Nat → Int32)) => post r u) (kvB (dC, dI) (va_A [(a_t, .inr (0, [.int t_bags, .int t_men, .ref a_t_bagKinds, .ref a_t_manKinds, .ref a_t_cells])), (a_t_cells, .inl (cI, 23, .inl t_cells))] sz) (fun (u : (Nat → Int32)) => [(a_t, .inr (0, [.int t_bags, .int t_men, .ref a_t_bagKinds, .ref a_t_manKinds, .ref a_t_cells])), (a_t_cells, .inl (cI, 23, .inl u))])) (va_A [(a_t, .inr (0, [.int t_bags, .int t_men, .ref a_t_bagKinds, .ref a_t_manKinds, .ref a_t_cells])), (a_t_cells, .inl (cI, 23, .inl t_cells))] sz)) 0 0 (va_A [(a_t, .inr (0, [.int t_bags, .int t_men, .ref a_t_bagKinds, .ref a_t_manKinds, .ref a_t_cells])), (a_t_cells, .inl (cI, 23, .inl t_cells))] sz) := by
  refine kv_metI (y := yX0_loseMan) (ws := wsX0_loseMan) (rm := rmX0_loseMan) (av := [.ref a_t, .int x1]) (sz := sz) (w := [(a_t, .inr (0, [.int t_bags, .int t_men, .ref a_t_bagKinds, .ref a_t_manKinds, .ref a_t_cells])), (a_t_cells, .inl (cI, 23, .inl t_cells))]) (cc := cX0_loseMan) (maxL := 2) (own := RX0) (post := (fun (r : Int32) (u : (Nat → Int32)) => post r u)) (w1 := (fun (u : (Nat → Int32)) => [(a_t, .inr (0, [.int t_bags, .int t_men, .ref a_t_bagKinds, .ref a_t_manKinds, .ref a_t_cells])), (a_t_cells, .inl (cI, 23, .inl u))])) (by decide) rfl rfl (Nat.le_of_ble_eq_true rfl) ?_
  intro p e s m below meth c A Q hx hb hml hown hts hK hX hA hP hD hsz hret ls hl
  have hS : va_S A s.heap s.heap [] := va_S.rf
  have hl : lv_has ls 2 [(0, .ref a_t), (1, .int x1)] := hl
  refine lv_aload_n hx hb dX0_loseMan_0 rfl (lv_at hl 0 rfl) ?_
  refine lv_iload_n hx hb dX0_loseMan_1 rfl (lv_at hl 1 rfl) ?_
  refine kv_callVi (wr := [(a_t_cells, .inl (cI, 23, .inl t_cells))]) (wn := (fun (u : Unit) => [(a_t, .inr (0, [.int t_bags, .int t_men, .ref a_t_bagKinds, .ref a_t_manKinds, .ref a_t_cells])), (a_t_cells, .inl (cI, 23, .inl t_cells))])) (As := [.int x1]) (rest := []) ⟨hx, hb, hml, hown, hts⟩ hK hX hA hP hD hS (mtX0_isMan l dC dI cI cZ a_t a_t_bagKinds a_t_manKinds a_t_cells s.heap.size t_bags t_men x1 _ hw) (cwV 1 hts gX0_loseMan_X0_isMan rfl rfl rfl (by decide +kernel) ⟨Nat.le_of_ble_eq_true rfl, Nat.le_of_ble_eq_true rfl⟩) 0 0 rfl rfl rfl [0] [1] [1, 0] rfl rfl rfl rfl (by decide) (fun _ => rfl) rfl rfl hl.1 rfl (Nat.le_of_ble_eq_true rfl) ⟨Nat.zero_le _, Nat.zero_le _⟩ dX0_loseMan_2 (fun r_1 u H locs hw hP hD hS => ?_)
  obtain ⟨hb_r_1, hw⟩ := hw
  refine lv_if_ne (tgt := 10) hx hb dX0_loseMan_5 (by decide) (fun c_2 => ?_) (fun c_2 => ?_)
  · have hw := hw.1 c_2
    refine lv_aload_n hx hb dX0_loseMan_10 rfl (lv_at hl 0 rfl) ?_
    refine lv_iload_n hx hb dX0_loseMan_11 rfl (lv_at hl 1 rfl) ?_
    refine kv_callVi (wr := []) (wn := (fun (u : Unit) => [(a_t, .inr (0, [.int t_bags, .int t_men, .ref a_t_bagKinds, .ref a_t_manKinds, .ref a_t_cells])), (a_t_cells, .inl (cI, 23, .inl t_cells))])) (As := [.int x1]) (rest := []) ⟨hx, hb, hml, hown, hts⟩ hK hX hA hP hD hS (mtX0_hasFallen l dC dI cI cZ a_t a_t_bagKinds a_t_manKinds a_t_cells H.size t_bags t_men t_cells x1 _ hw) (cwV 1 hts gX0_loseMan_X0_hasFallen rfl rfl rfl (by decide +kernel) ⟨Nat.le_of_ble_eq_true rfl, Nat.le_of_ble_eq_true rfl⟩) 0 0 rfl rfl rfl [0, 1] [] [0, 1] rfl rfl rfl rfl (by decide) (fun _ => rfl) rfl rfl hl.1 rfl (Nat.le_of_ble_eq_true rfl) ⟨Nat.zero_le _, Nat.zero_le _⟩ dX0_loseMan_12 (fun r_3 u H locs hw hP hD hS => ?_)
    obtain ⟨hb_r_3, hw⟩ := hw
    refine lv_if_eq (tgt := 21) hx hb dX0_loseMan_15 (by decide) (fun c_4 => ?_) (fun c_4 => ?_)
    · have hw := hw.1 c_4
      refine lv_aload_n hx hb dX0_loseMan_21 rfl (lv_at hl 0 rfl) ?_
      refine lv_iconst (v := (1 : Int32)) hx hb dX0_loseMan_22 (by decide) ?_
      refine lv_aload_n hx hb dX0_loseMan_23 rfl (lv_at hl 0 rfl) ?_
      refine kv_callVi (wr := []) (wn := (fun (u : Unit) => [(a_t, .inr (0, [.int t_bags, .int t_men, .ref a_t_bagKinds, .ref a_t_manKinds, .ref a_t_cells])), (a_t_cells, .inl (cI, 23, .inl t_cells))])) (As := []) (rest := [.int (1 : Int32), .ref a_t]) ⟨hx, hb, hml, hown, hts⟩ hK hX hA hP hD hS (mtX0_fallenBits l dC dI cI cZ a_t a_t_bagKinds a_t_manKinds a_t_cells H.size t_bags t_men t_cells _ hw) (cwV 0 hts gX0_loseMan_X0_fallenBits rfl rfl rfl (by decide +kernel) ⟨Nat.le_of_ble_eq_true rfl, Nat.le_of_ble_eq_true rfl⟩) 0 0 rfl rfl rfl [0, 1] [] [0, 1] rfl rfl rfl rfl (by decide) (fun _ => rfl) rfl rfl hl.1 rfl (Nat.le_of_ble_eq_true rfl) ⟨Nat.zero_le _, Nat.zero_le _⟩ dX0_loseMan_24 (fun r_5 u H locs hw hP hD hS => ?_)
      refine lv_iconst (v := (1 : Int32)) hx hb dX0_loseMan_27 (by decide) ?_
      refine lv_iload_n hx hb dX0_loseMan_28 rfl (lv_at hl 1 rfl) ?_
      refine lv_ishl hx hb dX0_loseMan_29 ?_
      refine lv_ior hx hb dX0_loseMan_30 ?_
      refine kv_callVv (wr := []) (wn := (fun (u : (Nat → Int32)) => [(a_t, .inr (0, [.int t_bags, .int t_men, .ref a_t_bagKinds, .ref a_t_manKinds, .ref a_t_cells])), (a_t_cells, .inl (cI, 23, .inl u))])) (As := [.int (1 : Int32), .int (r_5 ||| ((1 : Int32) <<< (x1 &&& 31)))]) (rest := []) ⟨hx, hb, hml, hown, hts⟩ hK hX hA hP hD hS (mtX0_setCell l dC dI cI cZ a_t a_t_bagKinds a_t_manKinds a_t_cells H.size t_bags t_men t_cells (1 : Int32) (r_5 ||| ((1 : Int32) <<< (x1 &&& 31))) _ hw) (cwV 2 hts gX0_loseMan_X0_setCell rfl rfl rfl (by decide +kernel) ⟨Nat.le_of_ble_eq_true rfl, Nat.le_of_ble_eq_true rfl⟩) 0 0 rfl rfl rfl [0, 1] [] [0, 1] rfl rfl rfl rfl (by decide) (fun _ => rfl) rfl rfl hl.1 rfl (Nat.le_of_ble_eq_true rfl) ⟨Nat.zero_le _, Nat.zero_le _⟩ dX0_loseMan_31 (fun u H locs hw hP hD hS => ?_)
      obtain ⟨t_cells_6, rfl⟩ : ∃ z, z = u := ⟨_, rfl⟩
      have hP : va_P (dC, dI) vwCl [(a_t, .inr (0, [.int t_bags, .int t_men, .ref a_t_bagKinds, .ref a_t_manKinds, .ref a_t_cells])), (a_t_cells, .inl (cI, 23, .inl t_cells_6))] H := hP
      have hD : va_D A [(a_t, .inr (0, [.int t_bags, .int t_men, .ref a_t_bagKinds, .ref a_t_manKinds, .ref a_t_cells])), (a_t_cells, .inl (cI, 23, .inl t_cells_6))] := hD
      refine lv_aload_n hx hb dX0_loseMan_34 rfl (lv_at hl 0 rfl) ?_
      refine kv_callVi (wr := []) (wn := (fun (u : Unit) => [(a_t, .inr (0, [.int t_bags, .int t_men, .ref a_t_bagKinds, .ref a_t_manKinds, .ref a_t_cells])), (a_t_cells, .inl (cI, 23, .inl t_cells_6))])) (As := []) (rest := []) ⟨hx, hb, hml, hown, hts⟩ hK hX hA hP hD hS (mtX0_left l dC dI cI cZ a_t a_t_bagKinds a_t_manKinds a_t_cells H.size t_bags t_men t_cells_6 _ hw) (cwV 0 hts gX0_loseMan_X0_left rfl rfl rfl (by decide +kernel) ⟨Nat.le_of_ble_eq_true rfl, Nat.le_of_ble_eq_true rfl⟩) 0 0 rfl rfl rfl [0, 1] [] [0, 1] rfl rfl rfl rfl (by decide) (fun _ => rfl) rfl rfl hl.1 rfl (Nat.le_of_ble_eq_true rfl) ⟨Nat.zero_le _, Nat.zero_le _⟩ dX0_loseMan_35 (fun r_7 u H locs hw hP hD hS => ?_)
      exact hret r_7 t_cells_6 H _ _ ls hw hP hD hS dX0_loseMan_38
    · have hw := hw.2 c_4
      refine lv_bipush (v := (-3 : Int32)) hx hb dX0_loseMan_18 (by decide) ?_
      exact hret (-3 : Int32) t_cells H _ _ ls hw hP hD hS dX0_loseMan_20
  · have hw := hw.2 c_2
    refine lv_iconst (v := (-1 : Int32)) hx hb dX0_loseMan_8 (by decide) ?_
    exact hret (-1 : Int32) t_cells H _ _ ls hw hP hD hS dX0_loseMan_9

def wpX0_passSunday_J84 (t_men : Int32) (t_manKinds : Nat → Int32) (kL2 : (Nat → Int32) → Int32 → Prop) (post : (Nat → Int32) → Prop) (t_cells_84 : Nat → Int32) (x1_84 : Int32) : Prop := ∀ y_1 : Int32, y_1 = (x1_84 + (1 : Int32)) → kL2 t_cells_84 y_1
def wpX0_passSunday_J81 (t_men : Int32) (t_manKinds : Nat → Int32) (kL2 : (Nat → Int32) → Int32 → Prop) (post : (Nat → Int32) → Prop) (t_cells_81 : Nat → Int32) (x1_81 : Int32) (k0_81 : Int32) (k1_81 : Int32) : Prop := wpX0_addTo t_cells_81 k1_81 k0_81 (fun t_cells_2 => wpX0_passSunday_J84 t_men t_manKinds kL2 post t_cells_2 x1_81)
def wpX0_passSunday_J43 (t_men : Int32) (t_manKinds : Nat → Int32) (kL2 : (Nat → Int32) → Int32 → Prop) (post : (Nat → Int32) → Prop) (t_cells_43 : Nat → Int32) (x1_43 : Int32) (x2_43 : Int32) (k0_43 : Int32) (k1_43 : Int32) : Prop := ((k1_43 ≤ k0_43 → ((¬ x2_43 = (3 : Int32) → ((¬ x2_43 = (2 : Int32) → wpX0_passSunday_J81 t_men t_manKinds kL2 post t_cells_43 x1_43 (1 : Int32) ((7 : Int32) + x1_43)) ∧ (x2_43 = (2 : Int32) → wpX0_passSunday_J81 t_men t_manKinds kL2 post t_cells_43 x1_43 (2 : Int32) ((7 : Int32) + x1_43)))) ∧ (x2_43 = (3 : Int32) → wpX0_passSunday_J81 t_men t_manKinds kL2 post t_cells_43 x1_43 (0 : Int32) ((7 : Int32) + x1_43)))) ∧ (¬ k1_43 ≤ k0_43 → wpX0_addTo t_cells_43 ((2 : Int32) + x1_43) (-1 : Int32) (fun t_cells_6 => wpX0_passSunday_J84 t_men t_manKinds kL2 post t_cells_6 x1_43)))
def wpX0_passSunday_L2 (t_men : Int32) (t_manKinds : Nat → Int32) (post : (Nat → Int32) → Prop) : Nat → (Nat → Int32) → Int32 → Prop
  | 0, _, _ => False
  | n + 1, t_cells_2, x1_2 => ((t_men ≤ x1_2 → post t_cells_2) ∧ (¬ t_men ≤ x1_2 → wpX0_hasFallen t_cells_2 x1_2 (fun r_8 => ((r_8 = 0 → wpX0_kindOfMan t_men t_manKinds x1_2 (fun r_10 => wpX0_ofMan t_men t_cells_2 (2 : Int32) x1_2 (fun r_11 => ((¬ r_10 = (1 : Int32) → wpX0_passSunday_J43 t_men t_manKinds (wpX0_passSunday_L2 t_men t_manKinds post n) post t_cells_2 x1_2 r_10 (0 : Int32) r_11) ∧ (r_10 = (1 : Int32) → wpX0_passSunday_J43 t_men t_manKinds (wpX0_passSunday_L2 t_men t_manKinds post n) post t_cells_2 x1_2 r_10 (1 : Int32) r_11))))) ∧ (¬ r_8 = 0 → wpX0_passSunday_J84 t_men t_manKinds (wpX0_passSunday_L2 t_men t_manKinds post n) post t_cells_2 x1_2)))))
def wpX0_passSunday_E2 (t_men : Int32) (t_manKinds : Nat → Int32) (post : (Nat → Int32) → Prop) (t_cells_2 : Nat → Int32) (x1_2 : Int32) : Prop := ∃ n : Nat, wpX0_passSunday_L2 t_men t_manKinds post n t_cells_2 x1_2
def wpX0_passSunday (t_men : Int32) (t_manKinds : Nat → Int32) (t_cells : Nat → Int32) (post : (Nat → Int32) → Prop) : Prop := wpX0_passSunday_E2 t_men t_manKinds post t_cells (0 : Int32)
abbrev rmX0_passSunday : Room := { frames := 3, cells := 0, slots := 0, locals := 62 }
set_option maxHeartbeats 4000000 in
set_option maxRecDepth 100000 in
theorem mtX0_passSunday (l : Launch) (dC : Nat → ClassId) (dI : Nat → Nat → Nat) (cI cZ : ClassId) (a_t : Nat) (a_t_bagKinds : Nat) (a_t_manKinds : Nat) (a_t_cells : Nat) (sz : Nat) (d_t_bags : Int32) (t_men : Int32) (t_manKinds : Nat → Int32) (t_cells : Nat → Int32) (post : (Nat → Int32) → Prop) (hw : wpX0_passSunday t_men t_manKinds t_cells post) : Met l yX0_passSunday wsX0_passSunday rmX0_passSunday (va_Pc [.ref a_t] (kvPre (dC, dI) cI cZ sz [(a_t, .inr (0, [.int d_t_bags, .int t_men, .ref a_t_bagKinds, .ref a_t_manKinds, .ref a_t_cells])), (a_t_manKinds, .inl (cI, 5, .inl t_manKinds)), (a_t_cells, .inl (cI, 23, .inl t_cells))])) (va_Qv (fun (u : (Nat → Int32)) => post u) (kvB (dC, dI) (va_A [(a_t, .inr (0, [.int d_t_bags, .int t_men, .ref a_t_bagKinds, .ref a_t_manKinds, .ref a_t_cells])), (a_t_manKinds, .inl (cI, 5, .inl t_manKinds)), (a_t_cells, .inl (cI, 23, .inl t_cells))] sz) (fun (u : (Nat → Int32)) => [(a_t, .inr (0, [.int d_t_bags, .int t_men, .ref a_t_bagKinds, .ref a_t_manKinds, .ref a_t_cells])), (a_t_manKinds, .inl (cI, 5, .inl t_manKinds)), (a_t_cells, .inl (cI, 23, .inl u))])) (va_A [(a_t, .inr (0, [.int d_t_bags, .int t_men, .ref a_t_bagKinds, .ref a_t_manKinds, .ref a_t_cells])), (a_t_manKinds, .inl (cI, 5, .inl t_manKinds)), (a_t_cells, .inl (cI, 23, .inl t_cells))] sz)) 0 0 (va_A [(a_t, .inr (0, [.int d_t_bags, .int t_men, .ref a_t_bagKinds, .ref a_t_manKinds, .ref a_t_cells])), (a_t_manKinds, .inl (cI, 5, .inl t_manKinds)), (a_t_cells, .inl (cI, 23, .inl t_cells))] sz) := by
  refine kv_metV (y := yX0_passSunday) (ws := wsX0_passSunday) (rm := rmX0_passSunday) (av := [.ref a_t]) (sz := sz) (w := [(a_t, .inr (0, [.int d_t_bags, .int t_men, .ref a_t_bagKinds, .ref a_t_manKinds, .ref a_t_cells])), (a_t_manKinds, .inl (cI, 5, .inl t_manKinds)), (a_t_cells, .inl (cI, 23, .inl t_cells))]) (cc := cX0_passSunday) (maxL := 3) (own := RX0) (post := (fun (u : (Nat → Int32)) => post u)) (w1 := (fun (u : (Nat → Int32)) => [(a_t, .inr (0, [.int d_t_bags, .int t_men, .ref a_t_bagKinds, .ref a_t_manKinds, .ref a_t_cells])), (a_t_manKinds, .inl (cI, 5, .inl t_manKinds)), (a_t_cells, .inl (cI, 23, .inl u))])) (by decide) rfl rfl (Nat.le_of_ble_eq_true rfl) ?_
  intro p e s m below meth c A Q hx hb hml hown hts hK hX hA hP hD hsz hret ls hl
  have hS : va_S A s.heap s.heap [] := va_S.rf
  have hl : lv_has ls 3 [(0, .ref a_t)] := hl
  have inX0 : ∀ w ∈ u_ws RX0 TX0 5, w ∈ wsX0_passSunday := by decide +kernel
  have fl15 := hts (.fieldLink RX0 15 "BreathBags$Camp" "men" "I") (by decide +kernel)
  have L2 : ∀  (n2 : Nat) (t_cells_2 : Nat → Int32) (x1_2 : Int32) (H : Heap) (locs : List Loc) (ls : Array Slot), wpX0_passSunday_L2 t_men t_manKinds post n2 t_cells_2 x1_2 → va_P (dC, dI) vwCl [(a_t, .inr (0, [.int d_t_bags, .int t_men, .ref a_t_bagKinds, .ref a_t_manKinds, .ref a_t_cells])), (a_t_manKinds, .inl (cI, 5, .inl t_manKinds)), (a_t_cells, .inl (cI, 23, .inl t_cells_2))] H → va_D A [(a_t, .inr (0, [.int d_t_bags, .int t_men, .ref a_t_bagKinds, .ref a_t_manKinds, .ref a_t_cells])), (a_t_manKinds, .inl (cI, 5, .inl t_manKinds)), (a_t_cells, .inl (cI, 23, .inl t_cells_2))] → va_S A s.heap H locs → lv_has ls 3 [(0, .ref a_t), (1, .int x1_2)] → W p l e rmX0_passSunday s m [.ref a_t].toArray below meth c H locs 0 0 Q (F0 m 2 ls []) := by
    intro  n2
    induction n2 with
    | zero => intro t_cells_2 x1_2 H locs ls hw hP hD hS hl; exact hw.elim
    | succ n2 ih2 =>
      have B84 : ∀ (t_cells_84 : Nat → Int32) (x1_84 : Int32) (H : Heap) (locs : List Loc) (ls : Array Slot), wpX0_passSunday_J84 t_men t_manKinds (wpX0_passSunday_L2 t_men t_manKinds post n2) post t_cells_84 x1_84 → va_P (dC, dI) vwCl [(a_t, .inr (0, [.int d_t_bags, .int t_men, .ref a_t_bagKinds, .ref a_t_manKinds, .ref a_t_cells])), (a_t_manKinds, .inl (cI, 5, .inl t_manKinds)), (a_t_cells, .inl (cI, 23, .inl t_cells_84))] H → va_D A [(a_t, .inr (0, [.int d_t_bags, .int t_men, .ref a_t_bagKinds, .ref a_t_manKinds, .ref a_t_cells])), (a_t_manKinds, .inl (cI, 5, .inl t_manKinds)), (a_t_cells, .inl (cI, 23, .inl t_cells_84))] → va_S A s.heap H locs → lv_has ls 3 [(0, .ref a_t), (1, .int x1_84)] → W p l e rmX0_passSunday s m [.ref a_t].toArray below meth c H locs 0 0 Q (F0 m 84 ls []) := by
        intro t_cells_84 x1_84 H locs ls hw hP hD hS hl
        obtain ⟨y_1, ey_1⟩ : ∃ y : Int32, y = (x1_84 + (1 : Int32)) := ⟨_, rfl⟩
        have hw := hw y_1 ey_1
        refine lv_iinc (v := y_1) (lv' := [(1, .int y_1), (0, .ref a_t)]) hx hb dX0_passSunday_84 hl (k := 1) rfl (by rw [ey_1]; rfl) (by decide) rfl (fun ls hl => ?_)
        refine lv_goto (tgt := 2) hx hb dX0_passSunday_87 (by decide) ?_
        exact ih2 t_cells_84 y_1 H _ ls hw hP hD hS (lv_sub hl [1, 0] rfl)
      have B81 : ∀ (t_cells_81 : Nat → Int32) (x1_81 : Int32) (k0_81 : Int32) (k1_81 : Int32) (H : Heap) (locs : List Loc) (ls : Array Slot), wpX0_passSunday_J81 t_men t_manKinds (wpX0_passSunday_L2 t_men t_manKinds post n2) post t_cells_81 x1_81 k0_81 k1_81 → va_P (dC, dI) vwCl [(a_t, .inr (0, [.int d_t_bags, .int t_men, .ref a_t_bagKinds, .ref a_t_manKinds, .ref a_t_cells])), (a_t_manKinds, .inl (cI, 5, .inl t_manKinds)), (a_t_cells, .inl (cI, 23, .inl t_cells_81))] H → va_D A [(a_t, .inr (0, [.int d_t_bags, .int t_men, .ref a_t_bagKinds, .ref a_t_manKinds, .ref a_t_cells])), (a_t_manKinds, .inl (cI, 5, .inl t_manKinds)), (a_t_cells, .inl (cI, 23, .inl t_cells_81))] → va_S A s.heap H locs → lv_has ls 3 [(0, .ref a_t), (1, .int x1_81)] → W p l e rmX0_passSunday s m [.ref a_t].toArray below meth c H locs 0 0 Q (F0 m 81 ls [.int k0_81, .int k1_81, .ref a_t]) := by
        intro t_cells_81 x1_81 k0_81 k1_81 H locs ls hw hP hD hS hl
        refine kv_callVv (wr := [(a_t_manKinds, .inl (cI, 5, .inl t_manKinds))]) (wn := (fun (u : (Nat → Int32)) => [(a_t, .inr (0, [.int d_t_bags, .int t_men, .ref a_t_bagKinds, .ref a_t_manKinds, .ref a_t_cells])), (a_t_manKinds, .inl (cI, 5, .inl t_manKinds)), (a_t_cells, .inl (cI, 23, .inl u))])) (As := [.int k1_81, .int k0_81]) (rest := []) ⟨hx, hb, hml, hown, hts⟩ hK hX hA hP hD hS (mtX0_addTo l dC dI cI cZ a_t a_t_bagKinds a_t_manKinds a_t_cells H.size d_t_bags t_men t_cells_81 k1_81 k0_81 _ hw) (cwV 2 hts gX0_passSunday_X0_addTo rfl rfl rfl (by decide +kernel) ⟨Nat.le_of_ble_eq_true rfl, Nat.le_of_ble_eq_true rfl⟩) 0 0 rfl rfl rfl [0, 2] [1] [1, 0, 2] rfl rfl rfl rfl (by decide) (fun _ => rfl) rfl rfl hl.1 rfl (Nat.le_of_ble_eq_true rfl) ⟨Nat.zero_le _, Nat.zero_le _⟩ dX0_passSunday_81 (fun u H locs hw hP hD hS => ?_)
        obtain ⟨t_cells_2, rfl⟩ : ∃ z, z = u := ⟨_, rfl⟩
        have hP : va_P (dC, dI) vwCl [(a_t, .inr (0, [.int d_t_bags, .int t_men, .ref a_t_bagKinds, .ref a_t_manKinds, .ref a_t_cells])), (a_t_manKinds, .inl (cI, 5, .inl t_manKinds)), (a_t_cells, .inl (cI, 23, .inl t_cells_2))] H := hP
        have hD : va_D A [(a_t, .inr (0, [.int d_t_bags, .int t_men, .ref a_t_bagKinds, .ref a_t_manKinds, .ref a_t_cells])), (a_t_manKinds, .inl (cI, 5, .inl t_manKinds)), (a_t_cells, .inl (cI, 23, .inl t_cells_2))] := hD
        exact B84 t_cells_2 x1_81 H _ ls hw hP hD hS (lv_sub hl [0, 1] rfl)
      have B43 : ∀ (t_cells_43 : Nat → Int32) (x1_43 : Int32) (x2_43 : Int32) (k0_43 : Int32) (k1_43 : Int32) (H : Heap) (locs : List Loc) (ls : Array Slot), wpX0_passSunday_J43 t_men t_manKinds (wpX0_passSunday_L2 t_men t_manKinds post n2) post t_cells_43 x1_43 x2_43 k0_43 k1_43 → va_P (dC, dI) vwCl [(a_t, .inr (0, [.int d_t_bags, .int t_men, .ref a_t_bagKinds, .ref a_t_manKinds, .ref a_t_cells])), (a_t_manKinds, .inl (cI, 5, .inl t_manKinds)), (a_t_cells, .inl (cI, 23, .inl t_cells_43))] H → va_D A [(a_t, .inr (0, [.int d_t_bags, .int t_men, .ref a_t_bagKinds, .ref a_t_manKinds, .ref a_t_cells])), (a_t_manKinds, .inl (cI, 5, .inl t_manKinds)), (a_t_cells, .inl (cI, 23, .inl t_cells_43))] → va_S A s.heap H locs → lv_has ls 3 [(0, .ref a_t), (1, .int x1_43), (2, .int x2_43)] → W p l e rmX0_passSunday s m [.ref a_t].toArray below meth c H locs 0 0 Q (F0 m 43 ls [.int k0_43, .int k1_43]) := by
        intro t_cells_43 x1_43 x2_43 k0_43 k1_43 H locs ls hw hP hD hS hl
        refine lv_icmp_le (tgt := 57) hx hb dX0_passSunday_43 (by decide) (fun c_3 => ?_) (fun c_3 => ?_)
        · have hw := hw.1 c_3
          refine lv_aload_n hx hb dX0_passSunday_57 rfl (lv_at hl 0 rfl) ?_
          refine lv_bipush (v := (7 : Int32)) hx hb dX0_passSunday_58 (by decide) ?_
          refine lv_iload_n hx hb dX0_passSunday_60 rfl (lv_at hl 1 rfl) ?_
          refine lv_iadd hx hb dX0_passSunday_61 ?_
          refine lv_iload_n hx hb dX0_passSunday_62 rfl (lv_at hl 2 rfl) ?_
          refine lv_iconst (v := (3 : Int32)) hx hb dX0_passSunday_63 (by decide) ?_
          refine lv_icmp_ne (tgt := 71) hx hb dX0_passSunday_64 (by decide) (fun c_4 => ?_) (fun c_4 => ?_)
          · have hw := hw.1 c_4
            refine lv_iload_n hx hb dX0_passSunday_71 rfl (lv_at hl 2 rfl) ?_
            refine lv_iconst (v := (2 : Int32)) hx hb dX0_passSunday_72 (by decide) ?_
            refine lv_icmp_ne (tgt := 80) hx hb dX0_passSunday_73 (by decide) (fun c_5 => ?_) (fun c_5 => ?_)
            · have hw := hw.1 c_5
              refine lv_iconst (v := (1 : Int32)) hx hb dX0_passSunday_80 (by decide) ?_
              exact B81 t_cells_43 x1_43 (1 : Int32) ((7 : Int32) + x1_43) H _ ls hw hP hD hS (lv_sub hl [0, 1] rfl)
            · have hw := hw.2 c_5
              refine lv_iconst (v := (2 : Int32)) hx hb dX0_passSunday_76 (by decide) ?_
              refine lv_goto (tgt := 81) hx hb dX0_passSunday_77 (by decide) ?_
              exact B81 t_cells_43 x1_43 (2 : Int32) ((7 : Int32) + x1_43) H _ ls hw hP hD hS (lv_sub hl [0, 1] rfl)
          · have hw := hw.2 c_4
            refine lv_iconst (v := (0 : Int32)) hx hb dX0_passSunday_67 (by decide) ?_
            refine lv_goto (tgt := 81) hx hb dX0_passSunday_68 (by decide) ?_
            exact B81 t_cells_43 x1_43 (0 : Int32) ((7 : Int32) + x1_43) H _ ls hw hP hD hS (lv_sub hl [0, 1] rfl)
        · have hw := hw.2 c_3
          refine lv_aload_n hx hb dX0_passSunday_46 rfl (lv_at hl 0 rfl) ?_
          refine lv_iconst (v := (2 : Int32)) hx hb dX0_passSunday_47 (by decide) ?_
          refine lv_iload_n hx hb dX0_passSunday_48 rfl (lv_at hl 1 rfl) ?_
          refine lv_iadd hx hb dX0_passSunday_49 ?_
          refine lv_iconst (v := (-1 : Int32)) hx hb dX0_passSunday_50 (by decide) ?_
          refine kv_callVv (wr := [(a_t_manKinds, .inl (cI, 5, .inl t_manKinds))]) (wn := (fun (u : (Nat → Int32)) => [(a_t, .inr (0, [.int d_t_bags, .int t_men, .ref a_t_bagKinds, .ref a_t_manKinds, .ref a_t_cells])), (a_t_manKinds, .inl (cI, 5, .inl t_manKinds)), (a_t_cells, .inl (cI, 23, .inl u))])) (As := [.int ((2 : Int32) + x1_43), .int (-1 : Int32)]) (rest := []) ⟨hx, hb, hml, hown, hts⟩ hK hX hA hP hD hS (mtX0_addTo l dC dI cI cZ a_t a_t_bagKinds a_t_manKinds a_t_cells H.size d_t_bags t_men t_cells_43 ((2 : Int32) + x1_43) (-1 : Int32) _ hw) (cwV 2 hts gX0_passSunday_X0_addTo rfl rfl rfl (by decide +kernel) ⟨Nat.le_of_ble_eq_true rfl, Nat.le_of_ble_eq_true rfl⟩) 0 0 rfl rfl rfl [0, 2] [1] [1, 0, 2] rfl rfl rfl rfl (by decide) (fun _ => rfl) rfl rfl hl.1 rfl (Nat.le_of_ble_eq_true rfl) ⟨Nat.zero_le _, Nat.zero_le _⟩ dX0_passSunday_51 (fun u H locs hw hP hD hS => ?_)
          obtain ⟨t_cells_6, rfl⟩ : ∃ z, z = u := ⟨_, rfl⟩
          have hP : va_P (dC, dI) vwCl [(a_t, .inr (0, [.int d_t_bags, .int t_men, .ref a_t_bagKinds, .ref a_t_manKinds, .ref a_t_cells])), (a_t_manKinds, .inl (cI, 5, .inl t_manKinds)), (a_t_cells, .inl (cI, 23, .inl t_cells_6))] H := hP
          have hD : va_D A [(a_t, .inr (0, [.int d_t_bags, .int t_men, .ref a_t_bagKinds, .ref a_t_manKinds, .ref a_t_cells])), (a_t_manKinds, .inl (cI, 5, .inl t_manKinds)), (a_t_cells, .inl (cI, 23, .inl t_cells_6))] := hD
          refine lv_goto (tgt := 84) hx hb dX0_passSunday_54 (by decide) ?_
          exact B84 t_cells_6 x1_43 H _ ls hw hP hD hS (lv_sub hl [0, 1] rfl)
      intro t_cells_2 x1_2 H locs ls hw hP hD hS hl
      refine lv_iload_n hx hb dX0_passSunday_2 rfl (lv_at hl 1 rfl) ?_
      refine lv_aload_n hx hb dX0_passSunday_3 rfl (lv_at hl 0 rfl) ?_
      refine va_get (D := (dC, dI)) (ci := 0) (v := .int t_men) (C := RX0) (T := TX0) (N := 5) hx hb hts inX0 hown hK hP 0 rfl rfl 1 (by decide) fl15 (fun _ h9 => h9) rfl dX0_passSunday_4 ?_
      refine lv_icmp_ge (tgt := 90) hx hb dX0_passSunday_7 (by decide) (fun c_7 => ?_) (fun c_7 => ?_)
      · have hw := hw.1 c_7
        exact hret t_cells_2 H _ _ ls hw hP hD hS dX0_passSunday_90
      · have hw := hw.2 c_7
        refine lv_aload_n hx hb dX0_passSunday_10 rfl (lv_at hl 0 rfl) ?_
        refine lv_iload_n hx hb dX0_passSunday_11 rfl (lv_at hl 1 rfl) ?_
        refine kv_callVi (wr := [(a_t_manKinds, .inl (cI, 5, .inl t_manKinds))]) (wn := (fun (u : Unit) => [(a_t, .inr (0, [.int d_t_bags, .int t_men, .ref a_t_bagKinds, .ref a_t_manKinds, .ref a_t_cells])), (a_t_manKinds, .inl (cI, 5, .inl t_manKinds)), (a_t_cells, .inl (cI, 23, .inl t_cells_2))])) (As := [.int x1_2]) (rest := []) ⟨hx, hb, hml, hown, hts⟩ hK hX hA hP hD hS (mtX0_hasFallen l dC dI cI cZ a_t a_t_bagKinds a_t_manKinds a_t_cells H.size d_t_bags t_men t_cells_2 x1_2 _ hw) (cwV 1 hts gX0_passSunday_X0_hasFallen rfl rfl rfl (by decide +kernel) ⟨Nat.le_of_ble_eq_true rfl, Nat.le_of_ble_eq_true rfl⟩) 0 0 rfl rfl rfl [0, 2] [1] [1, 0, 2] rfl rfl rfl rfl (by decide) (fun _ => rfl) rfl rfl hl.1 rfl (Nat.le_of_ble_eq_true rfl) ⟨Nat.zero_le _, Nat.zero_le _⟩ dX0_passSunday_12 (fun r_8 u H locs hw hP hD hS => ?_)
        obtain ⟨hb_r_8, hw⟩ := hw
        refine lv_if_eq (tgt := 21) hx hb dX0_passSunday_15 (by decide) (fun c_9 => ?_) (fun c_9 => ?_)
        · have hw := hw.1 c_9
          refine lv_aload_n hx hb dX0_passSunday_21 rfl (lv_at hl 0 rfl) ?_
          refine lv_iload_n hx hb dX0_passSunday_22 rfl (lv_at hl 1 rfl) ?_
          refine kv_callVi (wr := [(a_t_cells, .inl (cI, 23, .inl t_cells_2))]) (wn := (fun (u : Unit) => [(a_t, .inr (0, [.int d_t_bags, .int t_men, .ref a_t_bagKinds, .ref a_t_manKinds, .ref a_t_cells])), (a_t_manKinds, .inl (cI, 5, .inl t_manKinds)), (a_t_cells, .inl (cI, 23, .inl t_cells_2))])) (As := [.int x1_2]) (rest := []) ⟨hx, hb, hml, hown, hts⟩ hK hX hA hP hD hS (mtX0_kindOfMan l dC dI cI cZ a_t a_t_bagKinds a_t_manKinds a_t_cells H.size d_t_bags t_men t_manKinds x1_2 _ hw) (cwV 1 hts gX0_passSunday_X0_kindOfMan rfl rfl rfl (by decide +kernel) ⟨Nat.le_of_ble_eq_true rfl, Nat.le_of_ble_eq_true rfl⟩) 0 0 rfl rfl rfl [0, 1] [2] [1, 2, 0] rfl rfl rfl rfl (by decide) (fun _ => rfl) rfl rfl hl.1 rfl (Nat.le_of_ble_eq_true rfl) ⟨Nat.zero_le _, Nat.zero_le _⟩ dX0_passSunday_23 (fun r_10 u H locs hw hP hD hS => ?_)
          refine lv_istore_n (lv' := [(2, .int r_10), (0, .ref a_t), (1, .int x1_2)]) hx hb dX0_passSunday_26 rfl hl (by decide) rfl (fun ls hl => ?_)
          refine lv_aload_n hx hb dX0_passSunday_27 rfl (lv_at hl 1 rfl) ?_
          refine lv_iconst (v := (2 : Int32)) hx hb dX0_passSunday_28 (by decide) ?_
          refine lv_iload_n hx hb dX0_passSunday_29 rfl (lv_at hl 2 rfl) ?_
          refine kv_callVi (wr := [(a_t_manKinds, .inl (cI, 5, .inl t_manKinds))]) (wn := (fun (u : Unit) => [(a_t, .inr (0, [.int d_t_bags, .int t_men, .ref a_t_bagKinds, .ref a_t_manKinds, .ref a_t_cells])), (a_t_manKinds, .inl (cI, 5, .inl t_manKinds)), (a_t_cells, .inl (cI, 23, .inl t_cells_2))])) (As := [.int (2 : Int32), .int x1_2]) (rest := []) ⟨hx, hb, hml, hown, hts⟩ hK hX hA hP hD hS (mtX0_ofMan l dC dI cI cZ a_t a_t_bagKinds a_t_manKinds a_t_cells H.size d_t_bags t_men t_cells_2 (2 : Int32) x1_2 _ hw) (cwV 2 hts gX0_passSunday_X0_ofMan rfl rfl rfl (by decide +kernel) ⟨Nat.le_of_ble_eq_true rfl, Nat.le_of_ble_eq_true rfl⟩) 0 0 rfl rfl rfl [0, 2] [1] [1, 0, 2] rfl rfl rfl rfl (by decide) (fun _ => rfl) rfl rfl hl.1 rfl (Nat.le_of_ble_eq_true rfl) ⟨Nat.zero_le _, Nat.zero_le _⟩ dX0_passSunday_30 (fun r_11 u H locs hw hP hD hS => ?_)
          refine lv_iload_n hx hb dX0_passSunday_33 rfl (lv_at hl 0 rfl) ?_
          refine lv_iconst (v := (1 : Int32)) hx hb dX0_passSunday_34 (by decide) ?_
          refine lv_icmp_ne (tgt := 42) hx hb dX0_passSunday_35 (by decide) (fun c_12 => ?_) (fun c_12 => ?_)
          · have hw := hw.1 c_12
            refine lv_iconst (v := (0 : Int32)) hx hb dX0_passSunday_42 (by decide) ?_
            exact B43 t_cells_2 x1_2 r_10 (0 : Int32) r_11 H _ ls hw hP hD hS (lv_sub hl [1, 2, 0] rfl)
          · have hw := hw.2 c_12
            refine lv_iconst (v := (1 : Int32)) hx hb dX0_passSunday_38 (by decide) ?_
            refine lv_goto (tgt := 43) hx hb dX0_passSunday_39 (by decide) ?_
            exact B43 t_cells_2 x1_2 r_10 (1 : Int32) r_11 H _ ls hw hP hD hS (lv_sub hl [1, 2, 0] rfl)
        · have hw := hw.2 c_9
          refine lv_goto (tgt := 84) hx hb dX0_passSunday_18 (by decide) ?_
          exact B84 t_cells_2 x1_2 H _ ls hw hP hD hS (lv_sub hl [0, 1] rfl)
  have E2 : ∀ (t_cells_2 : Nat → Int32) (x1_2 : Int32) (H : Heap) (locs : List Loc) (ls : Array Slot), wpX0_passSunday_E2 t_men t_manKinds post t_cells_2 x1_2 → va_P (dC, dI) vwCl [(a_t, .inr (0, [.int d_t_bags, .int t_men, .ref a_t_bagKinds, .ref a_t_manKinds, .ref a_t_cells])), (a_t_manKinds, .inl (cI, 5, .inl t_manKinds)), (a_t_cells, .inl (cI, 23, .inl t_cells_2))] H → va_D A [(a_t, .inr (0, [.int d_t_bags, .int t_men, .ref a_t_bagKinds, .ref a_t_manKinds, .ref a_t_cells])), (a_t_manKinds, .inl (cI, 5, .inl t_manKinds)), (a_t_cells, .inl (cI, 23, .inl t_cells_2))] → va_S A s.heap H locs → lv_has ls 3 [(0, .ref a_t), (1, .int x1_2)] → W p l e rmX0_passSunday s m [.ref a_t].toArray below meth c H locs 0 0 Q (F0 m 2 ls []) := by
    intro t_cells_2 x1_2 H locs ls hw hP hD hS hl
    obtain ⟨n, hw⟩ := hw
    exact L2  n t_cells_2 x1_2 H locs ls hw hP hD hS hl
  refine lv_iconst (v := (0 : Int32)) hx hb dX0_passSunday_0 (by decide) ?_
  refine lv_istore_n (lv' := [(1, .int (0 : Int32)), (0, .ref a_t)]) hx hb dX0_passSunday_1 rfl hl (by decide) rfl (fun ls hl => ?_)
  exact E2 t_cells (0 : Int32) s.heap _ ls hw hP hD hS (lv_sub hl [1, 0] rfl)

def wpX0_passDay_J60 (t_bags : Int32) (t_men : Int32) (t_bagKinds : Nat → Int32) (t_manKinds : Nat → Int32) (post : Int32 → (Nat → Int32) → Prop) (t_cells_60 : Nat → Int32) (x1_60 : Int32) : Prop := wpX0_addTo t_cells_60 (0 : Int32) (1 : Int32) (fun t_cells_1 => post x1_60 t_cells_1)
def wpX0_passDay_J44 (t_bags : Int32) (t_men : Int32) (t_bagKinds : Nat → Int32) (t_manKinds : Nat → Int32) (post : Int32 → (Nat → Int32) → Prop) (t_cells_44 : Nat → Int32) (x1_44 : Int32) : Prop := wpX0_today t_cells_44 (fun r_2 => ((¬ (r_2 - r_2 / (7 : Int32) * (7 : Int32)) = (6 : Int32) → wpX0_passDay_J60 t_bags t_men t_bagKinds t_manKinds post t_cells_44 x1_44) ∧ ((r_2 - r_2 / (7 : Int32) * (7 : Int32)) = (6 : Int32) → wpX0_passSunday t_men t_manKinds t_cells_44 (fun t_cells_4 => wpX0_passDay_J60 t_bags t_men t_bagKinds t_manKinds post t_cells_4 x1_44))))
def wpX0_passDay_J38 (t_bags : Int32) (t_men : Int32) (t_bagKinds : Nat → Int32) (t_manKinds : Nat → Int32) (kL4 : (Nat → Int32) → Int32 → Int32 → Prop) (post : Int32 → (Nat → Int32) → Prop) (t_cells_38 : Nat → Int32) (x1_38 : Int32) (x2_38 : Int32) : Prop := ∀ y_5 : Int32, y_5 = (x2_38 + (1 : Int32)) → kL4 t_cells_38 x1_38 y_5
def wpX0_passDay_L4 (t_bags : Int32) (t_men : Int32) (t_bagKinds : Nat → Int32) (t_manKinds : Nat → Int32) (kJ44 : (Nat → Int32) → Int32 → Prop) (post : Int32 → (Nat → Int32) → Prop) : Nat → (Nat → Int32) → Int32 → Int32 → Prop
  | 0, _, _, _ => False
  | n + 1, t_cells_4, x1_4, x2_4 => ((t_bags ≤ x2_4 → kJ44 t_cells_4 x1_4) ∧ (¬ t_bags ≤ x2_4 → wpX0_kindOfBag t_bags t_bagKinds x2_4 (fun r_7 => ((¬ r_7 = (2 : Int32) → wpX0_passDay_J38 t_bags t_men t_bagKinds t_manKinds (wpX0_passDay_L4 t_bags t_men t_bagKinds t_manKinds kJ44 post n) post t_cells_4 x1_4 x2_4) ∧ (r_7 = (2 : Int32) → wpX0_breathsIn t_bags t_cells_4 x2_4 (fun r_9 => ((r_9 ≤ 0 → wpX0_passDay_J38 t_bags t_men t_bagKinds t_manKinds (wpX0_passDay_L4 t_bags t_men t_bagKinds t_manKinds kJ44 post n) post t_cells_4 x1_4 x2_4) ∧ (¬ r_9 ≤ 0 → wpX0_lose t_cells_4 x2_4 (0 : Int32) (fun t_cells_11 => ∀ y_12 : Int32, y_12 = (x1_4 + (1 : Int32)) → wpX0_passDay_J38 t_bags t_men t_bagKinds t_manKinds (wpX0_passDay_L4 t_bags t_men t_bagKinds t_manKinds kJ44 post n) post t_cells_11 y_12 x2_4)))))))))
def wpX0_passDay_E4 (t_bags : Int32) (t_men : Int32) (t_bagKinds : Nat → Int32) (t_manKinds : Nat → Int32) (post : Int32 → (Nat → Int32) → Prop) (t_cells_4 : Nat → Int32) (x1_4 : Int32) (x2_4 : Int32) : Prop := ∃ n : Nat, wpX0_passDay_L4 t_bags t_men t_bagKinds t_manKinds (wpX0_passDay_J44 t_bags t_men t_bagKinds t_manKinds post) post n t_cells_4 x1_4 x2_4
def wpX0_passDay (t_bags : Int32) (t_men : Int32) (t_bagKinds : Nat → Int32) (t_manKinds : Nat → Int32) (t_cells : Nat → Int32) (post : Int32 → (Nat → Int32) → Prop) : Prop := wpX0_passDay_E4 t_bags t_men t_bagKinds t_manKinds post t_cells (0 : Int32) (0 : Int32)
abbrev rmX0_passDay : Room := { frames := 4, cells := 0, slots := 0, locals := 91 }
set_option maxHeartbeats 4000000 in
set_option maxRecDepth 100000 in
theorem mtX0_passDay (l : Launch) (dC : Nat → ClassId) (dI : Nat → Nat → Nat) (cI cZ : ClassId) (a_t : Nat) (a_t_bagKinds : Nat) (a_t_manKinds : Nat) (a_t_cells : Nat) (sz : Nat) (t_bags : Int32) (t_men : Int32) (t_bagKinds : Nat → Int32) (t_manKinds : Nat → Int32) (t_cells : Nat → Int32) (post : Int32 → (Nat → Int32) → Prop) (hw : wpX0_passDay t_bags t_men t_bagKinds t_manKinds t_cells post) : Met l yX0_passDay wsX0_passDay rmX0_passDay (va_Pc [.ref a_t] (kvPre (dC, dI) cI cZ sz [(a_t, .inr (0, [.int t_bags, .int t_men, .ref a_t_bagKinds, .ref a_t_manKinds, .ref a_t_cells])), (a_t_bagKinds, .inl (cI, 3, .inl t_bagKinds)), (a_t_manKinds, .inl (cI, 5, .inl t_manKinds)), (a_t_cells, .inl (cI, 23, .inl t_cells))])) (va_Qi (fun (r : Int32) (u : (Nat → Int32)) => post r u) (kvB (dC, dI) (va_A [(a_t, .inr (0, [.int t_bags, .int t_men, .ref a_t_bagKinds, .ref a_t_manKinds, .ref a_t_cells])), (a_t_bagKinds, .inl (cI, 3, .inl t_bagKinds)), (a_t_manKinds, .inl (cI, 5, .inl t_manKinds)), (a_t_cells, .inl (cI, 23, .inl t_cells))] sz) (fun (u : (Nat → Int32)) => [(a_t, .inr (0, [.int t_bags, .int t_men, .ref a_t_bagKinds, .ref a_t_manKinds, .ref a_t_cells])), (a_t_bagKinds, .inl (cI, 3, .inl t_bagKinds)), (a_t_manKinds, .inl (cI, 5, .inl t_manKinds)), (a_t_cells, .inl (cI, 23, .inl u))])) (va_A [(a_t, .inr (0, [.int t_bags, .int t_men, .ref a_t_bagKinds, .ref a_t_manKinds, .ref a_t_cells])), (a_t_bagKinds, .inl (cI, 3, .inl t_bagKinds)), (a_t_manKinds, .inl (cI, 5, .inl t_manKinds)), (a_t_cells, .inl (cI, 23, .inl t_cells))] sz)) 0 0 (va_A [(a_t, .inr (0, [.int t_bags, .int t_men, .ref a_t_bagKinds, .ref a_t_manKinds, .ref a_t_cells])), (a_t_bagKinds, .inl (cI, 3, .inl t_bagKinds)), (a_t_manKinds, .inl (cI, 5, .inl t_manKinds)), (a_t_cells, .inl (cI, 23, .inl t_cells))] sz) := by
  refine kv_metI (y := yX0_passDay) (ws := wsX0_passDay) (rm := rmX0_passDay) (av := [.ref a_t]) (sz := sz) (w := [(a_t, .inr (0, [.int t_bags, .int t_men, .ref a_t_bagKinds, .ref a_t_manKinds, .ref a_t_cells])), (a_t_bagKinds, .inl (cI, 3, .inl t_bagKinds)), (a_t_manKinds, .inl (cI, 5, .inl t_manKinds)), (a_t_cells, .inl (cI, 23, .inl t_cells))]) (cc := cX0_passDay) (maxL := 3) (own := RX0) (post := (fun (r : Int32) (u : (Nat → Int32)) => post r u)) (w1 := (fun (u : (Nat → Int32)) => [(a_t, .inr (0, [.int t_bags, .int t_men, .ref a_t_bagKinds, .ref a_t_manKinds, .ref a_t_cells])), (a_t_bagKinds, .inl (cI, 3, .inl t_bagKinds)), (a_t_manKinds, .inl (cI, 5, .inl t_manKinds)), (a_t_cells, .inl (cI, 23, .inl u))])) (by decide) rfl rfl (Nat.le_of_ble_eq_true rfl) ?_
  intro p e s m below meth c A Q hx hb hml hown hts hK hX hA hP hD hsz hret ls hl
  have hS : va_S A s.heap s.heap [] := va_S.rf
  have hl : lv_has ls 3 [(0, .ref a_t)] := hl
  have inX0 : ∀ w ∈ u_ws RX0 TX0 5, w ∈ wsX0_passDay := by decide +kernel
  have fl11 := hts (.fieldLink RX0 11 "BreathBags$Camp" "bags" "I") (by decide +kernel)
  have B60 : ∀ (t_cells_60 : Nat → Int32) (x1_60 : Int32) (H : Heap) (locs : List Loc) (ls : Array Slot), wpX0_passDay_J60 t_bags t_men t_bagKinds t_manKinds post t_cells_60 x1_60 → va_P (dC, dI) vwCl [(a_t, .inr (0, [.int t_bags, .int t_men, .ref a_t_bagKinds, .ref a_t_manKinds, .ref a_t_cells])), (a_t_bagKinds, .inl (cI, 3, .inl t_bagKinds)), (a_t_manKinds, .inl (cI, 5, .inl t_manKinds)), (a_t_cells, .inl (cI, 23, .inl t_cells_60))] H → va_D A [(a_t, .inr (0, [.int t_bags, .int t_men, .ref a_t_bagKinds, .ref a_t_manKinds, .ref a_t_cells])), (a_t_bagKinds, .inl (cI, 3, .inl t_bagKinds)), (a_t_manKinds, .inl (cI, 5, .inl t_manKinds)), (a_t_cells, .inl (cI, 23, .inl t_cells_60))] → va_S A s.heap H locs → lv_has ls 3 [(0, .ref a_t), (1, .int x1_60)] → W p l e rmX0_passDay s m [.ref a_t].toArray below meth c H locs 0 0 Q (F0 m 60 ls []) := by
    intro t_cells_60 x1_60 H locs ls hw hP hD hS hl
    refine lv_aload_n hx hb dX0_passDay_60 rfl (lv_at hl 0 rfl) ?_
    refine lv_iconst (v := (0 : Int32)) hx hb dX0_passDay_61 (by decide) ?_
    refine lv_iconst (v := (1 : Int32)) hx hb dX0_passDay_62 (by decide) ?_
    refine kv_callVv (wr := [(a_t_bagKinds, .inl (cI, 3, .inl t_bagKinds)), (a_t_manKinds, .inl (cI, 5, .inl t_manKinds))]) (wn := (fun (u : (Nat → Int32)) => [(a_t, .inr (0, [.int t_bags, .int t_men, .ref a_t_bagKinds, .ref a_t_manKinds, .ref a_t_cells])), (a_t_bagKinds, .inl (cI, 3, .inl t_bagKinds)), (a_t_manKinds, .inl (cI, 5, .inl t_manKinds)), (a_t_cells, .inl (cI, 23, .inl u))])) (As := [.int (0 : Int32), .int (1 : Int32)]) (rest := []) ⟨hx, hb, hml, hown, hts⟩ hK hX hA hP hD hS (mtX0_addTo l dC dI cI cZ a_t a_t_bagKinds a_t_manKinds a_t_cells H.size t_bags t_men t_cells_60 (0 : Int32) (1 : Int32) _ hw) (cwV 2 hts gX0_passDay_X0_addTo rfl rfl rfl (by decide +kernel) ⟨Nat.le_of_ble_eq_true rfl, Nat.le_of_ble_eq_true rfl⟩) 0 0 rfl rfl rfl [0, 3] [1, 2] [2, 0, 1, 3] rfl rfl rfl rfl (by decide) (fun _ => rfl) rfl rfl hl.1 rfl (Nat.le_of_ble_eq_true rfl) ⟨Nat.zero_le _, Nat.zero_le _⟩ dX0_passDay_63 (fun u H locs hw hP hD hS => ?_)
    obtain ⟨t_cells_1, rfl⟩ : ∃ z, z = u := ⟨_, rfl⟩
    have hP : va_P (dC, dI) vwCl [(a_t, .inr (0, [.int t_bags, .int t_men, .ref a_t_bagKinds, .ref a_t_manKinds, .ref a_t_cells])), (a_t_bagKinds, .inl (cI, 3, .inl t_bagKinds)), (a_t_manKinds, .inl (cI, 5, .inl t_manKinds)), (a_t_cells, .inl (cI, 23, .inl t_cells_1))] H := hP
    have hD : va_D A [(a_t, .inr (0, [.int t_bags, .int t_men, .ref a_t_bagKinds, .ref a_t_manKinds, .ref a_t_cells])), (a_t_bagKinds, .inl (cI, 3, .inl t_bagKinds)), (a_t_manKinds, .inl (cI, 5, .inl t_manKinds)), (a_t_cells, .inl (cI, 23, .inl t_cells_1))] := hD
    refine lv_iload_n hx hb dX0_passDay_66 rfl (lv_at hl 1 rfl) ?_
    exact hret x1_60 t_cells_1 H _ _ ls hw hP hD hS dX0_passDay_67
  have B44 : ∀ (t_cells_44 : Nat → Int32) (x1_44 : Int32) (H : Heap) (locs : List Loc) (ls : Array Slot), wpX0_passDay_J44 t_bags t_men t_bagKinds t_manKinds post t_cells_44 x1_44 → va_P (dC, dI) vwCl [(a_t, .inr (0, [.int t_bags, .int t_men, .ref a_t_bagKinds, .ref a_t_manKinds, .ref a_t_cells])), (a_t_bagKinds, .inl (cI, 3, .inl t_bagKinds)), (a_t_manKinds, .inl (cI, 5, .inl t_manKinds)), (a_t_cells, .inl (cI, 23, .inl t_cells_44))] H → va_D A [(a_t, .inr (0, [.int t_bags, .int t_men, .ref a_t_bagKinds, .ref a_t_manKinds, .ref a_t_cells])), (a_t_bagKinds, .inl (cI, 3, .inl t_bagKinds)), (a_t_manKinds, .inl (cI, 5, .inl t_manKinds)), (a_t_cells, .inl (cI, 23, .inl t_cells_44))] → va_S A s.heap H locs → lv_has ls 3 [(0, .ref a_t), (1, .int x1_44)] → W p l e rmX0_passDay s m [.ref a_t].toArray below meth c H locs 0 0 Q (F0 m 44 ls []) := by
    intro t_cells_44 x1_44 H locs ls hw hP hD hS hl
    refine lv_aload_n hx hb dX0_passDay_44 rfl (lv_at hl 0 rfl) ?_
    refine kv_callVi (wr := [(a_t_bagKinds, .inl (cI, 3, .inl t_bagKinds)), (a_t_manKinds, .inl (cI, 5, .inl t_manKinds))]) (wn := (fun (u : Unit) => [(a_t, .inr (0, [.int t_bags, .int t_men, .ref a_t_bagKinds, .ref a_t_manKinds, .ref a_t_cells])), (a_t_bagKinds, .inl (cI, 3, .inl t_bagKinds)), (a_t_manKinds, .inl (cI, 5, .inl t_manKinds)), (a_t_cells, .inl (cI, 23, .inl t_cells_44))])) (As := []) (rest := []) ⟨hx, hb, hml, hown, hts⟩ hK hX hA hP hD hS (mtX0_today l dC dI cI cZ a_t a_t_bagKinds a_t_manKinds a_t_cells H.size t_bags t_men t_cells_44 _ hw) (cwV 0 hts gX0_passDay_X0_today rfl rfl rfl (by decide +kernel) ⟨Nat.le_of_ble_eq_true rfl, Nat.le_of_ble_eq_true rfl⟩) 0 0 rfl rfl rfl [0, 3] [1, 2] [2, 0, 1, 3] rfl rfl rfl rfl (by decide) (fun _ => rfl) rfl rfl hl.1 rfl (Nat.le_of_ble_eq_true rfl) ⟨Nat.zero_le _, Nat.zero_le _⟩ dX0_passDay_45 (fun r_2 u H locs hw hP hD hS => ?_)
    refine lv_bipush (v := (7 : Int32)) hx hb dX0_passDay_48 (by decide) ?_
    refine lv_irem hx hb dX0_passDay_50 (by decide) ?_
    refine lv_bipush (v := (6 : Int32)) hx hb dX0_passDay_51 (by decide) ?_
    refine lv_icmp_ne (tgt := 60) hx hb dX0_passDay_53 (by decide) (fun c_3 => ?_) (fun c_3 => ?_)
    · have hw := hw.1 c_3
      exact B60 t_cells_44 x1_44 H _ ls hw hP hD hS (lv_sub hl [0, 1] rfl)
    · have hw := hw.2 c_3
      refine lv_aload_n hx hb dX0_passDay_56 rfl (lv_at hl 0 rfl) ?_
      refine kv_callVv (wr := [(a_t_bagKinds, .inl (cI, 3, .inl t_bagKinds))]) (wn := (fun (u : (Nat → Int32)) => [(a_t, .inr (0, [.int t_bags, .int t_men, .ref a_t_bagKinds, .ref a_t_manKinds, .ref a_t_cells])), (a_t_bagKinds, .inl (cI, 3, .inl t_bagKinds)), (a_t_manKinds, .inl (cI, 5, .inl t_manKinds)), (a_t_cells, .inl (cI, 23, .inl u))])) (As := []) (rest := []) ⟨hx, hb, hml, hown, hts⟩ hK hX hA hP hD hS (mtX0_passSunday l dC dI cI cZ a_t a_t_bagKinds a_t_manKinds a_t_cells H.size t_bags t_men t_manKinds t_cells_44 _ hw) (cwV 0 hts gX0_passDay_X0_passSunday rfl rfl rfl (by decide +kernel) ⟨Nat.le_of_ble_eq_true rfl, Nat.le_of_ble_eq_true rfl⟩) 0 0 rfl rfl rfl [0, 2, 3] [1] [1, 0, 2, 3] rfl rfl rfl rfl (by decide) (fun _ => rfl) rfl rfl hl.1 rfl (Nat.le_of_ble_eq_true rfl) ⟨Nat.zero_le _, Nat.zero_le _⟩ dX0_passDay_57 (fun u H locs hw hP hD hS => ?_)
      obtain ⟨t_cells_4, rfl⟩ : ∃ z, z = u := ⟨_, rfl⟩
      have hP : va_P (dC, dI) vwCl [(a_t, .inr (0, [.int t_bags, .int t_men, .ref a_t_bagKinds, .ref a_t_manKinds, .ref a_t_cells])), (a_t_bagKinds, .inl (cI, 3, .inl t_bagKinds)), (a_t_manKinds, .inl (cI, 5, .inl t_manKinds)), (a_t_cells, .inl (cI, 23, .inl t_cells_4))] H := hP
      have hD : va_D A [(a_t, .inr (0, [.int t_bags, .int t_men, .ref a_t_bagKinds, .ref a_t_manKinds, .ref a_t_cells])), (a_t_bagKinds, .inl (cI, 3, .inl t_bagKinds)), (a_t_manKinds, .inl (cI, 5, .inl t_manKinds)), (a_t_cells, .inl (cI, 23, .inl t_cells_4))] := hD
      exact B60 t_cells_4 x1_44 H _ ls hw hP hD hS (lv_sub hl [0, 1] rfl)
  have L4 : ∀  (n4 : Nat) (t_cells_4 : Nat → Int32) (x1_4 : Int32) (x2_4 : Int32) (H : Heap) (locs : List Loc) (ls : Array Slot), wpX0_passDay_L4 t_bags t_men t_bagKinds t_manKinds (wpX0_passDay_J44 t_bags t_men t_bagKinds t_manKinds post) post n4 t_cells_4 x1_4 x2_4 → va_P (dC, dI) vwCl [(a_t, .inr (0, [.int t_bags, .int t_men, .ref a_t_bagKinds, .ref a_t_manKinds, .ref a_t_cells])), (a_t_bagKinds, .inl (cI, 3, .inl t_bagKinds)), (a_t_manKinds, .inl (cI, 5, .inl t_manKinds)), (a_t_cells, .inl (cI, 23, .inl t_cells_4))] H → va_D A [(a_t, .inr (0, [.int t_bags, .int t_men, .ref a_t_bagKinds, .ref a_t_manKinds, .ref a_t_cells])), (a_t_bagKinds, .inl (cI, 3, .inl t_bagKinds)), (a_t_manKinds, .inl (cI, 5, .inl t_manKinds)), (a_t_cells, .inl (cI, 23, .inl t_cells_4))] → va_S A s.heap H locs → lv_has ls 3 [(0, .ref a_t), (1, .int x1_4), (2, .int x2_4)] → W p l e rmX0_passDay s m [.ref a_t].toArray below meth c H locs 0 0 Q (F0 m 4 ls []) := by
    intro  n4
    induction n4 with
    | zero => intro t_cells_4 x1_4 x2_4 H locs ls hw hP hD hS hl; exact hw.elim
    | succ n4 ih4 =>
      have B38 : ∀ (t_cells_38 : Nat → Int32) (x1_38 : Int32) (x2_38 : Int32) (H : Heap) (locs : List Loc) (ls : Array Slot), wpX0_passDay_J38 t_bags t_men t_bagKinds t_manKinds (wpX0_passDay_L4 t_bags t_men t_bagKinds t_manKinds (wpX0_passDay_J44 t_bags t_men t_bagKinds t_manKinds post) post n4) post t_cells_38 x1_38 x2_38 → va_P (dC, dI) vwCl [(a_t, .inr (0, [.int t_bags, .int t_men, .ref a_t_bagKinds, .ref a_t_manKinds, .ref a_t_cells])), (a_t_bagKinds, .inl (cI, 3, .inl t_bagKinds)), (a_t_manKinds, .inl (cI, 5, .inl t_manKinds)), (a_t_cells, .inl (cI, 23, .inl t_cells_38))] H → va_D A [(a_t, .inr (0, [.int t_bags, .int t_men, .ref a_t_bagKinds, .ref a_t_manKinds, .ref a_t_cells])), (a_t_bagKinds, .inl (cI, 3, .inl t_bagKinds)), (a_t_manKinds, .inl (cI, 5, .inl t_manKinds)), (a_t_cells, .inl (cI, 23, .inl t_cells_38))] → va_S A s.heap H locs → lv_has ls 3 [(0, .ref a_t), (1, .int x1_38), (2, .int x2_38)] → W p l e rmX0_passDay s m [.ref a_t].toArray below meth c H locs 0 0 Q (F0 m 38 ls []) := by
        intro t_cells_38 x1_38 x2_38 H locs ls hw hP hD hS hl
        obtain ⟨y_5, ey_5⟩ : ∃ y : Int32, y = (x2_38 + (1 : Int32)) := ⟨_, rfl⟩
        have hw := hw y_5 ey_5
        refine lv_iinc (v := y_5) (lv' := [(2, .int y_5), (0, .ref a_t), (1, .int x1_38)]) hx hb dX0_passDay_38 hl (k := 2) rfl (by rw [ey_5]; rfl) (by decide) rfl (fun ls hl => ?_)
        refine lv_goto (tgt := 4) hx hb dX0_passDay_41 (by decide) ?_
        exact ih4 t_cells_38 x1_38 y_5 H _ ls hw hP hD hS (lv_sub hl [1, 2, 0] rfl)
      intro t_cells_4 x1_4 x2_4 H locs ls hw hP hD hS hl
      refine lv_iload_n hx hb dX0_passDay_4 rfl (lv_at hl 2 rfl) ?_
      refine lv_aload_n hx hb dX0_passDay_5 rfl (lv_at hl 0 rfl) ?_
      refine va_get (D := (dC, dI)) (ci := 0) (v := .int t_bags) (C := RX0) (T := TX0) (N := 5) hx hb hts inX0 hown hK hP 0 rfl rfl 0 (by decide) fl11 (fun _ h9 => h9) rfl dX0_passDay_6 ?_
      refine lv_icmp_ge (tgt := 44) hx hb dX0_passDay_9 (by decide) (fun c_6 => ?_) (fun c_6 => ?_)
      · have hw := hw.1 c_6
        exact B44 t_cells_4 x1_4 H _ ls hw hP hD hS (lv_sub hl [0, 1] rfl)
      · have hw := hw.2 c_6
        refine lv_aload_n hx hb dX0_passDay_12 rfl (lv_at hl 0 rfl) ?_
        refine lv_iload_n hx hb dX0_passDay_13 rfl (lv_at hl 2 rfl) ?_
        refine kv_callVi (wr := [(a_t_manKinds, .inl (cI, 5, .inl t_manKinds)), (a_t_cells, .inl (cI, 23, .inl t_cells_4))]) (wn := (fun (u : Unit) => [(a_t, .inr (0, [.int t_bags, .int t_men, .ref a_t_bagKinds, .ref a_t_manKinds, .ref a_t_cells])), (a_t_bagKinds, .inl (cI, 3, .inl t_bagKinds)), (a_t_manKinds, .inl (cI, 5, .inl t_manKinds)), (a_t_cells, .inl (cI, 23, .inl t_cells_4))])) (As := [.int x2_4]) (rest := []) ⟨hx, hb, hml, hown, hts⟩ hK hX hA hP hD hS (mtX0_kindOfBag l dC dI cI cZ a_t a_t_bagKinds a_t_manKinds a_t_cells H.size t_bags t_men t_bagKinds x2_4 _ hw) (cwV 1 hts gX0_passDay_X0_kindOfBag rfl rfl rfl (by decide +kernel) ⟨Nat.le_of_ble_eq_true rfl, Nat.le_of_ble_eq_true rfl⟩) 0 0 rfl rfl rfl [0, 1] [2, 3] [2, 3, 0, 1] rfl rfl rfl rfl (by decide) (fun _ => rfl) rfl rfl hl.1 rfl (Nat.le_of_ble_eq_true rfl) ⟨Nat.zero_le _, Nat.zero_le _⟩ dX0_passDay_14 (fun r_7 u H locs hw hP hD hS => ?_)
        refine lv_iconst (v := (2 : Int32)) hx hb dX0_passDay_17 (by decide) ?_
        refine lv_icmp_ne (tgt := 38) hx hb dX0_passDay_18 (by decide) (fun c_8 => ?_) (fun c_8 => ?_)
        · have hw := hw.1 c_8
          exact B38 t_cells_4 x1_4 x2_4 H _ ls hw hP hD hS (lv_sub hl [0, 1, 2] rfl)
        · have hw := hw.2 c_8
          refine lv_aload_n hx hb dX0_passDay_21 rfl (lv_at hl 0 rfl) ?_
          refine lv_iload_n hx hb dX0_passDay_22 rfl (lv_at hl 2 rfl) ?_
          refine kv_callVi (wr := [(a_t_bagKinds, .inl (cI, 3, .inl t_bagKinds)), (a_t_manKinds, .inl (cI, 5, .inl t_manKinds))]) (wn := (fun (u : Unit) => [(a_t, .inr (0, [.int t_bags, .int t_men, .ref a_t_bagKinds, .ref a_t_manKinds, .ref a_t_cells])), (a_t_bagKinds, .inl (cI, 3, .inl t_bagKinds)), (a_t_manKinds, .inl (cI, 5, .inl t_manKinds)), (a_t_cells, .inl (cI, 23, .inl t_cells_4))])) (As := [.int x2_4]) (rest := []) ⟨hx, hb, hml, hown, hts⟩ hK hX hA hP hD hS (mtX0_breathsIn l dC dI cI cZ a_t a_t_bagKinds a_t_manKinds a_t_cells H.size t_bags t_men t_cells_4 x2_4 _ hw) (cwV 1 hts gX0_passDay_X0_breathsIn rfl rfl rfl (by decide +kernel) ⟨Nat.le_of_ble_eq_true rfl, Nat.le_of_ble_eq_true rfl⟩) 0 0 rfl rfl rfl [0, 3] [1, 2] [2, 0, 1, 3] rfl rfl rfl rfl (by decide) (fun _ => rfl) rfl rfl hl.1 rfl (Nat.le_of_ble_eq_true rfl) ⟨Nat.zero_le _, Nat.zero_le _⟩ dX0_passDay_23 (fun r_9 u H locs hw hP hD hS => ?_)
          refine lv_if_le (tgt := 38) hx hb dX0_passDay_26 (by decide) (fun c_10 => ?_) (fun c_10 => ?_)
          · have hw := hw.1 c_10
            exact B38 t_cells_4 x1_4 x2_4 H _ ls hw hP hD hS (lv_sub hl [0, 1, 2] rfl)
          · have hw := hw.2 c_10
            refine lv_aload_n hx hb dX0_passDay_29 rfl (lv_at hl 0 rfl) ?_
            refine lv_iload_n hx hb dX0_passDay_30 rfl (lv_at hl 2 rfl) ?_
            refine lv_iconst (v := (0 : Int32)) hx hb dX0_passDay_31 (by decide) ?_
            refine kv_callVv (wr := [(a_t_bagKinds, .inl (cI, 3, .inl t_bagKinds)), (a_t_manKinds, .inl (cI, 5, .inl t_manKinds))]) (wn := (fun (u : (Nat → Int32)) => [(a_t, .inr (0, [.int t_bags, .int t_men, .ref a_t_bagKinds, .ref a_t_manKinds, .ref a_t_cells])), (a_t_bagKinds, .inl (cI, 3, .inl t_bagKinds)), (a_t_manKinds, .inl (cI, 5, .inl t_manKinds)), (a_t_cells, .inl (cI, 23, .inl u))])) (As := [.int x2_4, .int (0 : Int32)]) (rest := []) ⟨hx, hb, hml, hown, hts⟩ hK hX hA hP hD hS (mtX0_lose l dC dI cI cZ a_t a_t_bagKinds a_t_manKinds a_t_cells H.size t_bags t_men t_cells_4 x2_4 (0 : Int32) _ hw) (cwV 2 hts gX0_passDay_X0_lose rfl rfl rfl (by decide +kernel) ⟨Nat.le_of_ble_eq_true rfl, Nat.le_of_ble_eq_true rfl⟩) 0 0 rfl rfl rfl [0, 3] [1, 2] [2, 0, 1, 3] rfl rfl rfl rfl (by decide) (fun _ => rfl) rfl rfl hl.1 rfl (Nat.le_of_ble_eq_true rfl) ⟨Nat.zero_le _, Nat.zero_le _⟩ dX0_passDay_32 (fun u H locs hw hP hD hS => ?_)
            obtain ⟨t_cells_11, rfl⟩ : ∃ z, z = u := ⟨_, rfl⟩
            have hP : va_P (dC, dI) vwCl [(a_t, .inr (0, [.int t_bags, .int t_men, .ref a_t_bagKinds, .ref a_t_manKinds, .ref a_t_cells])), (a_t_bagKinds, .inl (cI, 3, .inl t_bagKinds)), (a_t_manKinds, .inl (cI, 5, .inl t_manKinds)), (a_t_cells, .inl (cI, 23, .inl t_cells_11))] H := hP
            have hD : va_D A [(a_t, .inr (0, [.int t_bags, .int t_men, .ref a_t_bagKinds, .ref a_t_manKinds, .ref a_t_cells])), (a_t_bagKinds, .inl (cI, 3, .inl t_bagKinds)), (a_t_manKinds, .inl (cI, 5, .inl t_manKinds)), (a_t_cells, .inl (cI, 23, .inl t_cells_11))] := hD
            obtain ⟨y_12, ey_12⟩ : ∃ y : Int32, y = (x1_4 + (1 : Int32)) := ⟨_, rfl⟩
            have hw := hw y_12 ey_12
            refine lv_iinc (v := y_12) (lv' := [(1, .int y_12), (0, .ref a_t), (2, .int x2_4)]) hx hb dX0_passDay_35 hl (k := 1) rfl (by rw [ey_12]; rfl) (by decide) rfl (fun ls hl => ?_)
            exact B38 t_cells_11 y_12 x2_4 H _ ls hw hP hD hS (lv_sub hl [1, 0, 2] rfl)
  have E4 : ∀ (t_cells_4 : Nat → Int32) (x1_4 : Int32) (x2_4 : Int32) (H : Heap) (locs : List Loc) (ls : Array Slot), wpX0_passDay_E4 t_bags t_men t_bagKinds t_manKinds post t_cells_4 x1_4 x2_4 → va_P (dC, dI) vwCl [(a_t, .inr (0, [.int t_bags, .int t_men, .ref a_t_bagKinds, .ref a_t_manKinds, .ref a_t_cells])), (a_t_bagKinds, .inl (cI, 3, .inl t_bagKinds)), (a_t_manKinds, .inl (cI, 5, .inl t_manKinds)), (a_t_cells, .inl (cI, 23, .inl t_cells_4))] H → va_D A [(a_t, .inr (0, [.int t_bags, .int t_men, .ref a_t_bagKinds, .ref a_t_manKinds, .ref a_t_cells])), (a_t_bagKinds, .inl (cI, 3, .inl t_bagKinds)), (a_t_manKinds, .inl (cI, 5, .inl t_manKinds)), (a_t_cells, .inl (cI, 23, .inl t_cells_4))] → va_S A s.heap H locs → lv_has ls 3 [(0, .ref a_t), (1, .int x1_4), (2, .int x2_4)] → W p l e rmX0_passDay s m [.ref a_t].toArray below meth c H locs 0 0 Q (F0 m 4 ls []) := by
    intro t_cells_4 x1_4 x2_4 H locs ls hw hP hD hS hl
    obtain ⟨n, hw⟩ := hw
    exact L4  n t_cells_4 x1_4 x2_4 H locs ls hw hP hD hS hl
  refine lv_iconst (v := (0 : Int32)) hx hb dX0_passDay_0 (by decide) ?_
  refine lv_istore_n (lv' := [(1, .int (0 : Int32)), (0, .ref a_t)]) hx hb dX0_passDay_1 rfl hl (by decide) rfl (fun ls hl => ?_)
  refine lv_iconst (v := (0 : Int32)) hx hb dX0_passDay_2 (by decide) ?_
  refine lv_istore_n (lv' := [(2, .int (0 : Int32)), (1, .int (0 : Int32)), (0, .ref a_t)]) hx hb dX0_passDay_3 rfl hl (by decide) rfl (fun ls hl => ?_)
  exact E4 t_cells (0 : Int32) (0 : Int32) s.heap _ ls hw hP hD hS (lv_sub hl [2, 1, 0] rfl)
