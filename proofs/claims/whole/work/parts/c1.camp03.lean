def wpX0_canDo (t_bags : Int32) (t_men : Int32) (t_bagKinds : Nat → Int32) (t_manKinds : Nat → Int32) (t_cells : Nat → Int32) (x1 : Int32) (x2 : Int32) (x3 : Int32) (post : Int32 → (Nat → Int32) → Prop) : Prop := ((x1 = (0 : Int32) → ((¬ x2 = 0 → post (0 : Int32) t_cells) ∧ (x2 = 0 → ((¬ x3 = 0 → post (0 : Int32) t_cells) ∧ (x3 = 0 → wpX0_passDay t_bags t_men t_bagKinds t_manKinds t_cells (fun r_11 t_cells_10 => ((r_11 < 0 → post (0 : Int32) t_cells_10) ∧ (¬ r_11 < 0 → post (1 : Int32) t_cells_10)))))))) ∧ (¬ x1 = (0 : Int32) → (x1 = (1 : Int32) → wpX0_giveBreath t_bags t_men t_cells x2 x3 (fun r_14 t_cells_13 => ((r_14 < 0 → post (0 : Int32) t_cells_13) ∧ (¬ r_14 < 0 → post (1 : Int32) t_cells_13)))) ∧ (¬ x1 = (1 : Int32) → (x1 = (2 : Int32) → wpX0_playBreaths t_bags t_bagKinds t_cells x2 x3 (fun r_17 t_cells_16 => ((r_17 < 0 → post (0 : Int32) t_cells_16) ∧ (¬ r_17 < 0 → post (1 : Int32) t_cells_16)))) ∧ (¬ x1 = (2 : Int32) → (x1 = (3 : Int32) → wpX0_takeBack t_bags t_men t_bagKinds t_cells x2 x3 (fun r_20 t_cells_19 => ((r_20 < 0 → post (0 : Int32) t_cells_19) ∧ (¬ r_20 < 0 → post (1 : Int32) t_cells_19)))) ∧ (¬ x1 = (3 : Int32) → (x1 = (4 : Int32) → ((¬ x2 = 0 → post (0 : Int32) t_cells) ∧ (x2 = 0 → wpX0_cutOpen t_bags t_cells x3 (fun r_24 t_cells_23 => ((r_24 < 0 → post (0 : Int32) t_cells_23) ∧ (¬ r_24 < 0 → post (1 : Int32) t_cells_23)))))) ∧ (¬ x1 = (4 : Int32) → (x1 = (5 : Int32) → ((¬ x2 = 0 → post (0 : Int32) t_cells) ∧ (x2 = 0 → wpX0_loseMan t_bags t_men t_cells x3 (fun r_28 t_cells_27 => ((r_28 < 0 → post (0 : Int32) t_cells_27) ∧ (¬ r_28 < 0 → post (1 : Int32) t_cells_27)))))) ∧ (¬ x1 = (5 : Int32) → (x1 = (6 : Int32) → wpX0_isMan t_men x2 (fun r_30 => ((r_30 = 0 → post (0 : Int32) t_cells) ∧ (¬ r_30 = 0 → wpX0_ofMan t_men t_cells (2 : Int32) x2 (fun r_32 => ((r_32 < x3 → post (0 : Int32) t_cells) ∧ (¬ r_32 < x3 → post (1 : Int32) t_cells))))))) ∧ (¬ x1 = (6 : Int32) → post (0 : Int32) t_cells))))))))
abbrev rmX0_canDo : Room := { frames := 5, cells := 0, slots := 0, locals := 114 }
set_option maxHeartbeats 4000000 in
set_option maxRecDepth 100000 in
theorem mtX0_canDo (l : Launch) (dC : Nat → ClassId) (dI : Nat → Nat → Nat) (cI cZ : ClassId) (a_t : Nat) (a_t_bagKinds : Nat) (a_t_manKinds : Nat) (a_t_cells : Nat) (sz : Nat) (t_bags : Int32) (t_men : Int32) (t_bagKinds : Nat → Int32) (t_manKinds : Nat → Int32) (t_cells : Nat → Int32) (x1 : Int32) (x2 : Int32) (x3 : Int32) (post : Int32 → (Nat → Int32) → Prop) (hw : wpX0_canDo t_bags t_men t_bagKinds t_manKinds t_cells x1 x2 x3 post) : Met l yX0_canDo wsX0_canDo rmX0_canDo (va_Pc [.ref a_t, .int x1, .int x2, .int x3] (kvPre (dC, dI) cI cZ sz [(a_t, .inr (0, [.int t_bags, .int t_men, .ref a_t_bagKinds, .ref a_t_manKinds, .ref a_t_cells])), (a_t_bagKinds, .inl (cI, 3, .inl t_bagKinds)), (a_t_manKinds, .inl (cI, 5, .inl t_manKinds)), (a_t_cells, .inl (cI, 23, .inl t_cells))])) (va_Qi (fun (r : Int32) (u : (Nat → Int32)) => vb r ∧ post r u) (kvB (dC, dI) (va_A [(a_t, .inr (0, [.int t_bags, .int t_men, .ref a_t_bagKinds, .ref a_t_manKinds, .ref a_t_cells])), (a_t_bagKinds, .inl (cI, 3, .inl t_bagKinds)), (a_t_manKinds, .inl (cI, 5, .inl t_manKinds)), (a_t_cells, .inl (cI, 23, .inl t_cells))] sz) (fun (u : (Nat → Int32)) => [(a_t, .inr (0, [.int t_bags, .int t_men, .ref a_t_bagKinds, .ref a_t_manKinds, .ref a_t_cells])), (a_t_bagKinds, .inl (cI, 3, .inl t_bagKinds)), (a_t_manKinds, .inl (cI, 5, .inl t_manKinds)), (a_t_cells, .inl (cI, 23, .inl u))])) (va_A [(a_t, .inr (0, [.int t_bags, .int t_men, .ref a_t_bagKinds, .ref a_t_manKinds, .ref a_t_cells])), (a_t_bagKinds, .inl (cI, 3, .inl t_bagKinds)), (a_t_manKinds, .inl (cI, 5, .inl t_manKinds)), (a_t_cells, .inl (cI, 23, .inl t_cells))] sz)) 0 0 (va_A [(a_t, .inr (0, [.int t_bags, .int t_men, .ref a_t_bagKinds, .ref a_t_manKinds, .ref a_t_cells])), (a_t_bagKinds, .inl (cI, 3, .inl t_bagKinds)), (a_t_manKinds, .inl (cI, 5, .inl t_manKinds)), (a_t_cells, .inl (cI, 23, .inl t_cells))] sz) := by
  refine kv_metZ (y := yX0_canDo) (ws := wsX0_canDo) (rm := rmX0_canDo) (av := [.ref a_t, .int x1, .int x2, .int x3]) (sz := sz) (w := [(a_t, .inr (0, [.int t_bags, .int t_men, .ref a_t_bagKinds, .ref a_t_manKinds, .ref a_t_cells])), (a_t_bagKinds, .inl (cI, 3, .inl t_bagKinds)), (a_t_manKinds, .inl (cI, 5, .inl t_manKinds)), (a_t_cells, .inl (cI, 23, .inl t_cells))]) (cc := cX0_canDo) (maxL := 4) (own := RX0) (post := (fun (r : Int32) (u : (Nat → Int32)) => post r u)) (w1 := (fun (u : (Nat → Int32)) => [(a_t, .inr (0, [.int t_bags, .int t_men, .ref a_t_bagKinds, .ref a_t_manKinds, .ref a_t_cells])), (a_t_bagKinds, .inl (cI, 3, .inl t_bagKinds)), (a_t_manKinds, .inl (cI, 5, .inl t_manKinds)), (a_t_cells, .inl (cI, 23, .inl u))])) (by decide) rfl rfl (Nat.le_of_ble_eq_true rfl) ?_
  intro p e s m below meth c A Q hx hb hml hown hts hK hX hA hP hD hsz hret ls hl
  have hS : va_S A s.heap s.heap [] := va_S.rf
  have hl : lv_has ls 4 [(0, .ref a_t), (1, .int x1), (2, .int x2), (3, .int x3)] := hl
  refine lv_iload_n hx hb dX0_canDo_0 rfl (lv_at hl 1 rfl) ?_
  by_cases c_1 : x1 = (0 : Int32)
  · have hw := hw.1 c_1
    refine lv_tableIn (tgt := 44) hx hb dX0_canDo_1 (by rw [c_1]; decide) (by rw [c_1]; decide) (by rw [c_1]; rfl) (by decide) ?_
    refine lv_iload_n hx hb dX0_canDo_44 rfl (lv_at hl 2 rfl) ?_
    refine lv_if_ne (tgt := 63) hx hb dX0_canDo_45 (by decide) (fun c_8 => ?_) (fun c_8 => ?_)
    · have hw := hw.1 c_8
      refine lv_iconst (v := (0 : Int32)) hx hb dX0_canDo_63 (by decide) ?_
      exact hret (0 : Int32) t_cells s.heap _ _ ls vb0 hw hP hD hS dX0_canDo_64
    · have hw := hw.2 c_8
      refine lv_iload_n hx hb dX0_canDo_48 rfl (lv_at hl 3 rfl) ?_
      refine lv_if_ne (tgt := 63) hx hb dX0_canDo_49 (by decide) (fun c_9 => ?_) (fun c_9 => ?_)
      · have hw := hw.1 c_9
        refine lv_iconst (v := (0 : Int32)) hx hb dX0_canDo_63 (by decide) ?_
        exact hret (0 : Int32) t_cells s.heap _ _ ls vb0 hw hP hD hS dX0_canDo_64
      · have hw := hw.2 c_9
        refine lv_aload_n hx hb dX0_canDo_52 rfl (lv_at hl 0 rfl) ?_
        refine kv_callVi (wr := []) (wn := (fun (u : (Nat → Int32)) => [(a_t, .inr (0, [.int t_bags, .int t_men, .ref a_t_bagKinds, .ref a_t_manKinds, .ref a_t_cells])), (a_t_bagKinds, .inl (cI, 3, .inl t_bagKinds)), (a_t_manKinds, .inl (cI, 5, .inl t_manKinds)), (a_t_cells, .inl (cI, 23, .inl u))])) (As := []) (rest := []) ⟨hx, hb, hml, hown, hts⟩ hK hX hA hP hD hS (mtX0_passDay l dC dI cI cZ a_t a_t_bagKinds a_t_manKinds a_t_cells s.heap.size t_bags t_men t_bagKinds t_manKinds t_cells _ hw) (cwV 0 hts gX0_canDo_X0_passDay rfl rfl rfl (by decide +kernel) ⟨Nat.le_of_ble_eq_true rfl, Nat.le_of_ble_eq_true rfl⟩) 0 0 rfl rfl rfl [0, 1, 2, 3] [] [0, 1, 2, 3] rfl rfl rfl rfl (by decide) (fun _ => rfl) rfl rfl hl.1 rfl (Nat.le_of_ble_eq_true rfl) ⟨Nat.zero_le _, Nat.zero_le _⟩ dX0_canDo_53 (fun r_11 u H locs hw hP hD hS => ?_)
        obtain ⟨t_cells_10, rfl⟩ : ∃ z, z = u := ⟨_, rfl⟩
        have hP : va_P (dC, dI) vwCl [(a_t, .inr (0, [.int t_bags, .int t_men, .ref a_t_bagKinds, .ref a_t_manKinds, .ref a_t_cells])), (a_t_bagKinds, .inl (cI, 3, .inl t_bagKinds)), (a_t_manKinds, .inl (cI, 5, .inl t_manKinds)), (a_t_cells, .inl (cI, 23, .inl t_cells_10))] H := hP
        have hD : va_D A [(a_t, .inr (0, [.int t_bags, .int t_men, .ref a_t_bagKinds, .ref a_t_manKinds, .ref a_t_cells])), (a_t_bagKinds, .inl (cI, 3, .inl t_bagKinds)), (a_t_manKinds, .inl (cI, 5, .inl t_manKinds)), (a_t_cells, .inl (cI, 23, .inl t_cells_10))] := hD
        refine lv_if_lt (tgt := 63) hx hb dX0_canDo_56 (by decide) (fun c_12 => ?_) (fun c_12 => ?_)
        · have hw := hw.1 c_12
          refine lv_iconst (v := (0 : Int32)) hx hb dX0_canDo_63 (by decide) ?_
          exact hret (0 : Int32) t_cells_10 H _ _ ls vb0 hw hP hD hS dX0_canDo_64
        · have hw := hw.2 c_12
          refine lv_iconst (v := (1 : Int32)) hx hb dX0_canDo_59 (by decide) ?_
          refine lv_goto (tgt := 64) hx hb dX0_canDo_60 (by decide) ?_
          exact hret (1 : Int32) t_cells_10 H _ _ ls vb1 hw hP hD hS dX0_canDo_64
  · have hw := hw.2 c_1
    by_cases c_2 : x1 = (1 : Int32)
    · have hw := hw.1 c_2
      refine lv_tableIn (tgt := 65) hx hb dX0_canDo_1 (by rw [c_2]; decide) (by rw [c_2]; decide) (by rw [c_2]; rfl) (by decide) ?_
      refine lv_aload_n hx hb dX0_canDo_65 rfl (lv_at hl 0 rfl) ?_
      refine lv_iload_n hx hb dX0_canDo_66 rfl (lv_at hl 2 rfl) ?_
      refine lv_iload_n hx hb dX0_canDo_67 rfl (lv_at hl 3 rfl) ?_
      refine kv_callVi (wr := [(a_t_bagKinds, .inl (cI, 3, .inl t_bagKinds)), (a_t_manKinds, .inl (cI, 5, .inl t_manKinds))]) (wn := (fun (u : (Nat → Int32)) => [(a_t, .inr (0, [.int t_bags, .int t_men, .ref a_t_bagKinds, .ref a_t_manKinds, .ref a_t_cells])), (a_t_bagKinds, .inl (cI, 3, .inl t_bagKinds)), (a_t_manKinds, .inl (cI, 5, .inl t_manKinds)), (a_t_cells, .inl (cI, 23, .inl u))])) (As := [.int x2, .int x3]) (rest := []) ⟨hx, hb, hml, hown, hts⟩ hK hX hA hP hD hS (mtX0_giveBreath l dC dI cI cZ a_t a_t_bagKinds a_t_manKinds a_t_cells s.heap.size t_bags t_men t_cells x2 x3 _ hw) (cwV 2 hts gX0_canDo_X0_giveBreath rfl rfl rfl (by decide +kernel) ⟨Nat.le_of_ble_eq_true rfl, Nat.le_of_ble_eq_true rfl⟩) 0 0 rfl rfl rfl [0, 3] [1, 2] [2, 0, 1, 3] rfl rfl rfl rfl (by decide) (fun _ => rfl) rfl rfl hl.1 rfl (Nat.le_of_ble_eq_true rfl) ⟨Nat.zero_le _, Nat.zero_le _⟩ dX0_canDo_68 (fun r_14 u H locs hw hP hD hS => ?_)
      obtain ⟨t_cells_13, rfl⟩ : ∃ z, z = u := ⟨_, rfl⟩
      have hP : va_P (dC, dI) vwCl [(a_t, .inr (0, [.int t_bags, .int t_men, .ref a_t_bagKinds, .ref a_t_manKinds, .ref a_t_cells])), (a_t_bagKinds, .inl (cI, 3, .inl t_bagKinds)), (a_t_manKinds, .inl (cI, 5, .inl t_manKinds)), (a_t_cells, .inl (cI, 23, .inl t_cells_13))] H := hP
      have hD : va_D A [(a_t, .inr (0, [.int t_bags, .int t_men, .ref a_t_bagKinds, .ref a_t_manKinds, .ref a_t_cells])), (a_t_bagKinds, .inl (cI, 3, .inl t_bagKinds)), (a_t_manKinds, .inl (cI, 5, .inl t_manKinds)), (a_t_cells, .inl (cI, 23, .inl t_cells_13))] := hD
      refine lv_if_lt (tgt := 78) hx hb dX0_canDo_71 (by decide) (fun c_15 => ?_) (fun c_15 => ?_)
      · have hw := hw.1 c_15
        refine lv_iconst (v := (0 : Int32)) hx hb dX0_canDo_78 (by decide) ?_
        exact hret (0 : Int32) t_cells_13 H _ _ ls vb0 hw hP hD hS dX0_canDo_79
      · have hw := hw.2 c_15
        refine lv_iconst (v := (1 : Int32)) hx hb dX0_canDo_74 (by decide) ?_
        refine lv_goto (tgt := 79) hx hb dX0_canDo_75 (by decide) ?_
        exact hret (1 : Int32) t_cells_13 H _ _ ls vb1 hw hP hD hS dX0_canDo_79
    · have hw := hw.2 c_2
      by_cases c_3 : x1 = (2 : Int32)
      · have hw := hw.1 c_3
        refine lv_tableIn (tgt := 80) hx hb dX0_canDo_1 (by rw [c_3]; decide) (by rw [c_3]; decide) (by rw [c_3]; rfl) (by decide) ?_
        refine lv_aload_n hx hb dX0_canDo_80 rfl (lv_at hl 0 rfl) ?_
        refine lv_iload_n hx hb dX0_canDo_81 rfl (lv_at hl 2 rfl) ?_
        refine lv_iload_n hx hb dX0_canDo_82 rfl (lv_at hl 3 rfl) ?_
        refine kv_callVi (wr := [(a_t_manKinds, .inl (cI, 5, .inl t_manKinds))]) (wn := (fun (u : (Nat → Int32)) => [(a_t, .inr (0, [.int t_bags, .int t_men, .ref a_t_bagKinds, .ref a_t_manKinds, .ref a_t_cells])), (a_t_bagKinds, .inl (cI, 3, .inl t_bagKinds)), (a_t_manKinds, .inl (cI, 5, .inl t_manKinds)), (a_t_cells, .inl (cI, 23, .inl u))])) (As := [.int x2, .int x3]) (rest := []) ⟨hx, hb, hml, hown, hts⟩ hK hX hA hP hD hS (mtX0_playBreaths l dC dI cI cZ a_t a_t_bagKinds a_t_manKinds a_t_cells s.heap.size t_bags t_men t_bagKinds t_cells x2 x3 _ hw) (cwV 2 hts gX0_canDo_X0_playBreaths rfl rfl rfl (by decide +kernel) ⟨Nat.le_of_ble_eq_true rfl, Nat.le_of_ble_eq_true rfl⟩) 0 0 rfl rfl rfl [0, 1, 3] [2] [1, 2, 0, 3] rfl rfl rfl rfl (by decide) (fun _ => rfl) rfl rfl hl.1 rfl (Nat.le_of_ble_eq_true rfl) ⟨Nat.zero_le _, Nat.zero_le _⟩ dX0_canDo_83 (fun r_17 u H locs hw hP hD hS => ?_)
        obtain ⟨t_cells_16, rfl⟩ : ∃ z, z = u := ⟨_, rfl⟩
        have hP : va_P (dC, dI) vwCl [(a_t, .inr (0, [.int t_bags, .int t_men, .ref a_t_bagKinds, .ref a_t_manKinds, .ref a_t_cells])), (a_t_bagKinds, .inl (cI, 3, .inl t_bagKinds)), (a_t_manKinds, .inl (cI, 5, .inl t_manKinds)), (a_t_cells, .inl (cI, 23, .inl t_cells_16))] H := hP
        have hD : va_D A [(a_t, .inr (0, [.int t_bags, .int t_men, .ref a_t_bagKinds, .ref a_t_manKinds, .ref a_t_cells])), (a_t_bagKinds, .inl (cI, 3, .inl t_bagKinds)), (a_t_manKinds, .inl (cI, 5, .inl t_manKinds)), (a_t_cells, .inl (cI, 23, .inl t_cells_16))] := hD
        refine lv_if_lt (tgt := 93) hx hb dX0_canDo_86 (by decide) (fun c_18 => ?_) (fun c_18 => ?_)
        · have hw := hw.1 c_18
          refine lv_iconst (v := (0 : Int32)) hx hb dX0_canDo_93 (by decide) ?_
          exact hret (0 : Int32) t_cells_16 H _ _ ls vb0 hw hP hD hS dX0_canDo_94
        · have hw := hw.2 c_18
          refine lv_iconst (v := (1 : Int32)) hx hb dX0_canDo_89 (by decide) ?_
          refine lv_goto (tgt := 94) hx hb dX0_canDo_90 (by decide) ?_
          exact hret (1 : Int32) t_cells_16 H _ _ ls vb1 hw hP hD hS dX0_canDo_94
      · have hw := hw.2 c_3
        by_cases c_4 : x1 = (3 : Int32)
        · have hw := hw.1 c_4
          refine lv_tableIn (tgt := 95) hx hb dX0_canDo_1 (by rw [c_4]; decide) (by rw [c_4]; decide) (by rw [c_4]; rfl) (by decide) ?_
          refine lv_aload_n hx hb dX0_canDo_95 rfl (lv_at hl 0 rfl) ?_
          refine lv_iload_n hx hb dX0_canDo_96 rfl (lv_at hl 2 rfl) ?_
          refine lv_iload_n hx hb dX0_canDo_97 rfl (lv_at hl 3 rfl) ?_
          refine kv_callVi (wr := [(a_t_manKinds, .inl (cI, 5, .inl t_manKinds))]) (wn := (fun (u : (Nat → Int32)) => [(a_t, .inr (0, [.int t_bags, .int t_men, .ref a_t_bagKinds, .ref a_t_manKinds, .ref a_t_cells])), (a_t_bagKinds, .inl (cI, 3, .inl t_bagKinds)), (a_t_manKinds, .inl (cI, 5, .inl t_manKinds)), (a_t_cells, .inl (cI, 23, .inl u))])) (As := [.int x2, .int x3]) (rest := []) ⟨hx, hb, hml, hown, hts⟩ hK hX hA hP hD hS (mtX0_takeBack l dC dI cI cZ a_t a_t_bagKinds a_t_manKinds a_t_cells s.heap.size t_bags t_men t_bagKinds t_cells x2 x3 _ hw) (cwV 2 hts gX0_canDo_X0_takeBack rfl rfl rfl (by decide +kernel) ⟨Nat.le_of_ble_eq_true rfl, Nat.le_of_ble_eq_true rfl⟩) 0 0 rfl rfl rfl [0, 1, 3] [2] [1, 2, 0, 3] rfl rfl rfl rfl (by decide) (fun _ => rfl) rfl rfl hl.1 rfl (Nat.le_of_ble_eq_true rfl) ⟨Nat.zero_le _, Nat.zero_le _⟩ dX0_canDo_98 (fun r_20 u H locs hw hP hD hS => ?_)
          obtain ⟨t_cells_19, rfl⟩ : ∃ z, z = u := ⟨_, rfl⟩
          have hP : va_P (dC, dI) vwCl [(a_t, .inr (0, [.int t_bags, .int t_men, .ref a_t_bagKinds, .ref a_t_manKinds, .ref a_t_cells])), (a_t_bagKinds, .inl (cI, 3, .inl t_bagKinds)), (a_t_manKinds, .inl (cI, 5, .inl t_manKinds)), (a_t_cells, .inl (cI, 23, .inl t_cells_19))] H := hP
          have hD : va_D A [(a_t, .inr (0, [.int t_bags, .int t_men, .ref a_t_bagKinds, .ref a_t_manKinds, .ref a_t_cells])), (a_t_bagKinds, .inl (cI, 3, .inl t_bagKinds)), (a_t_manKinds, .inl (cI, 5, .inl t_manKinds)), (a_t_cells, .inl (cI, 23, .inl t_cells_19))] := hD
          refine lv_if_lt (tgt := 108) hx hb dX0_canDo_101 (by decide) (fun c_21 => ?_) (fun c_21 => ?_)
          · have hw := hw.1 c_21
            refine lv_iconst (v := (0 : Int32)) hx hb dX0_canDo_108 (by decide) ?_
            exact hret (0 : Int32) t_cells_19 H _ _ ls vb0 hw hP hD hS dX0_canDo_109
          · have hw := hw.2 c_21
            refine lv_iconst (v := (1 : Int32)) hx hb dX0_canDo_104 (by decide) ?_
            refine lv_goto (tgt := 109) hx hb dX0_canDo_105 (by decide) ?_
            exact hret (1 : Int32) t_cells_19 H _ _ ls vb1 hw hP hD hS dX0_canDo_109
        · have hw := hw.2 c_4
          by_cases c_5 : x1 = (4 : Int32)
          · have hw := hw.1 c_5
            refine lv_tableIn (tgt := 110) hx hb dX0_canDo_1 (by rw [c_5]; decide) (by rw [c_5]; decide) (by rw [c_5]; rfl) (by decide) ?_
            refine lv_iload_n hx hb dX0_canDo_110 rfl (lv_at hl 2 rfl) ?_
            refine lv_if_ne (tgt := 126) hx hb dX0_canDo_111 (by decide) (fun c_22 => ?_) (fun c_22 => ?_)
            · have hw := hw.1 c_22
              refine lv_iconst (v := (0 : Int32)) hx hb dX0_canDo_126 (by decide) ?_
              exact hret (0 : Int32) t_cells s.heap _ _ ls vb0 hw hP hD hS dX0_canDo_127
            · have hw := hw.2 c_22
              refine lv_aload_n hx hb dX0_canDo_114 rfl (lv_at hl 0 rfl) ?_
              refine lv_iload_n hx hb dX0_canDo_115 rfl (lv_at hl 3 rfl) ?_
              refine kv_callVi (wr := [(a_t_bagKinds, .inl (cI, 3, .inl t_bagKinds)), (a_t_manKinds, .inl (cI, 5, .inl t_manKinds))]) (wn := (fun (u : (Nat → Int32)) => [(a_t, .inr (0, [.int t_bags, .int t_men, .ref a_t_bagKinds, .ref a_t_manKinds, .ref a_t_cells])), (a_t_bagKinds, .inl (cI, 3, .inl t_bagKinds)), (a_t_manKinds, .inl (cI, 5, .inl t_manKinds)), (a_t_cells, .inl (cI, 23, .inl u))])) (As := [.int x3]) (rest := []) ⟨hx, hb, hml, hown, hts⟩ hK hX hA hP hD hS (mtX0_cutOpen l dC dI cI cZ a_t a_t_bagKinds a_t_manKinds a_t_cells s.heap.size t_bags t_men t_cells x3 _ hw) (cwV 1 hts gX0_canDo_X0_cutOpen rfl rfl rfl (by decide +kernel) ⟨Nat.le_of_ble_eq_true rfl, Nat.le_of_ble_eq_true rfl⟩) 0 0 rfl rfl rfl [0, 3] [1, 2] [2, 0, 1, 3] rfl rfl rfl rfl (by decide) (fun _ => rfl) rfl rfl hl.1 rfl (Nat.le_of_ble_eq_true rfl) ⟨Nat.zero_le _, Nat.zero_le _⟩ dX0_canDo_116 (fun r_24 u H locs hw hP hD hS => ?_)
              obtain ⟨t_cells_23, rfl⟩ : ∃ z, z = u := ⟨_, rfl⟩
              have hP : va_P (dC, dI) vwCl [(a_t, .inr (0, [.int t_bags, .int t_men, .ref a_t_bagKinds, .ref a_t_manKinds, .ref a_t_cells])), (a_t_bagKinds, .inl (cI, 3, .inl t_bagKinds)), (a_t_manKinds, .inl (cI, 5, .inl t_manKinds)), (a_t_cells, .inl (cI, 23, .inl t_cells_23))] H := hP
              have hD : va_D A [(a_t, .inr (0, [.int t_bags, .int t_men, .ref a_t_bagKinds, .ref a_t_manKinds, .ref a_t_cells])), (a_t_bagKinds, .inl (cI, 3, .inl t_bagKinds)), (a_t_manKinds, .inl (cI, 5, .inl t_manKinds)), (a_t_cells, .inl (cI, 23, .inl t_cells_23))] := hD
              refine lv_if_lt (tgt := 126) hx hb dX0_canDo_119 (by decide) (fun c_25 => ?_) (fun c_25 => ?_)
              · have hw := hw.1 c_25
                refine lv_iconst (v := (0 : Int32)) hx hb dX0_canDo_126 (by decide) ?_
                exact hret (0 : Int32) t_cells_23 H _ _ ls vb0 hw hP hD hS dX0_canDo_127
              · have hw := hw.2 c_25
                refine lv_iconst (v := (1 : Int32)) hx hb dX0_canDo_122 (by decide) ?_
                refine lv_goto (tgt := 127) hx hb dX0_canDo_123 (by decide) ?_
                exact hret (1 : Int32) t_cells_23 H _ _ ls vb1 hw hP hD hS dX0_canDo_127
          · have hw := hw.2 c_5
            by_cases c_6 : x1 = (5 : Int32)
            · have hw := hw.1 c_6
              refine lv_tableIn (tgt := 128) hx hb dX0_canDo_1 (by rw [c_6]; decide) (by rw [c_6]; decide) (by rw [c_6]; rfl) (by decide) ?_
              refine lv_iload_n hx hb dX0_canDo_128 rfl (lv_at hl 2 rfl) ?_
              refine lv_if_ne (tgt := 144) hx hb dX0_canDo_129 (by decide) (fun c_26 => ?_) (fun c_26 => ?_)
              · have hw := hw.1 c_26
                refine lv_iconst (v := (0 : Int32)) hx hb dX0_canDo_144 (by decide) ?_
                exact hret (0 : Int32) t_cells s.heap _ _ ls vb0 hw hP hD hS dX0_canDo_145
              · have hw := hw.2 c_26
                refine lv_aload_n hx hb dX0_canDo_132 rfl (lv_at hl 0 rfl) ?_
                refine lv_iload_n hx hb dX0_canDo_133 rfl (lv_at hl 3 rfl) ?_
                refine kv_callVi (wr := [(a_t_bagKinds, .inl (cI, 3, .inl t_bagKinds)), (a_t_manKinds, .inl (cI, 5, .inl t_manKinds))]) (wn := (fun (u : (Nat → Int32)) => [(a_t, .inr (0, [.int t_bags, .int t_men, .ref a_t_bagKinds, .ref a_t_manKinds, .ref a_t_cells])), (a_t_bagKinds, .inl (cI, 3, .inl t_bagKinds)), (a_t_manKinds, .inl (cI, 5, .inl t_manKinds)), (a_t_cells, .inl (cI, 23, .inl u))])) (As := [.int x3]) (rest := []) ⟨hx, hb, hml, hown, hts⟩ hK hX hA hP hD hS (mtX0_loseMan l dC dI cI cZ a_t a_t_bagKinds a_t_manKinds a_t_cells s.heap.size t_bags t_men t_cells x3 _ hw) (cwV 1 hts gX0_canDo_X0_loseMan rfl rfl rfl (by decide +kernel) ⟨Nat.le_of_ble_eq_true rfl, Nat.le_of_ble_eq_true rfl⟩) 0 0 rfl rfl rfl [0, 3] [1, 2] [2, 0, 1, 3] rfl rfl rfl rfl (by decide) (fun _ => rfl) rfl rfl hl.1 rfl (Nat.le_of_ble_eq_true rfl) ⟨Nat.zero_le _, Nat.zero_le _⟩ dX0_canDo_134 (fun r_28 u H locs hw hP hD hS => ?_)
                obtain ⟨t_cells_27, rfl⟩ : ∃ z, z = u := ⟨_, rfl⟩
                have hP : va_P (dC, dI) vwCl [(a_t, .inr (0, [.int t_bags, .int t_men, .ref a_t_bagKinds, .ref a_t_manKinds, .ref a_t_cells])), (a_t_bagKinds, .inl (cI, 3, .inl t_bagKinds)), (a_t_manKinds, .inl (cI, 5, .inl t_manKinds)), (a_t_cells, .inl (cI, 23, .inl t_cells_27))] H := hP
                have hD : va_D A [(a_t, .inr (0, [.int t_bags, .int t_men, .ref a_t_bagKinds, .ref a_t_manKinds, .ref a_t_cells])), (a_t_bagKinds, .inl (cI, 3, .inl t_bagKinds)), (a_t_manKinds, .inl (cI, 5, .inl t_manKinds)), (a_t_cells, .inl (cI, 23, .inl t_cells_27))] := hD
                refine lv_if_lt (tgt := 144) hx hb dX0_canDo_137 (by decide) (fun c_29 => ?_) (fun c_29 => ?_)
                · have hw := hw.1 c_29
                  refine lv_iconst (v := (0 : Int32)) hx hb dX0_canDo_144 (by decide) ?_
                  exact hret (0 : Int32) t_cells_27 H _ _ ls vb0 hw hP hD hS dX0_canDo_145
                · have hw := hw.2 c_29
                  refine lv_iconst (v := (1 : Int32)) hx hb dX0_canDo_140 (by decide) ?_
                  refine lv_goto (tgt := 145) hx hb dX0_canDo_141 (by decide) ?_
                  exact hret (1 : Int32) t_cells_27 H _ _ ls vb1 hw hP hD hS dX0_canDo_145
            · have hw := hw.2 c_6
              by_cases c_7 : x1 = (6 : Int32)
              · have hw := hw.1 c_7
                refine lv_tableIn (tgt := 146) hx hb dX0_canDo_1 (by rw [c_7]; decide) (by rw [c_7]; decide) (by rw [c_7]; rfl) (by decide) ?_
                refine lv_aload_n hx hb dX0_canDo_146 rfl (lv_at hl 0 rfl) ?_
                refine lv_iload_n hx hb dX0_canDo_147 rfl (lv_at hl 2 rfl) ?_
                refine kv_callVi (wr := [(a_t_bagKinds, .inl (cI, 3, .inl t_bagKinds)), (a_t_manKinds, .inl (cI, 5, .inl t_manKinds)), (a_t_cells, .inl (cI, 23, .inl t_cells))]) (wn := (fun (u : Unit) => [(a_t, .inr (0, [.int t_bags, .int t_men, .ref a_t_bagKinds, .ref a_t_manKinds, .ref a_t_cells])), (a_t_bagKinds, .inl (cI, 3, .inl t_bagKinds)), (a_t_manKinds, .inl (cI, 5, .inl t_manKinds)), (a_t_cells, .inl (cI, 23, .inl t_cells))])) (As := [.int x2]) (rest := []) ⟨hx, hb, hml, hown, hts⟩ hK hX hA hP hD hS (mtX0_isMan l dC dI cI cZ a_t a_t_bagKinds a_t_manKinds a_t_cells s.heap.size t_bags t_men x2 _ hw) (cwV 1 hts gX0_canDo_X0_isMan rfl rfl rfl (by decide +kernel) ⟨Nat.le_of_ble_eq_true rfl, Nat.le_of_ble_eq_true rfl⟩) 0 0 rfl rfl rfl [0] [1, 2, 3] [3, 0, 1, 2] rfl rfl rfl rfl (by decide) (fun _ => rfl) rfl rfl hl.1 rfl (Nat.le_of_ble_eq_true rfl) ⟨Nat.zero_le _, Nat.zero_le _⟩ dX0_canDo_148 (fun r_30 u H locs hw hP hD hS => ?_)
                obtain ⟨hb_r_30, hw⟩ := hw
                refine lv_if_eq (tgt := 168) hx hb dX0_canDo_151 (by decide) (fun c_31 => ?_) (fun c_31 => ?_)
                · have hw := hw.1 c_31
                  refine lv_iconst (v := (0 : Int32)) hx hb dX0_canDo_168 (by decide) ?_
                  exact hret (0 : Int32) t_cells H _ _ ls vb0 hw hP hD hS dX0_canDo_169
                · have hw := hw.2 c_31
                  refine lv_aload_n hx hb dX0_canDo_154 rfl (lv_at hl 0 rfl) ?_
                  refine lv_iconst (v := (2 : Int32)) hx hb dX0_canDo_155 (by decide) ?_
                  refine lv_iload_n hx hb dX0_canDo_156 rfl (lv_at hl 2 rfl) ?_
                  refine kv_callVi (wr := [(a_t_bagKinds, .inl (cI, 3, .inl t_bagKinds)), (a_t_manKinds, .inl (cI, 5, .inl t_manKinds))]) (wn := (fun (u : Unit) => [(a_t, .inr (0, [.int t_bags, .int t_men, .ref a_t_bagKinds, .ref a_t_manKinds, .ref a_t_cells])), (a_t_bagKinds, .inl (cI, 3, .inl t_bagKinds)), (a_t_manKinds, .inl (cI, 5, .inl t_manKinds)), (a_t_cells, .inl (cI, 23, .inl t_cells))])) (As := [.int (2 : Int32), .int x2]) (rest := []) ⟨hx, hb, hml, hown, hts⟩ hK hX hA hP hD hS (mtX0_ofMan l dC dI cI cZ a_t a_t_bagKinds a_t_manKinds a_t_cells H.size t_bags t_men t_cells (2 : Int32) x2 _ hw) (cwV 2 hts gX0_canDo_X0_ofMan rfl rfl rfl (by decide +kernel) ⟨Nat.le_of_ble_eq_true rfl, Nat.le_of_ble_eq_true rfl⟩) 0 0 rfl rfl rfl [0, 3] [1, 2] [2, 0, 1, 3] rfl rfl rfl rfl (by decide) (fun _ => rfl) rfl rfl hl.1 rfl (Nat.le_of_ble_eq_true rfl) ⟨Nat.zero_le _, Nat.zero_le _⟩ dX0_canDo_157 (fun r_32 u H locs hw hP hD hS => ?_)
                  refine lv_iload_n hx hb dX0_canDo_160 rfl (lv_at hl 3 rfl) ?_
                  refine lv_icmp_lt (tgt := 168) hx hb dX0_canDo_161 (by decide) (fun c_33 => ?_) (fun c_33 => ?_)
                  · have hw := hw.1 c_33
                    refine lv_iconst (v := (0 : Int32)) hx hb dX0_canDo_168 (by decide) ?_
                    exact hret (0 : Int32) t_cells H _ _ ls vb0 hw hP hD hS dX0_canDo_169
                  · have hw := hw.2 c_33
                    refine lv_iconst (v := (1 : Int32)) hx hb dX0_canDo_164 (by decide) ?_
                    refine lv_goto (tgt := 169) hx hb dX0_canDo_165 (by decide) ?_
                    exact hret (1 : Int32) t_cells H _ _ ls vb1 hw hP hD hS dX0_canDo_169
              · have hw := hw.2 c_7
                have nc_1 := lv_neT (a := 0) c_1 (by decide)
                have nc_2 := lv_neT (a := 1) c_2 (by decide)
                have nc_3 := lv_neT (a := 2) c_3 (by decide)
                have nc_4 := lv_neT (a := 3) c_4 (by decide)
                have nc_5 := lv_neT (a := 4) c_5 (by decide)
                have nc_6 := lv_neT (a := 5) c_6 (by decide)
                have nc_7 := lv_neT (a := 6) c_7 (by decide)
                refine lv_tableOut (tgt := 170) hx hb dX0_canDo_1 (by omega) (by decide) ?_
                refine lv_iconst (v := (0 : Int32)) hx hb dX0_canDo_170 (by decide) ?_
                exact hret (0 : Int32) t_cells s.heap _ _ ls vb0 hw hP hD hS dX0_canDo_171
