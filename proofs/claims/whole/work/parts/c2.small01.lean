def wpX1_add (t_men : Nat → Int32) (t_bags : Nat → Int32) (t_lengths : Nat → Int32) (t_played : Nat → Int32) (t_count : Int32) (x1 : Int32) (x2 : Int32) (x3 : Int32) (x4 : Int32) (post : Int32 → (Nat → Int32) → (Nat → Int32) → (Nat → Int32) → (Nat → Int32) → Int32 → Prop) : Prop := ((t_count < 0 → post (-4 : Int32) t_men t_bags t_lengths t_played t_count) ∧ (¬ t_count < 0 → ((t_count < (6 : Int32) → vp_in t_count 6 ∧ (∀ g_3 : Nat → Int32, g_3 = (upd t_men t_count.toNatClampNeg x1) → vp_in t_count 6 ∧ (∀ g_4 : Nat → Int32, g_4 = (upd t_bags t_count.toNatClampNeg x2) → vp_in t_count 6 ∧ (∀ g_5 : Nat → Int32, g_5 = (upd t_lengths t_count.toNatClampNeg x3) → vp_in t_count 6 ∧ (∀ g_6 : Nat → Int32, g_6 = (upd t_played t_count.toNatClampNeg x4) → ∀ y_7 : Int32, y_7 = (t_count + (1 : Int32)) → post y_7 g_3 g_4 g_5 g_6 y_7))))) ∧ (¬ t_count < (6 : Int32) → post (-4 : Int32) t_men t_bags t_lengths t_played t_count))))
abbrev rmX1_add : Room := { frames := 0, cells := 0, slots := 0, locals := 0 }
set_option maxHeartbeats 4000000 in
set_option maxRecDepth 100000 in
theorem mtX1_add (l : Launch) (dC : Nat → ClassId) (dI : Nat → Nat → Nat) (cI cZ : ClassId) (a_t : Nat) (a_t_men : Nat) (a_t_bags : Nat) (a_t_lengths : Nat) (a_t_played : Nat) (sz : Nat) (t_count : Int32) (t_men : Nat → Int32) (t_bags : Nat → Int32) (t_lengths : Nat → Int32) (t_played : Nat → Int32) (x1 : Int32) (x2 : Int32) (x3 : Int32) (x4 : Int32) (post : Int32 → (Nat → Int32) → (Nat → Int32) → (Nat → Int32) → (Nat → Int32) → Int32 → Prop) (hw : wpX1_add t_men t_bags t_lengths t_played t_count x1 x2 x3 x4 post) : Met l yX1_add wsX1_add rmX1_add (va_Pc [.ref a_t, .int x1, .int x2, .int x3, .int x4] (kvPre (dC, dI) cI cZ sz [(a_t, .inr (1, [.ref a_t_men, .ref a_t_bags, .ref a_t_lengths, .ref a_t_played, .int t_count])), (a_t_men, .inl (cI, 6, .inl t_men)), (a_t_bags, .inl (cI, 6, .inl t_bags)), (a_t_lengths, .inl (cI, 6, .inl t_lengths)), (a_t_played, .inl (cI, 6, .inl t_played))])) (va_Qi (fun (r : Int32) (u : (Nat → Int32) × (Nat → Int32) × (Nat → Int32) × (Nat → Int32) × Int32) => post r u.1 u.2.1 u.2.2.1 u.2.2.2.1 u.2.2.2.2) (kvB (dC, dI) (va_A [(a_t, .inr (1, [.ref a_t_men, .ref a_t_bags, .ref a_t_lengths, .ref a_t_played, .int t_count])), (a_t_men, .inl (cI, 6, .inl t_men)), (a_t_bags, .inl (cI, 6, .inl t_bags)), (a_t_lengths, .inl (cI, 6, .inl t_lengths)), (a_t_played, .inl (cI, 6, .inl t_played))] sz) (fun (u : (Nat → Int32) × (Nat → Int32) × (Nat → Int32) × (Nat → Int32) × Int32) => [(a_t, .inr (1, [.ref a_t_men, .ref a_t_bags, .ref a_t_lengths, .ref a_t_played, .int u.2.2.2.2])), (a_t_men, .inl (cI, 6, .inl u.1)), (a_t_bags, .inl (cI, 6, .inl u.2.1)), (a_t_lengths, .inl (cI, 6, .inl u.2.2.1)), (a_t_played, .inl (cI, 6, .inl u.2.2.2.1))])) (va_A [(a_t, .inr (1, [.ref a_t_men, .ref a_t_bags, .ref a_t_lengths, .ref a_t_played, .int t_count])), (a_t_men, .inl (cI, 6, .inl t_men)), (a_t_bags, .inl (cI, 6, .inl t_bags)), (a_t_lengths, .inl (cI, 6, .inl t_lengths)), (a_t_played, .inl (cI, 6, .inl t_played))] sz)) 0 0 (va_A [(a_t, .inr (1, [.ref a_t_men, .ref a_t_bags, .ref a_t_lengths, .ref a_t_played, .int t_count])), (a_t_men, .inl (cI, 6, .inl t_men)), (a_t_bags, .inl (cI, 6, .inl t_bags)), (a_t_lengths, .inl (cI, 6, .inl t_lengths)), (a_t_played, .inl (cI, 6, .inl t_played))] sz) := by
  refine kv_metI (y := yX1_add) (ws := wsX1_add) (rm := rmX1_add) (av := [.ref a_t, .int x1, .int x2, .int x3, .int x4]) (sz := sz) (w := [(a_t, .inr (1, [.ref a_t_men, .ref a_t_bags, .ref a_t_lengths, .ref a_t_played, .int t_count])), (a_t_men, .inl (cI, 6, .inl t_men)), (a_t_bags, .inl (cI, 6, .inl t_bags)), (a_t_lengths, .inl (cI, 6, .inl t_lengths)), (a_t_played, .inl (cI, 6, .inl t_played))]) (cc := cX1_add) (maxL := 5) (own := RX1) (post := (fun (r : Int32) (u : (Nat → Int32) × (Nat → Int32) × (Nat → Int32) × (Nat → Int32) × Int32) => post r u.1 u.2.1 u.2.2.1 u.2.2.2.1 u.2.2.2.2)) (w1 := (fun (u : (Nat → Int32) × (Nat → Int32) × (Nat → Int32) × (Nat → Int32) × Int32) => [(a_t, .inr (1, [.ref a_t_men, .ref a_t_bags, .ref a_t_lengths, .ref a_t_played, .int u.2.2.2.2])), (a_t_men, .inl (cI, 6, .inl u.1)), (a_t_bags, .inl (cI, 6, .inl u.2.1)), (a_t_lengths, .inl (cI, 6, .inl u.2.2.1)), (a_t_played, .inl (cI, 6, .inl u.2.2.2.1))])) (by decide) rfl rfl (Nat.le_of_ble_eq_true rfl) ?_
  intro p e s m below meth c A Q hx hb hml hown hts hK hX hA hP hD hsz hret ls hl
  have hS : va_S A s.heap s.heap [] := va_S.rf
  have hl : lv_has ls 5 [(0, .ref a_t), (1, .int x1), (2, .int x2), (3, .int x3), (4, .int x4)] := hl
  have inX1 : ∀ w ∈ u_ws RX1 TX1 5, w ∈ wsX1_add := by decide +kernel
  have fl24 := hts (.fieldLink RX1 24 "BreathBags$Felt" "count" "I") (by decide +kernel)
  have fl11 := hts (.fieldLink RX1 11 "BreathBags$Felt" "men" "[I") (by decide +kernel)
  have fl15 := hts (.fieldLink RX1 15 "BreathBags$Felt" "bags" "[I") (by decide +kernel)
  have fl18 := hts (.fieldLink RX1 18 "BreathBags$Felt" "lengths" "[I") (by decide +kernel)
  have fl21 := hts (.fieldLink RX1 21 "BreathBags$Felt" "played" "[I") (by decide +kernel)
  refine lv_aload_n hx hb dX1_add_0 rfl (lv_at hl 0 rfl) ?_
  refine va_get (D := (dC, dI)) (ci := 1) (v := .int t_count) (C := RX1) (T := TX1) (N := 5) hx hb hts inX1 hown hK hP 0 rfl rfl 4 (by decide) fl24 (fun _ h9 => h9) rfl dX1_add_1 ?_
  refine lv_if_lt (tgt := 16) hx hb dX1_add_4 (by decide) (fun c_1 => ?_) (fun c_1 => ?_)
  · have hw := hw.1 c_1
    refine lv_bipush (v := (-4 : Int32)) hx hb dX1_add_16 (by decide) ?_
    exact hret (-4 : Int32) (t_men, t_bags, t_lengths, t_played, t_count) s.heap _ _ ls hw hP hD hS dX1_add_18
  · have hw := hw.2 c_1
    refine lv_aload_n hx hb dX1_add_7 rfl (lv_at hl 0 rfl) ?_
    refine va_get (D := (dC, dI)) (ci := 1) (v := .int t_count) (C := RX1) (T := TX1) (N := 5) hx hb hts inX1 hown hK hP 0 rfl rfl 4 (by decide) fl24 (fun _ h9 => h9) rfl dX1_add_8 ?_
    refine lv_bipush (v := (6 : Int32)) hx hb dX1_add_11 (by decide) ?_
    refine lv_icmp_lt (tgt := 19) hx hb dX1_add_13 (by decide) (fun c_2 => ?_) (fun c_2 => ?_)
    · have hw := hw.1 c_2
      refine lv_aload_n hx hb dX1_add_19 rfl (lv_at hl 0 rfl) ?_
      refine va_get (D := (dC, dI)) (ci := 1) (v := .ref a_t_men) (C := RX1) (T := TX1) (N := 5) hx hb hts inX1 hown hK hP 0 rfl rfl 0 (by decide) fl11 (fun _ h9 => h9) rfl dX1_add_20 ?_
      refine lv_aload_n hx hb dX1_add_23 rfl (lv_at hl 0 rfl) ?_
      refine va_get (D := (dC, dI)) (ci := 1) (v := .int t_count) (C := RX1) (T := TX1) (N := 5) hx hb hts inX1 hown hK hP 0 rfl rfl 4 (by decide) fl24 (fun _ h9 => h9) rfl dX1_add_24 ?_
      refine lv_iload_n hx hb dX1_add_27 rfl (lv_at hl 1 rfl) ?_
      refine va_iast hx hb hK hP hD hS 1 0 rfl rfl hw.1 dX1_add_28 (fun H locs hP hD hS => ?_)
      have hw := hw.2
      have hP : va_P (dC, dI) vwCl [(a_t, .inr (1, [.ref a_t_men, .ref a_t_bags, .ref a_t_lengths, .ref a_t_played, .int t_count])), (a_t_men, .inl (cI, 6, .inl (upd t_men t_count.toNatClampNeg x1))), (a_t_bags, .inl (cI, 6, .inl t_bags)), (a_t_lengths, .inl (cI, 6, .inl t_lengths)), (a_t_played, .inl (cI, 6, .inl t_played))] H := hP
      have hD : va_D A [(a_t, .inr (1, [.ref a_t_men, .ref a_t_bags, .ref a_t_lengths, .ref a_t_played, .int t_count])), (a_t_men, .inl (cI, 6, .inl (upd t_men t_count.toNatClampNeg x1))), (a_t_bags, .inl (cI, 6, .inl t_bags)), (a_t_lengths, .inl (cI, 6, .inl t_lengths)), (a_t_played, .inl (cI, 6, .inl t_played))] := hD
      obtain ⟨g_3, eg_3⟩ : ∃ g : Nat → Int32, g = (upd t_men t_count.toNatClampNeg x1) := ⟨_, rfl⟩
      have hw := hw g_3 eg_3
      rw [← eg_3] at hP hD
      refine lv_aload_n hx hb dX1_add_29 rfl (lv_at hl 0 rfl) ?_
      refine va_get (D := (dC, dI)) (ci := 1) (v := .ref a_t_bags) (C := RX1) (T := TX1) (N := 5) hx hb hts inX1 hown hK hP 0 rfl rfl 1 (by decide) fl15 (fun _ h9 => h9) rfl dX1_add_30 ?_
      refine lv_aload_n hx hb dX1_add_33 rfl (lv_at hl 0 rfl) ?_
      refine va_get (D := (dC, dI)) (ci := 1) (v := .int t_count) (C := RX1) (T := TX1) (N := 5) hx hb hts inX1 hown hK hP 0 rfl rfl 4 (by decide) fl24 (fun _ h9 => h9) rfl dX1_add_34 ?_
      refine lv_iload_n hx hb dX1_add_37 rfl (lv_at hl 2 rfl) ?_
      refine va_iast hx hb hK hP hD hS 2 0 rfl rfl hw.1 dX1_add_38 (fun H locs hP hD hS => ?_)
      have hw := hw.2
      have hP : va_P (dC, dI) vwCl [(a_t, .inr (1, [.ref a_t_men, .ref a_t_bags, .ref a_t_lengths, .ref a_t_played, .int t_count])), (a_t_men, .inl (cI, 6, .inl g_3)), (a_t_bags, .inl (cI, 6, .inl (upd t_bags t_count.toNatClampNeg x2))), (a_t_lengths, .inl (cI, 6, .inl t_lengths)), (a_t_played, .inl (cI, 6, .inl t_played))] H := hP
      have hD : va_D A [(a_t, .inr (1, [.ref a_t_men, .ref a_t_bags, .ref a_t_lengths, .ref a_t_played, .int t_count])), (a_t_men, .inl (cI, 6, .inl g_3)), (a_t_bags, .inl (cI, 6, .inl (upd t_bags t_count.toNatClampNeg x2))), (a_t_lengths, .inl (cI, 6, .inl t_lengths)), (a_t_played, .inl (cI, 6, .inl t_played))] := hD
      obtain ⟨g_4, eg_4⟩ : ∃ g : Nat → Int32, g = (upd t_bags t_count.toNatClampNeg x2) := ⟨_, rfl⟩
      have hw := hw g_4 eg_4
      rw [← eg_4] at hP hD
      refine lv_aload_n hx hb dX1_add_39 rfl (lv_at hl 0 rfl) ?_
      refine va_get (D := (dC, dI)) (ci := 1) (v := .ref a_t_lengths) (C := RX1) (T := TX1) (N := 5) hx hb hts inX1 hown hK hP 0 rfl rfl 2 (by decide) fl18 (fun _ h9 => h9) rfl dX1_add_40 ?_
      refine lv_aload_n hx hb dX1_add_43 rfl (lv_at hl 0 rfl) ?_
      refine va_get (D := (dC, dI)) (ci := 1) (v := .int t_count) (C := RX1) (T := TX1) (N := 5) hx hb hts inX1 hown hK hP 0 rfl rfl 4 (by decide) fl24 (fun _ h9 => h9) rfl dX1_add_44 ?_
      refine lv_iload_n hx hb dX1_add_47 rfl (lv_at hl 3 rfl) ?_
      refine va_iast hx hb hK hP hD hS 3 0 rfl rfl hw.1 dX1_add_48 (fun H locs hP hD hS => ?_)
      have hw := hw.2
      have hP : va_P (dC, dI) vwCl [(a_t, .inr (1, [.ref a_t_men, .ref a_t_bags, .ref a_t_lengths, .ref a_t_played, .int t_count])), (a_t_men, .inl (cI, 6, .inl g_3)), (a_t_bags, .inl (cI, 6, .inl g_4)), (a_t_lengths, .inl (cI, 6, .inl (upd t_lengths t_count.toNatClampNeg x3))), (a_t_played, .inl (cI, 6, .inl t_played))] H := hP
      have hD : va_D A [(a_t, .inr (1, [.ref a_t_men, .ref a_t_bags, .ref a_t_lengths, .ref a_t_played, .int t_count])), (a_t_men, .inl (cI, 6, .inl g_3)), (a_t_bags, .inl (cI, 6, .inl g_4)), (a_t_lengths, .inl (cI, 6, .inl (upd t_lengths t_count.toNatClampNeg x3))), (a_t_played, .inl (cI, 6, .inl t_played))] := hD
      obtain ⟨g_5, eg_5⟩ : ∃ g : Nat → Int32, g = (upd t_lengths t_count.toNatClampNeg x3) := ⟨_, rfl⟩
      have hw := hw g_5 eg_5
      rw [← eg_5] at hP hD
      refine lv_aload_n hx hb dX1_add_49 rfl (lv_at hl 0 rfl) ?_
      refine va_get (D := (dC, dI)) (ci := 1) (v := .ref a_t_played) (C := RX1) (T := TX1) (N := 5) hx hb hts inX1 hown hK hP 0 rfl rfl 3 (by decide) fl21 (fun _ h9 => h9) rfl dX1_add_50 ?_
      refine lv_aload_n hx hb dX1_add_53 rfl (lv_at hl 0 rfl) ?_
      refine va_get (D := (dC, dI)) (ci := 1) (v := .int t_count) (C := RX1) (T := TX1) (N := 5) hx hb hts inX1 hown hK hP 0 rfl rfl 4 (by decide) fl24 (fun _ h9 => h9) rfl dX1_add_54 ?_
      refine lv_iload hx hb dX1_add_57 (lv_at hl 4 rfl) ?_
      refine va_iast hx hb hK hP hD hS 4 0 rfl rfl hw.1 dX1_add_59 (fun H locs hP hD hS => ?_)
      have hw := hw.2
      have hP : va_P (dC, dI) vwCl [(a_t, .inr (1, [.ref a_t_men, .ref a_t_bags, .ref a_t_lengths, .ref a_t_played, .int t_count])), (a_t_men, .inl (cI, 6, .inl g_3)), (a_t_bags, .inl (cI, 6, .inl g_4)), (a_t_lengths, .inl (cI, 6, .inl g_5)), (a_t_played, .inl (cI, 6, .inl (upd t_played t_count.toNatClampNeg x4)))] H := hP
      have hD : va_D A [(a_t, .inr (1, [.ref a_t_men, .ref a_t_bags, .ref a_t_lengths, .ref a_t_played, .int t_count])), (a_t_men, .inl (cI, 6, .inl g_3)), (a_t_bags, .inl (cI, 6, .inl g_4)), (a_t_lengths, .inl (cI, 6, .inl g_5)), (a_t_played, .inl (cI, 6, .inl (upd t_played t_count.toNatClampNeg x4)))] := hD
      obtain ⟨g_6, eg_6⟩ : ∃ g : Nat → Int32, g = (upd t_played t_count.toNatClampNeg x4) := ⟨_, rfl⟩
      have hw := hw g_6 eg_6
      rw [← eg_6] at hP hD
      refine lv_aload_n hx hb dX1_add_60 rfl (lv_at hl 0 rfl) ?_
      refine lv_dup hx hb dX1_add_61 rfl ?_
      refine va_get (D := (dC, dI)) (ci := 1) (v := .int t_count) (C := RX1) (T := TX1) (N := 5) hx hb hts inX1 hown hK hP 0 rfl rfl 4 (by decide) fl24 (fun _ h9 => h9) rfl dX1_add_62 ?_
      refine lv_iconst (v := (1 : Int32)) hx hb dX1_add_65 (by decide) ?_
      refine lv_iadd hx hb dX1_add_66 ?_
      refine lv_topi (fun y_7 ey_7 => ?_)
      have hw := hw y_7 ey_7
      refine va_put (D := (dC, dI)) (ci := 1) (v := .int y_7) (ty := .int) (C := RX1) (T := TX1) (N := 5) hx hb hts inX1 tyX1 tyX1_ok nmX1 hown hK hP hD hS 0 rfl rfl 4 (by decide) fl24 (fun _ h9 => h9) rfl (by decide +kernel) rfl rfl (Nat.le_of_ble_eq_true rfl) dX1_add_67 (fun H locs hP hD hS => ?_)
      have hP : va_P (dC, dI) vwCl [(a_t, .inr (1, [.ref a_t_men, .ref a_t_bags, .ref a_t_lengths, .ref a_t_played, .int y_7])), (a_t_men, .inl (cI, 6, .inl g_3)), (a_t_bags, .inl (cI, 6, .inl g_4)), (a_t_lengths, .inl (cI, 6, .inl g_5)), (a_t_played, .inl (cI, 6, .inl g_6))] H := hP
      have hD : va_D A [(a_t, .inr (1, [.ref a_t_men, .ref a_t_bags, .ref a_t_lengths, .ref a_t_played, .int y_7])), (a_t_men, .inl (cI, 6, .inl g_3)), (a_t_bags, .inl (cI, 6, .inl g_4)), (a_t_lengths, .inl (cI, 6, .inl g_5)), (a_t_played, .inl (cI, 6, .inl g_6))] := hD
      refine lv_aload_n hx hb dX1_add_70 rfl (lv_at hl 0 rfl) ?_
      refine va_get (D := (dC, dI)) (ci := 1) (v := .int y_7) (C := RX1) (T := TX1) (N := 5) hx hb hts inX1 hown hK hP 0 rfl rfl 4 (by decide) fl24 (fun _ h9 => h9) rfl dX1_add_71 ?_
      exact hret y_7 (g_3, g_4, g_5, g_6, y_7) H _ _ ls hw hP hD hS dX1_add_74
    · have hw := hw.2 c_2
      refine lv_bipush (v := (-4 : Int32)) hx hb dX1_add_16 (by decide) ?_
      exact hret (-4 : Int32) (t_men, t_bags, t_lengths, t_played, t_count) s.heap _ _ ls hw hP hD hS dX1_add_18

def wpX1_clear (t_count : Int32) (post : Int32 → Int32 → Prop) : Prop := post t_count (0 : Int32)
abbrev rmX1_clear : Room := { frames := 0, cells := 0, slots := 0, locals := 0 }
set_option maxHeartbeats 4000000 in
set_option maxRecDepth 100000 in
theorem mtX1_clear (l : Launch) (dC : Nat → ClassId) (dI : Nat → Nat → Nat) (cI cZ : ClassId) (a_t : Nat) (a_t_men : Nat) (a_t_bags : Nat) (a_t_lengths : Nat) (a_t_played : Nat) (sz : Nat) (t_count : Int32) (post : Int32 → Int32 → Prop) (hw : wpX1_clear t_count post) : Met l yX1_clear wsX1_clear rmX1_clear (va_Pc [.ref a_t] (kvPre (dC, dI) cI cZ sz [(a_t, .inr (1, [.ref a_t_men, .ref a_t_bags, .ref a_t_lengths, .ref a_t_played, .int t_count]))])) (va_Qi (fun (r : Int32) (u : Int32) => post r u) (kvB (dC, dI) (va_A [(a_t, .inr (1, [.ref a_t_men, .ref a_t_bags, .ref a_t_lengths, .ref a_t_played, .int t_count]))] sz) (fun (u : Int32) => [(a_t, .inr (1, [.ref a_t_men, .ref a_t_bags, .ref a_t_lengths, .ref a_t_played, .int u]))])) (va_A [(a_t, .inr (1, [.ref a_t_men, .ref a_t_bags, .ref a_t_lengths, .ref a_t_played, .int t_count]))] sz)) 0 0 (va_A [(a_t, .inr (1, [.ref a_t_men, .ref a_t_bags, .ref a_t_lengths, .ref a_t_played, .int t_count]))] sz) := by
  refine kv_metI (y := yX1_clear) (ws := wsX1_clear) (rm := rmX1_clear) (av := [.ref a_t]) (sz := sz) (w := [(a_t, .inr (1, [.ref a_t_men, .ref a_t_bags, .ref a_t_lengths, .ref a_t_played, .int t_count]))]) (cc := cX1_clear) (maxL := 2) (own := RX1) (post := (fun (r : Int32) (u : Int32) => post r u)) (w1 := (fun (u : Int32) => [(a_t, .inr (1, [.ref a_t_men, .ref a_t_bags, .ref a_t_lengths, .ref a_t_played, .int u]))])) (by decide) rfl rfl (Nat.le_of_ble_eq_true rfl) ?_
  intro p e s m below meth c A Q hx hb hml hown hts hK hX hA hP hD hsz hret ls hl
  have hS : va_S A s.heap s.heap [] := va_S.rf
  have hl : lv_has ls 2 [(0, .ref a_t)] := hl
  have inX1 : ∀ w ∈ u_ws RX1 TX1 5, w ∈ wsX1_clear := by decide +kernel
  have fl24 := hts (.fieldLink RX1 24 "BreathBags$Felt" "count" "I") (by decide +kernel)
  refine lv_aload_n hx hb dX1_clear_0 rfl (lv_at hl 0 rfl) ?_
  refine va_get (D := (dC, dI)) (ci := 1) (v := .int t_count) (C := RX1) (T := TX1) (N := 5) hx hb hts inX1 hown hK hP 0 rfl rfl 4 (by decide) fl24 (fun _ h9 => h9) rfl dX1_clear_1 ?_
  refine lv_istore_n (lv' := [(1, .int t_count), (0, .ref a_t)]) hx hb dX1_clear_4 rfl hl (by decide) rfl (fun ls hl => ?_)
  refine lv_aload_n hx hb dX1_clear_5 rfl (lv_at hl 1 rfl) ?_
  refine lv_iconst (v := (0 : Int32)) hx hb dX1_clear_6 (by decide) ?_
  refine va_put (D := (dC, dI)) (ci := 1) (v := .int (0 : Int32)) (ty := .int) (C := RX1) (T := TX1) (N := 5) hx hb hts inX1 tyX1 tyX1_ok nmX1 hown hK hP hD hS 0 rfl rfl 4 (by decide) fl24 (fun _ h9 => h9) rfl (by decide +kernel) rfl rfl (Nat.le_of_ble_eq_true rfl) dX1_clear_7 (fun H locs hP hD hS => ?_)
  have hP : va_P (dC, dI) vwCl [(a_t, .inr (1, [.ref a_t_men, .ref a_t_bags, .ref a_t_lengths, .ref a_t_played, .int (0 : Int32)]))] H := hP
  have hD : va_D A [(a_t, .inr (1, [.ref a_t_men, .ref a_t_bags, .ref a_t_lengths, .ref a_t_played, .int (0 : Int32)]))] := hD
  refine lv_iload_n hx hb dX1_clear_10 rfl (lv_at hl 0 rfl) ?_
  exact hret t_count (0 : Int32) H _ _ ls hw hP hD hS dX1_clear_11

def wpX1_fits_J109 (t_men : Nat → Int32) (t_bags : Nat → Int32) (t_lengths : Nat → Int32) (t_played : Nat → Int32) (t_count : Int32) (p1_bags : Int32) (p1_men : Int32) (p1_cells : Nat → Int32) (x2 : Int32) (x3 : Int32) (x4_15 : Int32) (kL15 : Int32 → Prop) (post : Int32 → Prop) (x5_109 : Int32) : Prop := ∀ y_1 : Int32, y_1 = (x5_109 + (1 : Int32)) → kL15 y_1
def wpX1_fits_L15 (t_men : Nat → Int32) (t_bags : Nat → Int32) (t_lengths : Nat → Int32) (t_played : Nat → Int32) (t_count : Int32) (p1_bags : Int32) (p1_men : Int32) (p1_cells : Nat → Int32) (x2 : Int32) (x3 : Int32) (x4_15 : Int32) (post : Int32 → Prop) : Nat → Int32 → Prop
  | 0, _ => False
  | n + 1, x5_15 => ((t_count ≤ x5_15 → post (1 : Int32)) ∧ (¬ t_count ≤ x5_15 → (((6 : Int32) ≤ x5_15 → post (1 : Int32)) ∧ (¬ (6 : Int32) ≤ x5_15 → vp_in x5_15 6 ∧ (wpX0_isMan p1_men (t_men x5_15.toNatClampNeg) (fun r_4 => ((r_4 = 0 → wpX1_fits_J109 t_men t_bags t_lengths t_played t_count p1_bags p1_men p1_cells x2 x3 x4_15 (wpX1_fits_L15 t_men t_bags t_lengths t_played t_count p1_bags p1_men p1_cells x2 x3 x4_15 post n) post x5_15) ∧ (¬ r_4 = 0 → vp_in x5_15 6 ∧ (wpX0_isBag p1_bags (t_bags x5_15.toNatClampNeg) (fun r_6 => ((¬ r_6 = 0 → vp_in x5_15 6 ∧ (vp_in x5_15 6 ∧ (wpX0_playedBitsAs p1_bags p1_cells (t_bags x5_15.toNatClampNeg) (t_lengths x5_15.toNatClampNeg) x2 x4_15 (fun r_8 => vp_in x5_15 6 ∧ (vp_in x5_15 6 ∧ (((((r_8 >>> ((t_men x5_15.toNatClampNeg) &&& 31)) &&& (1 : Int32)) = (t_played x5_15.toNatClampNeg) → wpX1_fits_J109 t_men t_bags t_lengths t_played t_count p1_bags p1_men p1_cells x2 x3 x4_15 (wpX1_fits_L15 t_men t_bags t_lengths t_played t_count p1_bags p1_men p1_cells x2 x3 x4_15 post n) post x5_15) ∧ (¬ ((r_8 >>> ((t_men x5_15.toNatClampNeg) &&& 31)) &&& (1 : Int32)) = (t_played x5_15.toNatClampNeg) → post (0 : Int32))))))))) ∧ (r_6 = 0 → wpX1_fits_J109 t_men t_bags t_lengths t_played t_count p1_bags p1_men p1_cells x2 x3 x4_15 (wpX1_fits_L15 t_men t_bags t_lengths t_played t_count p1_bags p1_men p1_cells x2 x3 x4_15 post n) post x5_15))))))))))))
def wpX1_fits_E15 (t_men : Nat → Int32) (t_bags : Nat → Int32) (t_lengths : Nat → Int32) (t_played : Nat → Int32) (t_count : Int32) (p1_bags : Int32) (p1_men : Int32) (p1_cells : Nat → Int32) (x2 : Int32) (x3 : Int32) (post : Int32 → Prop) (x4_15 : Int32) (x5_15 : Int32) : Prop := ∃ n : Nat, wpX1_fits_L15 t_men t_bags t_lengths t_played t_count p1_bags p1_men p1_cells x2 x3 x4_15 post n x5_15
def wpX1_fits_J10 (t_men : Nat → Int32) (t_bags : Nat → Int32) (t_lengths : Nat → Int32) (t_played : Nat → Int32) (t_count : Int32) (p1_bags : Int32) (p1_men : Int32) (p1_cells : Nat → Int32) (x2 : Int32) (x3 : Int32) (post : Int32 → Prop) (k0_10 : Int32) : Prop := wpX1_fits_E15 t_men t_bags t_lengths t_played t_count p1_bags p1_men p1_cells x2 x3 post k0_10 (0 : Int32)
def wpX1_fits (t_men : Nat → Int32) (t_bags : Nat → Int32) (t_lengths : Nat → Int32) (t_played : Nat → Int32) (t_count : Int32) (p1_bags : Int32) (p1_men : Int32) (p1_cells : Nat → Int32) (x2 : Int32) (x3 : Int32) (post : Int32 → Prop) : Prop := ((¬ x2 = (2 : Int32) → wpX1_fits_J10 t_men t_bags t_lengths t_played t_count p1_bags p1_men p1_cells x2 x3 post (0 : Int32)) ∧ (x2 = (2 : Int32) → wpX1_fits_J10 t_men t_bags t_lengths t_played t_count p1_bags p1_men p1_cells x2 x3 post x3))
abbrev rmX1_fits : Room := { frames := 3, cells := 0, slots := 0, locals := 70 }
set_option maxHeartbeats 4000000 in
set_option maxRecDepth 100000 in
theorem mtX1_fits (l : Launch) (dC : Nat → ClassId) (dI : Nat → Nat → Nat) (cI cZ : ClassId) (a_t : Nat) (a_t_men : Nat) (a_t_bags : Nat) (a_t_lengths : Nat) (a_t_played : Nat) (a_p1 : Nat) (a_p1_bagKinds : Nat) (a_p1_manKinds : Nat) (a_p1_cells : Nat) (sz : Nat) (t_count : Int32) (t_men : Nat → Int32) (t_bags : Nat → Int32) (t_lengths : Nat → Int32) (t_played : Nat → Int32) (p1_bags : Int32) (p1_men : Int32) (p1_cells : Nat → Int32) (x2 : Int32) (x3 : Int32) (post : Int32 → Prop) (hw : wpX1_fits t_men t_bags t_lengths t_played t_count p1_bags p1_men p1_cells x2 x3 post) : Met l yX1_fits wsX1_fits rmX1_fits (va_Pc [.ref a_t, .ref a_p1, .int x2, .int x3] (kvPre (dC, dI) cI cZ sz [(a_t, .inr (1, [.ref a_t_men, .ref a_t_bags, .ref a_t_lengths, .ref a_t_played, .int t_count])), (a_t_men, .inl (cI, 6, .inl t_men)), (a_t_bags, .inl (cI, 6, .inl t_bags)), (a_t_lengths, .inl (cI, 6, .inl t_lengths)), (a_t_played, .inl (cI, 6, .inl t_played)), (a_p1, .inr (0, [.int p1_bags, .int p1_men, .ref a_p1_bagKinds, .ref a_p1_manKinds, .ref a_p1_cells])), (a_p1_cells, .inl (cI, 23, .inl p1_cells))])) (va_Qi (fun (r : Int32) (u : Unit) => vb r ∧ post r ) (kvB (dC, dI) (va_A [(a_t, .inr (1, [.ref a_t_men, .ref a_t_bags, .ref a_t_lengths, .ref a_t_played, .int t_count])), (a_t_men, .inl (cI, 6, .inl t_men)), (a_t_bags, .inl (cI, 6, .inl t_bags)), (a_t_lengths, .inl (cI, 6, .inl t_lengths)), (a_t_played, .inl (cI, 6, .inl t_played)), (a_p1, .inr (0, [.int p1_bags, .int p1_men, .ref a_p1_bagKinds, .ref a_p1_manKinds, .ref a_p1_cells])), (a_p1_cells, .inl (cI, 23, .inl p1_cells))] sz) (fun (u : Unit) => [(a_t, .inr (1, [.ref a_t_men, .ref a_t_bags, .ref a_t_lengths, .ref a_t_played, .int t_count])), (a_t_men, .inl (cI, 6, .inl t_men)), (a_t_bags, .inl (cI, 6, .inl t_bags)), (a_t_lengths, .inl (cI, 6, .inl t_lengths)), (a_t_played, .inl (cI, 6, .inl t_played)), (a_p1, .inr (0, [.int p1_bags, .int p1_men, .ref a_p1_bagKinds, .ref a_p1_manKinds, .ref a_p1_cells])), (a_p1_cells, .inl (cI, 23, .inl p1_cells))])) (va_A [(a_t, .inr (1, [.ref a_t_men, .ref a_t_bags, .ref a_t_lengths, .ref a_t_played, .int t_count])), (a_t_men, .inl (cI, 6, .inl t_men)), (a_t_bags, .inl (cI, 6, .inl t_bags)), (a_t_lengths, .inl (cI, 6, .inl t_lengths)), (a_t_played, .inl (cI, 6, .inl t_played)), (a_p1, .inr (0, [.int p1_bags, .int p1_men, .ref a_p1_bagKinds, .ref a_p1_manKinds, .ref a_p1_cells])), (a_p1_cells, .inl (cI, 23, .inl p1_cells))] sz)) 0 0 (va_A [(a_t, .inr (1, [.ref a_t_men, .ref a_t_bags, .ref a_t_lengths, .ref a_t_played, .int t_count])), (a_t_men, .inl (cI, 6, .inl t_men)), (a_t_bags, .inl (cI, 6, .inl t_bags)), (a_t_lengths, .inl (cI, 6, .inl t_lengths)), (a_t_played, .inl (cI, 6, .inl t_played)), (a_p1, .inr (0, [.int p1_bags, .int p1_men, .ref a_p1_bagKinds, .ref a_p1_manKinds, .ref a_p1_cells])), (a_p1_cells, .inl (cI, 23, .inl p1_cells))] sz) := by
  refine kv_metZ (y := yX1_fits) (ws := wsX1_fits) (rm := rmX1_fits) (av := [.ref a_t, .ref a_p1, .int x2, .int x3]) (sz := sz) (w := [(a_t, .inr (1, [.ref a_t_men, .ref a_t_bags, .ref a_t_lengths, .ref a_t_played, .int t_count])), (a_t_men, .inl (cI, 6, .inl t_men)), (a_t_bags, .inl (cI, 6, .inl t_bags)), (a_t_lengths, .inl (cI, 6, .inl t_lengths)), (a_t_played, .inl (cI, 6, .inl t_played)), (a_p1, .inr (0, [.int p1_bags, .int p1_men, .ref a_p1_bagKinds, .ref a_p1_manKinds, .ref a_p1_cells])), (a_p1_cells, .inl (cI, 23, .inl p1_cells))]) (cc := cX1_fits) (maxL := 7) (own := RX1) (post := (fun (r : Int32) (u : Unit) => post r )) (w1 := (fun (u : Unit) => [(a_t, .inr (1, [.ref a_t_men, .ref a_t_bags, .ref a_t_lengths, .ref a_t_played, .int t_count])), (a_t_men, .inl (cI, 6, .inl t_men)), (a_t_bags, .inl (cI, 6, .inl t_bags)), (a_t_lengths, .inl (cI, 6, .inl t_lengths)), (a_t_played, .inl (cI, 6, .inl t_played)), (a_p1, .inr (0, [.int p1_bags, .int p1_men, .ref a_p1_bagKinds, .ref a_p1_manKinds, .ref a_p1_cells])), (a_p1_cells, .inl (cI, 23, .inl p1_cells))])) (by decide) rfl rfl (Nat.le_of_ble_eq_true rfl) ?_
  intro p e s m below meth c A Q hx hb hml hown hts hK hX hA hP hD hsz hret ls hl
  have hS : va_S A s.heap s.heap [] := va_S.rf
  have hl : lv_has ls 7 [(0, .ref a_t), (1, .ref a_p1), (2, .int x2), (3, .int x3)] := hl
  have inX1 : ∀ w ∈ u_ws RX1 TX1 5, w ∈ wsX1_fits := by decide +kernel
  have fl24 := hts (.fieldLink RX1 24 "BreathBags$Felt" "count" "I") (by decide +kernel)
  have fl11 := hts (.fieldLink RX1 11 "BreathBags$Felt" "men" "[I") (by decide +kernel)
  have fl15 := hts (.fieldLink RX1 15 "BreathBags$Felt" "bags" "[I") (by decide +kernel)
  have fl18 := hts (.fieldLink RX1 18 "BreathBags$Felt" "lengths" "[I") (by decide +kernel)
  have fl21 := hts (.fieldLink RX1 21 "BreathBags$Felt" "played" "[I") (by decide +kernel)
  have L15 : ∀ (x4_15 : Int32) (n15 : Nat) (x5_15 : Int32) (H : Heap) (locs : List Loc) (ls : Array Slot), wpX1_fits_L15 t_men t_bags t_lengths t_played t_count p1_bags p1_men p1_cells x2 x3 x4_15 post n15 x5_15 → va_P (dC, dI) vwCl [(a_t, .inr (1, [.ref a_t_men, .ref a_t_bags, .ref a_t_lengths, .ref a_t_played, .int t_count])), (a_t_men, .inl (cI, 6, .inl t_men)), (a_t_bags, .inl (cI, 6, .inl t_bags)), (a_t_lengths, .inl (cI, 6, .inl t_lengths)), (a_t_played, .inl (cI, 6, .inl t_played)), (a_p1, .inr (0, [.int p1_bags, .int p1_men, .ref a_p1_bagKinds, .ref a_p1_manKinds, .ref a_p1_cells])), (a_p1_cells, .inl (cI, 23, .inl p1_cells))] H → va_D A [(a_t, .inr (1, [.ref a_t_men, .ref a_t_bags, .ref a_t_lengths, .ref a_t_played, .int t_count])), (a_t_men, .inl (cI, 6, .inl t_men)), (a_t_bags, .inl (cI, 6, .inl t_bags)), (a_t_lengths, .inl (cI, 6, .inl t_lengths)), (a_t_played, .inl (cI, 6, .inl t_played)), (a_p1, .inr (0, [.int p1_bags, .int p1_men, .ref a_p1_bagKinds, .ref a_p1_manKinds, .ref a_p1_cells])), (a_p1_cells, .inl (cI, 23, .inl p1_cells))] → va_S A s.heap H locs → lv_has ls 7 [(0, .ref a_t), (1, .ref a_p1), (2, .int x2), (4, .int x4_15), (5, .int x5_15)] → W p l e rmX1_fits s m [.ref a_t, .ref a_p1, .int x2, .int x3].toArray below meth c H locs 0 0 Q (F0 m 15 ls []) := by
    intro x4_15 n15
    induction n15 with
    | zero => intro x5_15 H locs ls hw hP hD hS hl; exact hw.elim
    | succ n15 ih15 =>
      have B109 : ∀ (x5_109 : Int32) (H : Heap) (locs : List Loc) (ls : Array Slot), wpX1_fits_J109 t_men t_bags t_lengths t_played t_count p1_bags p1_men p1_cells x2 x3 x4_15 (wpX1_fits_L15 t_men t_bags t_lengths t_played t_count p1_bags p1_men p1_cells x2 x3 x4_15 post n15) post x5_109 → va_P (dC, dI) vwCl [(a_t, .inr (1, [.ref a_t_men, .ref a_t_bags, .ref a_t_lengths, .ref a_t_played, .int t_count])), (a_t_men, .inl (cI, 6, .inl t_men)), (a_t_bags, .inl (cI, 6, .inl t_bags)), (a_t_lengths, .inl (cI, 6, .inl t_lengths)), (a_t_played, .inl (cI, 6, .inl t_played)), (a_p1, .inr (0, [.int p1_bags, .int p1_men, .ref a_p1_bagKinds, .ref a_p1_manKinds, .ref a_p1_cells])), (a_p1_cells, .inl (cI, 23, .inl p1_cells))] H → va_D A [(a_t, .inr (1, [.ref a_t_men, .ref a_t_bags, .ref a_t_lengths, .ref a_t_played, .int t_count])), (a_t_men, .inl (cI, 6, .inl t_men)), (a_t_bags, .inl (cI, 6, .inl t_bags)), (a_t_lengths, .inl (cI, 6, .inl t_lengths)), (a_t_played, .inl (cI, 6, .inl t_played)), (a_p1, .inr (0, [.int p1_bags, .int p1_men, .ref a_p1_bagKinds, .ref a_p1_manKinds, .ref a_p1_cells])), (a_p1_cells, .inl (cI, 23, .inl p1_cells))] → va_S A s.heap H locs → lv_has ls 7 [(0, .ref a_t), (1, .ref a_p1), (2, .int x2), (4, .int x4_15), (5, .int x5_109)] → W p l e rmX1_fits s m [.ref a_t, .ref a_p1, .int x2, .int x3].toArray below meth c H locs 0 0 Q (F0 m 109 ls []) := by
        intro x5_109 H locs ls hw hP hD hS hl
        obtain ⟨y_1, ey_1⟩ : ∃ y : Int32, y = (x5_109 + (1 : Int32)) := ⟨_, rfl⟩
        have hw := hw y_1 ey_1
        refine lv_iinc (v := y_1) (lv' := [(5, .int y_1), (0, .ref a_t), (1, .ref a_p1), (2, .int x2), (4, .int x4_15)]) hx hb dX1_fits_109 hl (k := 4) rfl (by rw [ey_1]; rfl) (by decide) rfl (fun ls hl => ?_)
        refine lv_goto (tgt := 15) hx hb dX1_fits_112 (by decide) ?_
        exact ih15 y_1 H _ ls hw hP hD hS (lv_sub hl [1, 2, 3, 4, 0] rfl)
      intro x5_15 H locs ls hw hP hD hS hl
      refine lv_iload hx hb dX1_fits_15 (lv_at hl 4 rfl) ?_
      refine lv_aload_n hx hb dX1_fits_17 rfl (lv_at hl 0 rfl) ?_
      refine va_get (D := (dC, dI)) (ci := 1) (v := .int t_count) (C := RX1) (T := TX1) (N := 5) hx hb hts inX1 hown hK hP 0 rfl rfl 4 (by decide) fl24 (fun _ h9 => h9) rfl dX1_fits_18 ?_
      refine lv_icmp_ge (tgt := 115) hx hb dX1_fits_21 (by decide) (fun c_2 => ?_) (fun c_2 => ?_)
      · have hw := hw.1 c_2
        refine lv_iconst (v := (1 : Int32)) hx hb dX1_fits_115 (by decide) ?_
        exact hret (1 : Int32) () H _ _ ls vb1 hw hP hD hS dX1_fits_116
      · have hw := hw.2 c_2
        refine lv_iload hx hb dX1_fits_24 (lv_at hl 4 rfl) ?_
        refine lv_bipush (v := (6 : Int32)) hx hb dX1_fits_26 (by decide) ?_
        refine lv_icmp_ge (tgt := 115) hx hb dX1_fits_28 (by decide) (fun c_3 => ?_) (fun c_3 => ?_)
        · have hw := hw.1 c_3
          refine lv_iconst (v := (1 : Int32)) hx hb dX1_fits_115 (by decide) ?_
          exact hret (1 : Int32) () H _ _ ls vb1 hw hP hD hS dX1_fits_116
        · have hw := hw.2 c_3
          refine lv_aload_n hx hb dX1_fits_31 rfl (lv_at hl 1 rfl) ?_
          refine lv_aload_n hx hb dX1_fits_32 rfl (lv_at hl 0 rfl) ?_
          refine va_get (D := (dC, dI)) (ci := 1) (v := .ref a_t_men) (C := RX1) (T := TX1) (N := 5) hx hb hts inX1 hown hK hP 0 rfl rfl 0 (by decide) fl11 (fun _ h9 => h9) rfl dX1_fits_33 ?_
          refine lv_iload hx hb dX1_fits_36 (lv_at hl 4 rfl) ?_
          refine va_iald hx hb hK hP 1 0 rfl rfl hw.1 dX1_fits_38 ?_
          have hw := hw.2
          refine kv_callVi (wr := [(a_t, .inr (1, [.ref a_t_men, .ref a_t_bags, .ref a_t_lengths, .ref a_t_played, .int t_count])), (a_t_men, .inl (cI, 6, .inl t_men)), (a_t_bags, .inl (cI, 6, .inl t_bags)), (a_t_lengths, .inl (cI, 6, .inl t_lengths)), (a_t_played, .inl (cI, 6, .inl t_played)), (a_p1_cells, .inl (cI, 23, .inl p1_cells))]) (wn := (fun (u : Unit) => [(a_t, .inr (1, [.ref a_t_men, .ref a_t_bags, .ref a_t_lengths, .ref a_t_played, .int t_count])), (a_t_men, .inl (cI, 6, .inl t_men)), (a_t_bags, .inl (cI, 6, .inl t_bags)), (a_t_lengths, .inl (cI, 6, .inl t_lengths)), (a_t_played, .inl (cI, 6, .inl t_played)), (a_p1, .inr (0, [.int p1_bags, .int p1_men, .ref a_p1_bagKinds, .ref a_p1_manKinds, .ref a_p1_cells])), (a_p1_cells, .inl (cI, 23, .inl p1_cells))])) (As := [.int (t_men x5_15.toNatClampNeg)]) (rest := []) ⟨hx, hb, hml, hown, hts⟩ hK hX hA hP hD hS (mtX0_isMan l dC dI cI cZ a_p1 a_p1_bagKinds a_p1_manKinds a_p1_cells H.size p1_bags p1_men (t_men x5_15.toNatClampNeg) _ hw) (cwV 1 hts gX1_fits_X0_isMan rfl rfl rfl (by decide +kernel) ⟨Nat.le_of_ble_eq_true rfl, Nat.le_of_ble_eq_true rfl⟩) 0 5 rfl rfl rfl [5] [0, 1, 2, 3, 4, 6] [0, 1, 2, 3, 4, 6, 5] rfl rfl rfl rfl (by decide) (fun _ => rfl) rfl rfl hl.1 rfl (Nat.le_of_ble_eq_true rfl) ⟨Nat.zero_le _, Nat.zero_le _⟩ dX1_fits_39 (fun r_4 u H locs hw hP hD hS => ?_)
          obtain ⟨hb_r_4, hw⟩ := hw
          refine lv_if_eq (tgt := 109) hx hb dX1_fits_42 (by decide) (fun c_5 => ?_) (fun c_5 => ?_)
          · have hw := hw.1 c_5
            exact B109 x5_15 H _ ls hw hP hD hS (lv_sub hl [0, 1, 2, 3, 4] rfl)
          · have hw := hw.2 c_5
            refine lv_aload_n hx hb dX1_fits_45 rfl (lv_at hl 1 rfl) ?_
            refine lv_aload_n hx hb dX1_fits_46 rfl (lv_at hl 0 rfl) ?_
            refine va_get (D := (dC, dI)) (ci := 1) (v := .ref a_t_bags) (C := RX1) (T := TX1) (N := 5) hx hb hts inX1 hown hK hP 0 rfl rfl 1 (by decide) fl15 (fun _ h9 => h9) rfl dX1_fits_47 ?_
            refine lv_iload hx hb dX1_fits_50 (lv_at hl 4 rfl) ?_
            refine va_iald hx hb hK hP 2 0 rfl rfl hw.1 dX1_fits_52 ?_
            have hw := hw.2
            refine kv_callVi (wr := [(a_t, .inr (1, [.ref a_t_men, .ref a_t_bags, .ref a_t_lengths, .ref a_t_played, .int t_count])), (a_t_men, .inl (cI, 6, .inl t_men)), (a_t_bags, .inl (cI, 6, .inl t_bags)), (a_t_lengths, .inl (cI, 6, .inl t_lengths)), (a_t_played, .inl (cI, 6, .inl t_played)), (a_p1_cells, .inl (cI, 23, .inl p1_cells))]) (wn := (fun (u : Unit) => [(a_t, .inr (1, [.ref a_t_men, .ref a_t_bags, .ref a_t_lengths, .ref a_t_played, .int t_count])), (a_t_men, .inl (cI, 6, .inl t_men)), (a_t_bags, .inl (cI, 6, .inl t_bags)), (a_t_lengths, .inl (cI, 6, .inl t_lengths)), (a_t_played, .inl (cI, 6, .inl t_played)), (a_p1, .inr (0, [.int p1_bags, .int p1_men, .ref a_p1_bagKinds, .ref a_p1_manKinds, .ref a_p1_cells])), (a_p1_cells, .inl (cI, 23, .inl p1_cells))])) (As := [.int (t_bags x5_15.toNatClampNeg)]) (rest := []) ⟨hx, hb, hml, hown, hts⟩ hK hX hA hP hD hS (mtX0_isBag l dC dI cI cZ a_p1 a_p1_bagKinds a_p1_manKinds a_p1_cells H.size p1_bags p1_men (t_bags x5_15.toNatClampNeg) _ hw) (cwV 1 hts gX1_fits_X0_isBag rfl rfl rfl (by decide +kernel) ⟨Nat.le_of_ble_eq_true rfl, Nat.le_of_ble_eq_true rfl⟩) 0 5 rfl rfl rfl [5] [0, 1, 2, 3, 4, 6] [0, 1, 2, 3, 4, 6, 5] rfl rfl rfl rfl (by decide) (fun _ => rfl) rfl rfl hl.1 rfl (Nat.le_of_ble_eq_true rfl) ⟨Nat.zero_le _, Nat.zero_le _⟩ dX1_fits_53 (fun r_6 u H locs hw hP hD hS => ?_)
            obtain ⟨hb_r_6, hw⟩ := hw
            refine lv_if_ne (tgt := 62) hx hb dX1_fits_56 (by decide) (fun c_7 => ?_) (fun c_7 => ?_)
            · have hw := hw.1 c_7
              refine lv_aload_n hx hb dX1_fits_62 rfl (lv_at hl 1 rfl) ?_
              refine lv_aload_n hx hb dX1_fits_63 rfl (lv_at hl 0 rfl) ?_
              refine va_get (D := (dC, dI)) (ci := 1) (v := .ref a_t_bags) (C := RX1) (T := TX1) (N := 5) hx hb hts inX1 hown hK hP 0 rfl rfl 1 (by decide) fl15 (fun _ h9 => h9) rfl dX1_fits_64 ?_
              refine lv_iload hx hb dX1_fits_67 (lv_at hl 4 rfl) ?_
              refine va_iald hx hb hK hP 2 0 rfl rfl hw.1 dX1_fits_69 ?_
              have hw := hw.2
              refine lv_aload_n hx hb dX1_fits_70 rfl (lv_at hl 0 rfl) ?_
              refine va_get (D := (dC, dI)) (ci := 1) (v := .ref a_t_lengths) (C := RX1) (T := TX1) (N := 5) hx hb hts inX1 hown hK hP 0 rfl rfl 2 (by decide) fl18 (fun _ h9 => h9) rfl dX1_fits_71 ?_
              refine lv_iload hx hb dX1_fits_74 (lv_at hl 4 rfl) ?_
              refine va_iald hx hb hK hP 3 0 rfl rfl hw.1 dX1_fits_76 ?_
              have hw := hw.2
              refine lv_iload_n hx hb dX1_fits_77 rfl (lv_at hl 2 rfl) ?_
              refine lv_iload hx hb dX1_fits_78 (lv_at hl 3 rfl) ?_
              refine kv_callVi (wr := [(a_t, .inr (1, [.ref a_t_men, .ref a_t_bags, .ref a_t_lengths, .ref a_t_played, .int t_count])), (a_t_men, .inl (cI, 6, .inl t_men)), (a_t_bags, .inl (cI, 6, .inl t_bags)), (a_t_lengths, .inl (cI, 6, .inl t_lengths)), (a_t_played, .inl (cI, 6, .inl t_played))]) (wn := (fun (u : Unit) => [(a_t, .inr (1, [.ref a_t_men, .ref a_t_bags, .ref a_t_lengths, .ref a_t_played, .int t_count])), (a_t_men, .inl (cI, 6, .inl t_men)), (a_t_bags, .inl (cI, 6, .inl t_bags)), (a_t_lengths, .inl (cI, 6, .inl t_lengths)), (a_t_played, .inl (cI, 6, .inl t_played)), (a_p1, .inr (0, [.int p1_bags, .int p1_men, .ref a_p1_bagKinds, .ref a_p1_manKinds, .ref a_p1_cells])), (a_p1_cells, .inl (cI, 23, .inl p1_cells))])) (As := [.int (t_bags x5_15.toNatClampNeg), .int (t_lengths x5_15.toNatClampNeg), .int x2, .int x4_15]) (rest := []) ⟨hx, hb, hml, hown, hts⟩ hK hX hA hP hD hS (mtX0_playedBitsAs l dC dI cI cZ a_p1 a_p1_bagKinds a_p1_manKinds a_p1_cells H.size p1_bags p1_men p1_cells (t_bags x5_15.toNatClampNeg) (t_lengths x5_15.toNatClampNeg) x2 x4_15 _ hw) (cwV 4 hts gX1_fits_X0_playedBitsAs rfl rfl rfl (by decide +kernel) ⟨Nat.le_of_ble_eq_true rfl, Nat.le_of_ble_eq_true rfl⟩) 0 5 rfl rfl rfl [5, 6] [0, 1, 2, 3, 4] [0, 1, 2, 3, 4, 5, 6] rfl rfl rfl rfl (by decide) (fun _ => rfl) rfl rfl hl.1 rfl (Nat.le_of_ble_eq_true rfl) ⟨Nat.zero_le _, Nat.zero_le _⟩ dX1_fits_80 (fun r_8 u H locs hw hP hD hS => ?_)
              refine lv_istore (lv' := [(6, .int r_8), (0, .ref a_t), (1, .ref a_p1), (2, .int x2), (4, .int x4_15), (5, .int x5_15)]) hx hb dX1_fits_83 hl (by decide) rfl (fun ls hl => ?_)
              refine lv_iload hx hb dX1_fits_85 (lv_at hl 0 rfl) ?_
              refine lv_aload_n hx hb dX1_fits_87 rfl (lv_at hl 1 rfl) ?_
              refine va_get (D := (dC, dI)) (ci := 1) (v := .ref a_t_men) (C := RX1) (T := TX1) (N := 5) hx hb hts inX1 hown hK hP 0 rfl rfl 0 (by decide) fl11 (fun _ h9 => h9) rfl dX1_fits_88 ?_
              refine lv_iload hx hb dX1_fits_91 (lv_at hl 5 rfl) ?_
              refine va_iald hx hb hK hP 1 0 rfl rfl hw.1 dX1_fits_93 ?_
              have hw := hw.2
              refine lv_ishr hx hb dX1_fits_94 ?_
              refine lv_iconst (v := (1 : Int32)) hx hb dX1_fits_95 (by decide) ?_
              refine lv_iand hx hb dX1_fits_96 ?_
              refine lv_aload_n hx hb dX1_fits_97 rfl (lv_at hl 1 rfl) ?_
              refine va_get (D := (dC, dI)) (ci := 1) (v := .ref a_t_played) (C := RX1) (T := TX1) (N := 5) hx hb hts inX1 hown hK hP 0 rfl rfl 3 (by decide) fl21 (fun _ h9 => h9) rfl dX1_fits_98 ?_
              refine lv_iload hx hb dX1_fits_101 (lv_at hl 5 rfl) ?_
              refine va_iald hx hb hK hP 4 0 rfl rfl hw.1 dX1_fits_103 ?_
              have hw := hw.2
              refine lv_icmp_eq (tgt := 109) hx hb dX1_fits_104 (by decide) (fun c_9 => ?_) (fun c_9 => ?_)
              · have hw := hw.1 c_9
                exact B109 x5_15 H _ ls hw hP hD hS (lv_sub hl [1, 2, 3, 4, 5] rfl)
              · have hw := hw.2 c_9
                refine lv_iconst (v := (0 : Int32)) hx hb dX1_fits_107 (by decide) ?_
                exact hret (0 : Int32) () H _ _ ls vb0 hw hP hD hS dX1_fits_108
            · have hw := hw.2 c_7
              refine lv_goto (tgt := 109) hx hb dX1_fits_59 (by decide) ?_
              exact B109 x5_15 H _ ls hw hP hD hS (lv_sub hl [0, 1, 2, 3, 4] rfl)
  have E15 : ∀ (x4_15 : Int32) (x5_15 : Int32) (H : Heap) (locs : List Loc) (ls : Array Slot), wpX1_fits_E15 t_men t_bags t_lengths t_played t_count p1_bags p1_men p1_cells x2 x3 post x4_15 x5_15 → va_P (dC, dI) vwCl [(a_t, .inr (1, [.ref a_t_men, .ref a_t_bags, .ref a_t_lengths, .ref a_t_played, .int t_count])), (a_t_men, .inl (cI, 6, .inl t_men)), (a_t_bags, .inl (cI, 6, .inl t_bags)), (a_t_lengths, .inl (cI, 6, .inl t_lengths)), (a_t_played, .inl (cI, 6, .inl t_played)), (a_p1, .inr (0, [.int p1_bags, .int p1_men, .ref a_p1_bagKinds, .ref a_p1_manKinds, .ref a_p1_cells])), (a_p1_cells, .inl (cI, 23, .inl p1_cells))] H → va_D A [(a_t, .inr (1, [.ref a_t_men, .ref a_t_bags, .ref a_t_lengths, .ref a_t_played, .int t_count])), (a_t_men, .inl (cI, 6, .inl t_men)), (a_t_bags, .inl (cI, 6, .inl t_bags)), (a_t_lengths, .inl (cI, 6, .inl t_lengths)), (a_t_played, .inl (cI, 6, .inl t_played)), (a_p1, .inr (0, [.int p1_bags, .int p1_men, .ref a_p1_bagKinds, .ref a_p1_manKinds, .ref a_p1_cells])), (a_p1_cells, .inl (cI, 23, .inl p1_cells))] → va_S A s.heap H locs → lv_has ls 7 [(0, .ref a_t), (1, .ref a_p1), (2, .int x2), (4, .int x4_15), (5, .int x5_15)] → W p l e rmX1_fits s m [.ref a_t, .ref a_p1, .int x2, .int x3].toArray below meth c H locs 0 0 Q (F0 m 15 ls []) := by
    intro x4_15 x5_15 H locs ls hw hP hD hS hl
    obtain ⟨n, hw⟩ := hw
    exact L15 x4_15 n x5_15 H locs ls hw hP hD hS hl
  have B10 : ∀ (k0_10 : Int32) (H : Heap) (locs : List Loc) (ls : Array Slot), wpX1_fits_J10 t_men t_bags t_lengths t_played t_count p1_bags p1_men p1_cells x2 x3 post k0_10 → va_P (dC, dI) vwCl [(a_t, .inr (1, [.ref a_t_men, .ref a_t_bags, .ref a_t_lengths, .ref a_t_played, .int t_count])), (a_t_men, .inl (cI, 6, .inl t_men)), (a_t_bags, .inl (cI, 6, .inl t_bags)), (a_t_lengths, .inl (cI, 6, .inl t_lengths)), (a_t_played, .inl (cI, 6, .inl t_played)), (a_p1, .inr (0, [.int p1_bags, .int p1_men, .ref a_p1_bagKinds, .ref a_p1_manKinds, .ref a_p1_cells])), (a_p1_cells, .inl (cI, 23, .inl p1_cells))] H → va_D A [(a_t, .inr (1, [.ref a_t_men, .ref a_t_bags, .ref a_t_lengths, .ref a_t_played, .int t_count])), (a_t_men, .inl (cI, 6, .inl t_men)), (a_t_bags, .inl (cI, 6, .inl t_bags)), (a_t_lengths, .inl (cI, 6, .inl t_lengths)), (a_t_played, .inl (cI, 6, .inl t_played)), (a_p1, .inr (0, [.int p1_bags, .int p1_men, .ref a_p1_bagKinds, .ref a_p1_manKinds, .ref a_p1_cells])), (a_p1_cells, .inl (cI, 23, .inl p1_cells))] → va_S A s.heap H locs → lv_has ls 7 [(0, .ref a_t), (1, .ref a_p1), (2, .int x2)] → W p l e rmX1_fits s m [.ref a_t, .ref a_p1, .int x2, .int x3].toArray below meth c H locs 0 0 Q (F0 m 10 ls [.int k0_10]) := by
    intro k0_10 H locs ls hw hP hD hS hl
    refine lv_istore (lv' := [(4, .int k0_10), (0, .ref a_t), (1, .ref a_p1), (2, .int x2)]) hx hb dX1_fits_10 hl (by decide) rfl (fun ls hl => ?_)
    refine lv_iconst (v := (0 : Int32)) hx hb dX1_fits_12 (by decide) ?_
    refine lv_istore (lv' := [(5, .int (0 : Int32)), (4, .int k0_10), (0, .ref a_t), (1, .ref a_p1), (2, .int x2)]) hx hb dX1_fits_13 hl (by decide) rfl (fun ls hl => ?_)
    exact E15 k0_10 (0 : Int32) H _ ls hw hP hD hS (lv_sub hl [2, 3, 4, 1, 0] rfl)
  refine lv_iload_n hx hb dX1_fits_0 rfl (lv_at hl 2 rfl) ?_
  refine lv_iconst (v := (2 : Int32)) hx hb dX1_fits_1 (by decide) ?_
  refine lv_icmp_ne (tgt := 9) hx hb dX1_fits_2 (by decide) (fun c_10 => ?_) (fun c_10 => ?_)
  · have hw := hw.1 c_10
    refine lv_iconst (v := (0 : Int32)) hx hb dX1_fits_9 (by decide) ?_
    exact B10 (0 : Int32) s.heap _ ls hw hP hD hS (lv_sub hl [0, 1, 2] rfl)
  · have hw := hw.2 c_10
    refine lv_iload_n hx hb dX1_fits_5 rfl (lv_at hl 3 rfl) ?_
    refine lv_goto (tgt := 10) hx hb dX1_fits_6 (by decide) ?_
    exact B10 x3 s.heap _ ls hw hP hD hS (lv_sub hl [0, 1, 2] rfl)

def wpX2_clear (t_next : Int32) (t_count : Int32) (post : Int32 → Int32 → Prop) : Prop := post (0 : Int32) (0 : Int32)
abbrev rmX2_clear : Room := { frames := 0, cells := 0, slots := 0, locals := 0 }
set_option maxHeartbeats 4000000 in
set_option maxRecDepth 100000 in
theorem mtX2_clear (l : Launch) (dC : Nat → ClassId) (dI : Nat → Nat → Nat) (cI cZ : ClassId) (a_t : Nat) (a_t_rows : Nat) (sz : Nat) (t_next : Int32) (t_count : Int32) (post : Int32 → Int32 → Prop) (hw : wpX2_clear t_next t_count post) : Met l yX2_clear wsX2_clear rmX2_clear (va_Pc [.ref a_t] (kvPre (dC, dI) cI cZ sz [(a_t, .inr (2, [.ref a_t_rows, .int t_next, .int t_count]))])) (va_Qv (fun (u : Int32 × Int32) => post u.1 u.2) (kvB (dC, dI) (va_A [(a_t, .inr (2, [.ref a_t_rows, .int t_next, .int t_count]))] sz) (fun (u : Int32 × Int32) => [(a_t, .inr (2, [.ref a_t_rows, .int u.1, .int u.2]))])) (va_A [(a_t, .inr (2, [.ref a_t_rows, .int t_next, .int t_count]))] sz)) 0 0 (va_A [(a_t, .inr (2, [.ref a_t_rows, .int t_next, .int t_count]))] sz) := by
  refine kv_metV (y := yX2_clear) (ws := wsX2_clear) (rm := rmX2_clear) (av := [.ref a_t]) (sz := sz) (w := [(a_t, .inr (2, [.ref a_t_rows, .int t_next, .int t_count]))]) (cc := cX2_clear) (maxL := 1) (own := RX2) (post := (fun (u : Int32 × Int32) => post u.1 u.2)) (w1 := (fun (u : Int32 × Int32) => [(a_t, .inr (2, [.ref a_t_rows, .int u.1, .int u.2]))])) (by decide) rfl rfl (Nat.le_of_ble_eq_true rfl) ?_
  intro p e s m below meth c A Q hx hb hml hown hts hK hX hA hP hD hsz hret ls hl
  have hS : va_S A s.heap s.heap [] := va_S.rf
  have hl : lv_has ls 1 [(0, .ref a_t)] := hl
  have inX2 : ∀ w ∈ u_ws RX2 TX2 3, w ∈ wsX2_clear := by decide +kernel
  have fl15 := hts (.fieldLink RX2 15 "BreathBags$Past" "next" "I") (by decide +kernel)
  have fl19 := hts (.fieldLink RX2 19 "BreathBags$Past" "count" "I") (by decide +kernel)
  refine lv_aload_n hx hb dX2_clear_0 rfl (lv_at hl 0 rfl) ?_
  refine lv_iconst (v := (0 : Int32)) hx hb dX2_clear_1 (by decide) ?_
  refine va_put (D := (dC, dI)) (ci := 2) (v := .int (0 : Int32)) (ty := .int) (C := RX2) (T := TX2) (N := 3) hx hb hts inX2 tyX2 tyX2_ok nmX2 hown hK hP hD hS 0 rfl rfl 1 (by decide) fl15 (fun _ h9 => h9) rfl (by decide +kernel) rfl rfl (Nat.le_of_ble_eq_true rfl) dX2_clear_2 (fun H locs hP hD hS => ?_)
  have hP : va_P (dC, dI) vwCl [(a_t, .inr (2, [.ref a_t_rows, .int (0 : Int32), .int t_count]))] H := hP
  have hD : va_D A [(a_t, .inr (2, [.ref a_t_rows, .int (0 : Int32), .int t_count]))] := hD
  refine lv_aload_n hx hb dX2_clear_5 rfl (lv_at hl 0 rfl) ?_
  refine lv_iconst (v := (0 : Int32)) hx hb dX2_clear_6 (by decide) ?_
  refine va_put (D := (dC, dI)) (ci := 2) (v := .int (0 : Int32)) (ty := .int) (C := RX2) (T := TX2) (N := 3) hx hb hts inX2 tyX2 tyX2_ok nmX2 hown hK hP hD hS 0 rfl rfl 2 (by decide) fl19 (fun _ h9 => h9) rfl (by decide +kernel) rfl rfl (Nat.le_of_ble_eq_true rfl) dX2_clear_7 (fun H locs hP hD hS => ?_)
  have hP : va_P (dC, dI) vwCl [(a_t, .inr (2, [.ref a_t_rows, .int (0 : Int32), .int (0 : Int32)]))] H := hP
  have hD : va_D A [(a_t, .inr (2, [.ref a_t_rows, .int (0 : Int32), .int (0 : Int32)]))] := hD
  exact hret ((0 : Int32), (0 : Int32)) H _ _ ls hw hP hD hS dX2_clear_10

def wpX2_remember_J34 (p1_cells : Nat → Int32) (post : (Nat → Int32) → Int32 → Int32 → Prop) (t_rows_34 : Nat → Int32) (t_next_34 : Int32) (t_count_34 : Int32) (k0_34 : Int32) : Prop := ∀ y_1 : Int32, y_1 = (if (t_count_34 + (1 : Int32)) < (14 : Int32) then (t_count_34 + (1 : Int32)) else (14 : Int32)) → post t_rows_34 k0_34 y_1
def wpX2_remember (t_rows : Nat → Int32) (t_next : Int32) (t_count : Int32) (p1_cells : Nat → Int32) (post : (Nat → Int32) → Int32 → Int32 → Prop) : Prop := wpX0_copyTo 322 p1_cells t_rows t_next (fun t_rows_2 => (((t_next + (1 : Int32)) < (14 : Int32) → wpX2_remember_J34 p1_cells post t_rows_2 t_next t_count (t_next + (1 : Int32))) ∧ (¬ (t_next + (1 : Int32)) < (14 : Int32) → wpX2_remember_J34 p1_cells post t_rows_2 t_next t_count (0 : Int32))))
abbrev rmX2_remember : Room := { frames := 1, cells := 0, slots := 0, locals := 24 }
set_option maxHeartbeats 4000000 in
set_option maxRecDepth 100000 in
theorem mtX2_remember (l : Launch) (dC : Nat → ClassId) (dI : Nat → Nat → Nat) (cI cZ : ClassId) (a_t : Nat) (a_t_rows : Nat) (a_p1 : Nat) (a_p1_bagKinds : Nat) (a_p1_manKinds : Nat) (a_p1_cells : Nat) (sz : Nat) (t_next : Int32) (t_count : Int32) (t_rows : Nat → Int32) (d_p1_bags : Int32) (d_p1_men : Int32) (p1_cells : Nat → Int32) (post : (Nat → Int32) → Int32 → Int32 → Prop) (hw : wpX2_remember t_rows t_next t_count p1_cells post) : Met l yX2_remember wsX2_remember rmX2_remember (va_Pc [.ref a_t, .ref a_p1] (kvPre (dC, dI) cI cZ sz [(a_t, .inr (2, [.ref a_t_rows, .int t_next, .int t_count])), (a_t_rows, .inl (cI, 322, .inl t_rows)), (a_p1, .inr (0, [.int d_p1_bags, .int d_p1_men, .ref a_p1_bagKinds, .ref a_p1_manKinds, .ref a_p1_cells])), (a_p1_cells, .inl (cI, 23, .inl p1_cells))])) (va_Qv (fun (u : (Nat → Int32) × Int32 × Int32) => post u.1 u.2.1 u.2.2) (kvB (dC, dI) (va_A [(a_t, .inr (2, [.ref a_t_rows, .int t_next, .int t_count])), (a_t_rows, .inl (cI, 322, .inl t_rows)), (a_p1, .inr (0, [.int d_p1_bags, .int d_p1_men, .ref a_p1_bagKinds, .ref a_p1_manKinds, .ref a_p1_cells])), (a_p1_cells, .inl (cI, 23, .inl p1_cells))] sz) (fun (u : (Nat → Int32) × Int32 × Int32) => [(a_t, .inr (2, [.ref a_t_rows, .int u.2.1, .int u.2.2])), (a_t_rows, .inl (cI, 322, .inl u.1)), (a_p1, .inr (0, [.int d_p1_bags, .int d_p1_men, .ref a_p1_bagKinds, .ref a_p1_manKinds, .ref a_p1_cells])), (a_p1_cells, .inl (cI, 23, .inl p1_cells))])) (va_A [(a_t, .inr (2, [.ref a_t_rows, .int t_next, .int t_count])), (a_t_rows, .inl (cI, 322, .inl t_rows)), (a_p1, .inr (0, [.int d_p1_bags, .int d_p1_men, .ref a_p1_bagKinds, .ref a_p1_manKinds, .ref a_p1_cells])), (a_p1_cells, .inl (cI, 23, .inl p1_cells))] sz)) 0 0 (va_A [(a_t, .inr (2, [.ref a_t_rows, .int t_next, .int t_count])), (a_t_rows, .inl (cI, 322, .inl t_rows)), (a_p1, .inr (0, [.int d_p1_bags, .int d_p1_men, .ref a_p1_bagKinds, .ref a_p1_manKinds, .ref a_p1_cells])), (a_p1_cells, .inl (cI, 23, .inl p1_cells))] sz) := by
  refine kv_metV (y := yX2_remember) (ws := wsX2_remember) (rm := rmX2_remember) (av := [.ref a_t, .ref a_p1]) (sz := sz) (w := [(a_t, .inr (2, [.ref a_t_rows, .int t_next, .int t_count])), (a_t_rows, .inl (cI, 322, .inl t_rows)), (a_p1, .inr (0, [.int d_p1_bags, .int d_p1_men, .ref a_p1_bagKinds, .ref a_p1_manKinds, .ref a_p1_cells])), (a_p1_cells, .inl (cI, 23, .inl p1_cells))]) (cc := cX2_remember) (maxL := 2) (own := RX2) (post := (fun (u : (Nat → Int32) × Int32 × Int32) => post u.1 u.2.1 u.2.2)) (w1 := (fun (u : (Nat → Int32) × Int32 × Int32) => [(a_t, .inr (2, [.ref a_t_rows, .int u.2.1, .int u.2.2])), (a_t_rows, .inl (cI, 322, .inl u.1)), (a_p1, .inr (0, [.int d_p1_bags, .int d_p1_men, .ref a_p1_bagKinds, .ref a_p1_manKinds, .ref a_p1_cells])), (a_p1_cells, .inl (cI, 23, .inl p1_cells))])) (by decide) rfl rfl (Nat.le_of_ble_eq_true rfl) ?_
  intro p e s m below meth c A Q hx hb hml hown hts hK hX hA hP hD hsz hret ls hl
  have hS : va_S A s.heap s.heap [] := va_S.rf
  have hl : lv_has ls 2 [(0, .ref a_t), (1, .ref a_p1)] := hl
  have inX2 : ∀ w ∈ u_ws RX2 TX2 3, w ∈ wsX2_remember := by decide +kernel
  have fl15 := hts (.fieldLink RX2 15 "BreathBags$Past" "next" "I") (by decide +kernel)
  have fl19 := hts (.fieldLink RX2 19 "BreathBags$Past" "count" "I") (by decide +kernel)
  have fl11 := hts (.fieldLink RX2 11 "BreathBags$Past" "rows" "[I") (by decide +kernel)
  have B34 : ∀ (t_rows_34 : Nat → Int32) (t_next_34 : Int32) (t_count_34 : Int32) (k0_34 : Int32) (H : Heap) (locs : List Loc) (ls : Array Slot), wpX2_remember_J34 p1_cells post t_rows_34 t_next_34 t_count_34 k0_34 → va_P (dC, dI) vwCl [(a_t, .inr (2, [.ref a_t_rows, .int t_next_34, .int t_count_34])), (a_t_rows, .inl (cI, 322, .inl t_rows_34)), (a_p1, .inr (0, [.int d_p1_bags, .int d_p1_men, .ref a_p1_bagKinds, .ref a_p1_manKinds, .ref a_p1_cells])), (a_p1_cells, .inl (cI, 23, .inl p1_cells))] H → va_D A [(a_t, .inr (2, [.ref a_t_rows, .int t_next_34, .int t_count_34])), (a_t_rows, .inl (cI, 322, .inl t_rows_34)), (a_p1, .inr (0, [.int d_p1_bags, .int d_p1_men, .ref a_p1_bagKinds, .ref a_p1_manKinds, .ref a_p1_cells])), (a_p1_cells, .inl (cI, 23, .inl p1_cells))] → va_S A s.heap H locs → lv_has ls 2 [(0, .ref a_t)] → W p l e rmX2_remember s m [.ref a_t, .ref a_p1].toArray below meth c H locs 0 0 Q (F0 m 34 ls [.int k0_34, .ref a_t]) := by
    intro t_rows_34 t_next_34 t_count_34 k0_34 H locs ls hw hP hD hS hl
    refine va_put (D := (dC, dI)) (ci := 2) (v := .int k0_34) (ty := .int) (C := RX2) (T := TX2) (N := 3) hx hb hts inX2 tyX2 tyX2_ok nmX2 hown hK hP hD hS 0 rfl rfl 1 (by decide) fl15 (fun _ h9 => h9) rfl (by decide +kernel) rfl rfl (Nat.le_of_ble_eq_true rfl) dX2_remember_34 (fun H locs hP hD hS => ?_)
    have hP : va_P (dC, dI) vwCl [(a_t, .inr (2, [.ref a_t_rows, .int k0_34, .int t_count_34])), (a_t_rows, .inl (cI, 322, .inl t_rows_34)), (a_p1, .inr (0, [.int d_p1_bags, .int d_p1_men, .ref a_p1_bagKinds, .ref a_p1_manKinds, .ref a_p1_cells])), (a_p1_cells, .inl (cI, 23, .inl p1_cells))] H := hP
    have hD : va_D A [(a_t, .inr (2, [.ref a_t_rows, .int k0_34, .int t_count_34])), (a_t_rows, .inl (cI, 322, .inl t_rows_34)), (a_p1, .inr (0, [.int d_p1_bags, .int d_p1_men, .ref a_p1_bagKinds, .ref a_p1_manKinds, .ref a_p1_cells])), (a_p1_cells, .inl (cI, 23, .inl p1_cells))] := hD
    refine lv_aload_n hx hb dX2_remember_37 rfl (lv_at hl 0 rfl) ?_
    refine lv_bipush (v := (14 : Int32)) hx hb dX2_remember_38 (by decide) ?_
    refine lv_aload_n hx hb dX2_remember_40 rfl (lv_at hl 0 rfl) ?_
    refine va_get (D := (dC, dI)) (ci := 2) (v := .int t_count_34) (C := RX2) (T := TX2) (N := 3) hx hb hts inX2 hown hK hP 0 rfl rfl 2 (by decide) fl19 (fun _ h9 => h9) rfl dX2_remember_41 ?_
    refine lv_iconst (v := (1 : Int32)) hx hb dX2_remember_44 (by decide) ?_
    refine lv_iadd hx hb dX2_remember_45 ?_
    refine va_mmin hx hb (by rw [hml]; exact hl.1.symm) hown (hts (.methodLink RX2 26 Lib.Math.min.name) (by decide +kernel)) (hts (.static Lib.Math.min.name) (by decide +kernel)) (hts (.initialized "java/lang/Math") (by decide +kernel)) (hts (.code Lib.Math.min.name Lib.Math.min.code 2 (some .int)) (by decide +kernel)) (Nat.le_of_ble_eq_true rfl) (Nat.le_of_ble_eq_true rfl) (Nat.zero_le _) (Nat.zero_le _) dX2_remember_46 ?_
    refine lv_topi (fun y_1 ey_1 => ?_)
    have hw := hw y_1 ey_1
    refine va_put (D := (dC, dI)) (ci := 2) (v := .int y_1) (ty := .int) (C := RX2) (T := TX2) (N := 3) hx hb hts inX2 tyX2 tyX2_ok nmX2 hown hK hP hD hS 0 rfl rfl 2 (by decide) fl19 (fun _ h9 => h9) rfl (by decide +kernel) rfl rfl (Nat.le_of_ble_eq_true rfl) dX2_remember_49 (fun H locs hP hD hS => ?_)
    have hP : va_P (dC, dI) vwCl [(a_t, .inr (2, [.ref a_t_rows, .int k0_34, .int y_1])), (a_t_rows, .inl (cI, 322, .inl t_rows_34)), (a_p1, .inr (0, [.int d_p1_bags, .int d_p1_men, .ref a_p1_bagKinds, .ref a_p1_manKinds, .ref a_p1_cells])), (a_p1_cells, .inl (cI, 23, .inl p1_cells))] H := hP
    have hD : va_D A [(a_t, .inr (2, [.ref a_t_rows, .int k0_34, .int y_1])), (a_t_rows, .inl (cI, 322, .inl t_rows_34)), (a_p1, .inr (0, [.int d_p1_bags, .int d_p1_men, .ref a_p1_bagKinds, .ref a_p1_manKinds, .ref a_p1_cells])), (a_p1_cells, .inl (cI, 23, .inl p1_cells))] := hD
    exact hret (t_rows_34, k0_34, y_1) H _ _ ls hw hP hD hS dX2_remember_52
  refine lv_aload_n hx hb dX2_remember_0 rfl (lv_at hl 1 rfl) ?_
  refine lv_aload_n hx hb dX2_remember_1 rfl (lv_at hl 0 rfl) ?_
  refine va_get (D := (dC, dI)) (ci := 2) (v := .ref a_t_rows) (C := RX2) (T := TX2) (N := 3) hx hb hts inX2 hown hK hP 0 rfl rfl 0 (by decide) fl11 (fun _ h9 => h9) rfl dX2_remember_2 ?_
  refine lv_aload_n hx hb dX2_remember_5 rfl (lv_at hl 0 rfl) ?_
  refine va_get (D := (dC, dI)) (ci := 2) (v := .int t_next) (C := RX2) (T := TX2) (N := 3) hx hb hts inX2 hown hK hP 0 rfl rfl 1 (by decide) fl15 (fun _ h9 => h9) rfl dX2_remember_6 ?_
  refine kv_callVv (wr := [(a_t, .inr (2, [.ref a_t_rows, .int t_next, .int t_count]))]) (wn := (fun (u : (Nat → Int32)) => [(a_t, .inr (2, [.ref a_t_rows, .int t_next, .int t_count])), (a_t_rows, .inl (cI, 322, .inl u)), (a_p1, .inr (0, [.int d_p1_bags, .int d_p1_men, .ref a_p1_bagKinds, .ref a_p1_manKinds, .ref a_p1_cells])), (a_p1_cells, .inl (cI, 23, .inl p1_cells))])) (As := [.ref a_t_rows, .int t_next]) (rest := []) ⟨hx, hb, hml, hown, hts⟩ hK hX hA hP hD hS (mtX0_copyTo l dC dI cI cZ a_p1 a_p1_bagKinds a_p1_manKinds a_p1_cells a_t_rows 322 s.heap.size d_p1_bags d_p1_men p1_cells t_rows t_next _ hw) (cwV 2 hts gX2_remember_X0_copyTo rfl rfl rfl (by decide +kernel) ⟨Nat.le_of_ble_eq_true rfl, Nat.le_of_ble_eq_true rfl⟩) 0 2 rfl rfl rfl [2, 3, 1] [0] [0, 3, 1, 2] rfl rfl rfl rfl (by decide) (fun _ => rfl) rfl rfl hl.1 rfl (Nat.le_of_ble_eq_true rfl) ⟨Nat.zero_le _, Nat.zero_le _⟩ dX2_remember_9 (fun u H locs hw hP hD hS => ?_)
  obtain ⟨t_rows_2, rfl⟩ : ∃ z, z = u := ⟨_, rfl⟩
  have hP : va_P (dC, dI) vwCl [(a_t, .inr (2, [.ref a_t_rows, .int t_next, .int t_count])), (a_t_rows, .inl (cI, 322, .inl t_rows_2)), (a_p1, .inr (0, [.int d_p1_bags, .int d_p1_men, .ref a_p1_bagKinds, .ref a_p1_manKinds, .ref a_p1_cells])), (a_p1_cells, .inl (cI, 23, .inl p1_cells))] H := hP
  have hD : va_D A [(a_t, .inr (2, [.ref a_t_rows, .int t_next, .int t_count])), (a_t_rows, .inl (cI, 322, .inl t_rows_2)), (a_p1, .inr (0, [.int d_p1_bags, .int d_p1_men, .ref a_p1_bagKinds, .ref a_p1_manKinds, .ref a_p1_cells])), (a_p1_cells, .inl (cI, 23, .inl p1_cells))] := hD
  refine lv_aload_n hx hb dX2_remember_12 rfl (lv_at hl 0 rfl) ?_
  refine lv_aload_n hx hb dX2_remember_13 rfl (lv_at hl 0 rfl) ?_
  refine va_get (D := (dC, dI)) (ci := 2) (v := .int t_next) (C := RX2) (T := TX2) (N := 3) hx hb hts inX2 hown hK hP 0 rfl rfl 1 (by decide) fl15 (fun _ h9 => h9) rfl dX2_remember_14 ?_
  refine lv_iconst (v := (1 : Int32)) hx hb dX2_remember_17 (by decide) ?_
  refine lv_iadd hx hb dX2_remember_18 ?_
  refine lv_bipush (v := (14 : Int32)) hx hb dX2_remember_19 (by decide) ?_
  refine lv_icmp_lt (tgt := 28) hx hb dX2_remember_21 (by decide) (fun c_3 => ?_) (fun c_3 => ?_)
  · have hw := hw.1 c_3
    refine lv_aload_n hx hb dX2_remember_28 rfl (lv_at hl 0 rfl) ?_
    refine va_get (D := (dC, dI)) (ci := 2) (v := .int t_next) (C := RX2) (T := TX2) (N := 3) hx hb hts inX2 hown hK hP 0 rfl rfl 1 (by decide) fl15 (fun _ h9 => h9) rfl dX2_remember_29 ?_
    refine lv_iconst (v := (1 : Int32)) hx hb dX2_remember_32 (by decide) ?_
    refine lv_iadd hx hb dX2_remember_33 ?_
    exact B34 t_rows_2 t_next t_count (t_next + (1 : Int32)) H _ ls hw hP hD hS (lv_sub hl [0] rfl)
  · have hw := hw.2 c_3
    refine lv_iconst (v := (0 : Int32)) hx hb dX2_remember_24 (by decide) ?_
    refine lv_goto (tgt := 34) hx hb dX2_remember_25 (by decide) ?_
    exact B34 t_rows_2 t_next t_count (0 : Int32) H _ ls hw hP hD hS (lv_sub hl [0] rfl)

def wpX2_goBack_J19 (t_rows : Nat → Int32) (post : Int32 → Int32 → Int32 → (Nat → Int32) → Prop) (t_next_19 : Int32) (t_count_19 : Int32) (p1_cells_19 : Nat → Int32) (k0_19 : Int32) : Prop := ∀ y_1 : Int32, y_1 = (if (0 : Int32) < (t_count_19 - (1 : Int32)) then (t_count_19 - (1 : Int32)) else (0 : Int32)) → wpX0_copyFrom 322 p1_cells_19 t_rows k0_19 (fun p1_cells_2 => post y_1 k0_19 y_1 p1_cells_2)
def wpX2_goBack (t_rows : Nat → Int32) (t_next : Int32) (t_count : Int32) (p1_cells : Nat → Int32) (post : Int32 → Int32 → Int32 → (Nat → Int32) → Prop) : Prop := ((0 < t_next → wpX2_goBack_J19 t_rows post t_next t_count p1_cells (t_next - (1 : Int32))) ∧ (¬ 0 < t_next → wpX2_goBack_J19 t_rows post t_next t_count p1_cells (13 : Int32)))
abbrev rmX2_goBack : Room := { frames := 1, cells := 0, slots := 0, locals := 24 }
set_option maxHeartbeats 4000000 in
set_option maxRecDepth 100000 in
theorem mtX2_goBack (l : Launch) (dC : Nat → ClassId) (dI : Nat → Nat → Nat) (cI cZ : ClassId) (a_t : Nat) (a_t_rows : Nat) (a_p1 : Nat) (a_p1_bagKinds : Nat) (a_p1_manKinds : Nat) (a_p1_cells : Nat) (sz : Nat) (t_next : Int32) (t_count : Int32) (t_rows : Nat → Int32) (d_p1_bags : Int32) (d_p1_men : Int32) (p1_cells : Nat → Int32) (post : Int32 → Int32 → Int32 → (Nat → Int32) → Prop) (hw : wpX2_goBack t_rows t_next t_count p1_cells post) : Met l yX2_goBack wsX2_goBack rmX2_goBack (va_Pc [.ref a_t, .ref a_p1] (kvPre (dC, dI) cI cZ sz [(a_t, .inr (2, [.ref a_t_rows, .int t_next, .int t_count])), (a_t_rows, .inl (cI, 322, .inl t_rows)), (a_p1, .inr (0, [.int d_p1_bags, .int d_p1_men, .ref a_p1_bagKinds, .ref a_p1_manKinds, .ref a_p1_cells])), (a_p1_cells, .inl (cI, 23, .inl p1_cells))])) (va_Qi (fun (r : Int32) (u : Int32 × Int32 × (Nat → Int32)) => post r u.1 u.2.1 u.2.2) (kvB (dC, dI) (va_A [(a_t, .inr (2, [.ref a_t_rows, .int t_next, .int t_count])), (a_t_rows, .inl (cI, 322, .inl t_rows)), (a_p1, .inr (0, [.int d_p1_bags, .int d_p1_men, .ref a_p1_bagKinds, .ref a_p1_manKinds, .ref a_p1_cells])), (a_p1_cells, .inl (cI, 23, .inl p1_cells))] sz) (fun (u : Int32 × Int32 × (Nat → Int32)) => [(a_t, .inr (2, [.ref a_t_rows, .int u.1, .int u.2.1])), (a_t_rows, .inl (cI, 322, .inl t_rows)), (a_p1, .inr (0, [.int d_p1_bags, .int d_p1_men, .ref a_p1_bagKinds, .ref a_p1_manKinds, .ref a_p1_cells])), (a_p1_cells, .inl (cI, 23, .inl u.2.2))])) (va_A [(a_t, .inr (2, [.ref a_t_rows, .int t_next, .int t_count])), (a_t_rows, .inl (cI, 322, .inl t_rows)), (a_p1, .inr (0, [.int d_p1_bags, .int d_p1_men, .ref a_p1_bagKinds, .ref a_p1_manKinds, .ref a_p1_cells])), (a_p1_cells, .inl (cI, 23, .inl p1_cells))] sz)) 0 0 (va_A [(a_t, .inr (2, [.ref a_t_rows, .int t_next, .int t_count])), (a_t_rows, .inl (cI, 322, .inl t_rows)), (a_p1, .inr (0, [.int d_p1_bags, .int d_p1_men, .ref a_p1_bagKinds, .ref a_p1_manKinds, .ref a_p1_cells])), (a_p1_cells, .inl (cI, 23, .inl p1_cells))] sz) := by
  refine kv_metI (y := yX2_goBack) (ws := wsX2_goBack) (rm := rmX2_goBack) (av := [.ref a_t, .ref a_p1]) (sz := sz) (w := [(a_t, .inr (2, [.ref a_t_rows, .int t_next, .int t_count])), (a_t_rows, .inl (cI, 322, .inl t_rows)), (a_p1, .inr (0, [.int d_p1_bags, .int d_p1_men, .ref a_p1_bagKinds, .ref a_p1_manKinds, .ref a_p1_cells])), (a_p1_cells, .inl (cI, 23, .inl p1_cells))]) (cc := cX2_goBack) (maxL := 2) (own := RX2) (post := (fun (r : Int32) (u : Int32 × Int32 × (Nat → Int32)) => post r u.1 u.2.1 u.2.2)) (w1 := (fun (u : Int32 × Int32 × (Nat → Int32)) => [(a_t, .inr (2, [.ref a_t_rows, .int u.1, .int u.2.1])), (a_t_rows, .inl (cI, 322, .inl t_rows)), (a_p1, .inr (0, [.int d_p1_bags, .int d_p1_men, .ref a_p1_bagKinds, .ref a_p1_manKinds, .ref a_p1_cells])), (a_p1_cells, .inl (cI, 23, .inl u.2.2))])) (by decide) rfl rfl (Nat.le_of_ble_eq_true rfl) ?_
  intro p e s m below meth c A Q hx hb hml hown hts hK hX hA hP hD hsz hret ls hl
  have hS : va_S A s.heap s.heap [] := va_S.rf
  have hl : lv_has ls 2 [(0, .ref a_t), (1, .ref a_p1)] := hl
  have inX2 : ∀ w ∈ u_ws RX2 TX2 3, w ∈ wsX2_goBack := by decide +kernel
  have fl15 := hts (.fieldLink RX2 15 "BreathBags$Past" "next" "I") (by decide +kernel)
  have fl19 := hts (.fieldLink RX2 19 "BreathBags$Past" "count" "I") (by decide +kernel)
  have fl11 := hts (.fieldLink RX2 11 "BreathBags$Past" "rows" "[I") (by decide +kernel)
  have B19 : ∀ (t_next_19 : Int32) (t_count_19 : Int32) (p1_cells_19 : Nat → Int32) (k0_19 : Int32) (H : Heap) (locs : List Loc) (ls : Array Slot), wpX2_goBack_J19 t_rows post t_next_19 t_count_19 p1_cells_19 k0_19 → va_P (dC, dI) vwCl [(a_t, .inr (2, [.ref a_t_rows, .int t_next_19, .int t_count_19])), (a_t_rows, .inl (cI, 322, .inl t_rows)), (a_p1, .inr (0, [.int d_p1_bags, .int d_p1_men, .ref a_p1_bagKinds, .ref a_p1_manKinds, .ref a_p1_cells])), (a_p1_cells, .inl (cI, 23, .inl p1_cells_19))] H → va_D A [(a_t, .inr (2, [.ref a_t_rows, .int t_next_19, .int t_count_19])), (a_t_rows, .inl (cI, 322, .inl t_rows)), (a_p1, .inr (0, [.int d_p1_bags, .int d_p1_men, .ref a_p1_bagKinds, .ref a_p1_manKinds, .ref a_p1_cells])), (a_p1_cells, .inl (cI, 23, .inl p1_cells_19))] → va_S A s.heap H locs → lv_has ls 2 [(0, .ref a_t), (1, .ref a_p1)] → W p l e rmX2_goBack s m [.ref a_t, .ref a_p1].toArray below meth c H locs 0 0 Q (F0 m 19 ls [.int k0_19, .ref a_t]) := by
    intro t_next_19 t_count_19 p1_cells_19 k0_19 H locs ls hw hP hD hS hl
    refine va_put (D := (dC, dI)) (ci := 2) (v := .int k0_19) (ty := .int) (C := RX2) (T := TX2) (N := 3) hx hb hts inX2 tyX2 tyX2_ok nmX2 hown hK hP hD hS 0 rfl rfl 1 (by decide) fl15 (fun _ h9 => h9) rfl (by decide +kernel) rfl rfl (Nat.le_of_ble_eq_true rfl) dX2_goBack_19 (fun H locs hP hD hS => ?_)
    have hP : va_P (dC, dI) vwCl [(a_t, .inr (2, [.ref a_t_rows, .int k0_19, .int t_count_19])), (a_t_rows, .inl (cI, 322, .inl t_rows)), (a_p1, .inr (0, [.int d_p1_bags, .int d_p1_men, .ref a_p1_bagKinds, .ref a_p1_manKinds, .ref a_p1_cells])), (a_p1_cells, .inl (cI, 23, .inl p1_cells_19))] H := hP
    have hD : va_D A [(a_t, .inr (2, [.ref a_t_rows, .int k0_19, .int t_count_19])), (a_t_rows, .inl (cI, 322, .inl t_rows)), (a_p1, .inr (0, [.int d_p1_bags, .int d_p1_men, .ref a_p1_bagKinds, .ref a_p1_manKinds, .ref a_p1_cells])), (a_p1_cells, .inl (cI, 23, .inl p1_cells_19))] := hD
    refine lv_aload_n hx hb dX2_goBack_22 rfl (lv_at hl 0 rfl) ?_
    refine lv_iconst (v := (0 : Int32)) hx hb dX2_goBack_23 (by decide) ?_
    refine lv_aload_n hx hb dX2_goBack_24 rfl (lv_at hl 0 rfl) ?_
    refine va_get (D := (dC, dI)) (ci := 2) (v := .int t_count_19) (C := RX2) (T := TX2) (N := 3) hx hb hts inX2 hown hK hP 0 rfl rfl 2 (by decide) fl19 (fun _ h9 => h9) rfl dX2_goBack_25 ?_
    refine lv_iconst (v := (1 : Int32)) hx hb dX2_goBack_28 (by decide) ?_
    refine lv_isub hx hb dX2_goBack_29 ?_
    refine va_mmax hx hb (by rw [hml]; exact hl.1.symm) hown (hts (.methodLink RX2 32 Lib.Math.max.name) (by decide +kernel)) (hts (.static Lib.Math.max.name) (by decide +kernel)) (hts (.initialized "java/lang/Math") (by decide +kernel)) (hts (.code Lib.Math.max.name Lib.Math.max.code 2 (some .int)) (by decide +kernel)) (Nat.le_of_ble_eq_true rfl) (Nat.le_of_ble_eq_true rfl) (Nat.zero_le _) (Nat.zero_le _) dX2_goBack_30 ?_
    refine lv_topi (fun y_1 ey_1 => ?_)
    have hw := hw y_1 ey_1
    refine va_put (D := (dC, dI)) (ci := 2) (v := .int y_1) (ty := .int) (C := RX2) (T := TX2) (N := 3) hx hb hts inX2 tyX2 tyX2_ok nmX2 hown hK hP hD hS 0 rfl rfl 2 (by decide) fl19 (fun _ h9 => h9) rfl (by decide +kernel) rfl rfl (Nat.le_of_ble_eq_true rfl) dX2_goBack_33 (fun H locs hP hD hS => ?_)
    have hP : va_P (dC, dI) vwCl [(a_t, .inr (2, [.ref a_t_rows, .int k0_19, .int y_1])), (a_t_rows, .inl (cI, 322, .inl t_rows)), (a_p1, .inr (0, [.int d_p1_bags, .int d_p1_men, .ref a_p1_bagKinds, .ref a_p1_manKinds, .ref a_p1_cells])), (a_p1_cells, .inl (cI, 23, .inl p1_cells_19))] H := hP
    have hD : va_D A [(a_t, .inr (2, [.ref a_t_rows, .int k0_19, .int y_1])), (a_t_rows, .inl (cI, 322, .inl t_rows)), (a_p1, .inr (0, [.int d_p1_bags, .int d_p1_men, .ref a_p1_bagKinds, .ref a_p1_manKinds, .ref a_p1_cells])), (a_p1_cells, .inl (cI, 23, .inl p1_cells_19))] := hD
    refine lv_aload_n hx hb dX2_goBack_36 rfl (lv_at hl 1 rfl) ?_
    refine lv_aload_n hx hb dX2_goBack_37 rfl (lv_at hl 0 rfl) ?_
    refine va_get (D := (dC, dI)) (ci := 2) (v := .ref a_t_rows) (C := RX2) (T := TX2) (N := 3) hx hb hts inX2 hown hK hP 0 rfl rfl 0 (by decide) fl11 (fun _ h9 => h9) rfl dX2_goBack_38 ?_
    refine lv_aload_n hx hb dX2_goBack_41 rfl (lv_at hl 0 rfl) ?_
    refine va_get (D := (dC, dI)) (ci := 2) (v := .int k0_19) (C := RX2) (T := TX2) (N := 3) hx hb hts inX2 hown hK hP 0 rfl rfl 1 (by decide) fl15 (fun _ h9 => h9) rfl dX2_goBack_42 ?_
    refine kv_callVv (wr := [(a_t, .inr (2, [.ref a_t_rows, .int k0_19, .int y_1]))]) (wn := (fun (u : (Nat → Int32)) => [(a_t, .inr (2, [.ref a_t_rows, .int k0_19, .int y_1])), (a_t_rows, .inl (cI, 322, .inl t_rows)), (a_p1, .inr (0, [.int d_p1_bags, .int d_p1_men, .ref a_p1_bagKinds, .ref a_p1_manKinds, .ref a_p1_cells])), (a_p1_cells, .inl (cI, 23, .inl u))])) (As := [.ref a_t_rows, .int k0_19]) (rest := []) ⟨hx, hb, hml, hown, hts⟩ hK hX hA hP hD hS (mtX0_copyFrom l dC dI cI cZ a_p1 a_p1_bagKinds a_p1_manKinds a_p1_cells a_t_rows 322 H.size d_p1_bags d_p1_men p1_cells_19 t_rows k0_19 _ hw) (cwV 2 hts gX2_goBack_X0_copyFrom rfl rfl rfl (by decide +kernel) ⟨Nat.le_of_ble_eq_true rfl, Nat.le_of_ble_eq_true rfl⟩) 0 2 rfl rfl rfl [2, 3, 1] [0] [0, 3, 1, 2] rfl rfl rfl rfl (by decide) (fun _ => rfl) rfl rfl hl.1 rfl (Nat.le_of_ble_eq_true rfl) ⟨Nat.zero_le _, Nat.zero_le _⟩ dX2_goBack_45 (fun u H locs hw hP hD hS => ?_)
    obtain ⟨p1_cells_2, rfl⟩ : ∃ z, z = u := ⟨_, rfl⟩
    have hP : va_P (dC, dI) vwCl [(a_t, .inr (2, [.ref a_t_rows, .int k0_19, .int y_1])), (a_t_rows, .inl (cI, 322, .inl t_rows)), (a_p1, .inr (0, [.int d_p1_bags, .int d_p1_men, .ref a_p1_bagKinds, .ref a_p1_manKinds, .ref a_p1_cells])), (a_p1_cells, .inl (cI, 23, .inl p1_cells_2))] H := hP
    have hD : va_D A [(a_t, .inr (2, [.ref a_t_rows, .int k0_19, .int y_1])), (a_t_rows, .inl (cI, 322, .inl t_rows)), (a_p1, .inr (0, [.int d_p1_bags, .int d_p1_men, .ref a_p1_bagKinds, .ref a_p1_manKinds, .ref a_p1_cells])), (a_p1_cells, .inl (cI, 23, .inl p1_cells_2))] := hD
    refine lv_aload_n hx hb dX2_goBack_48 rfl (lv_at hl 0 rfl) ?_
    refine va_get (D := (dC, dI)) (ci := 2) (v := .int y_1) (C := RX2) (T := TX2) (N := 3) hx hb hts inX2 hown hK hP 0 rfl rfl 2 (by decide) fl19 (fun _ h9 => h9) rfl dX2_goBack_49 ?_
    exact hret y_1 (k0_19, y_1, p1_cells_2) H _ _ ls hw hP hD hS dX2_goBack_52
  refine lv_aload_n hx hb dX2_goBack_0 rfl (lv_at hl 0 rfl) ?_
  refine lv_aload_n hx hb dX2_goBack_1 rfl (lv_at hl 0 rfl) ?_
  refine va_get (D := (dC, dI)) (ci := 2) (v := .int t_next) (C := RX2) (T := TX2) (N := 3) hx hb hts inX2 hown hK hP 0 rfl rfl 1 (by decide) fl15 (fun _ h9 => h9) rfl dX2_goBack_2 ?_
  refine lv_if_gt (tgt := 13) hx hb dX2_goBack_5 (by decide) (fun c_3 => ?_) (fun c_3 => ?_)
  · have hw := hw.1 c_3
    refine lv_aload_n hx hb dX2_goBack_13 rfl (lv_at hl 0 rfl) ?_
    refine va_get (D := (dC, dI)) (ci := 2) (v := .int t_next) (C := RX2) (T := TX2) (N := 3) hx hb hts inX2 hown hK hP 0 rfl rfl 1 (by decide) fl15 (fun _ h9 => h9) rfl dX2_goBack_14 ?_
    refine lv_iconst (v := (1 : Int32)) hx hb dX2_goBack_17 (by decide) ?_
    refine lv_isub hx hb dX2_goBack_18 ?_
    exact B19 t_next t_count p1_cells (t_next - (1 : Int32)) s.heap _ ls hw hP hD hS (lv_sub hl [0, 1] rfl)
  · have hw := hw.2 c_3
    refine lv_bipush (v := (13 : Int32)) hx hb dX2_goBack_8 (by decide) ?_
    refine lv_goto (tgt := 19) hx hb dX2_goBack_10 (by decide) ?_
    exact B19 t_next t_count p1_cells (13 : Int32) s.heap _ ls hw hP hD hS (lv_sub hl [0, 1] rfl)

def wpX3_clear (t_keptBits : Int32) (post : Int32 → Prop) : Prop := post (0 : Int32)
abbrev rmX3_clear : Room := { frames := 0, cells := 0, slots := 0, locals := 0 }
set_option maxHeartbeats 4000000 in
set_option maxRecDepth 100000 in
theorem mtX3_clear (l : Launch) (dC : Nat → ClassId) (dI : Nat → Nat → Nat) (cI cZ : ClassId) (a_t : Nat) (a_t_rows : Nat) (sz : Nat) (t_keptBits : Int32) (post : Int32 → Prop) (hw : wpX3_clear t_keptBits post) : Met l yX3_clear wsX3_clear rmX3_clear (va_Pc [.ref a_t] (kvPre (dC, dI) cI cZ sz [(a_t, .inr (3, [.ref a_t_rows, .int t_keptBits]))])) (va_Qv (fun (u : Int32) => post u) (kvB (dC, dI) (va_A [(a_t, .inr (3, [.ref a_t_rows, .int t_keptBits]))] sz) (fun (u : Int32) => [(a_t, .inr (3, [.ref a_t_rows, .int u]))])) (va_A [(a_t, .inr (3, [.ref a_t_rows, .int t_keptBits]))] sz)) 0 0 (va_A [(a_t, .inr (3, [.ref a_t_rows, .int t_keptBits]))] sz) := by
  refine kv_metV (y := yX3_clear) (ws := wsX3_clear) (rm := rmX3_clear) (av := [.ref a_t]) (sz := sz) (w := [(a_t, .inr (3, [.ref a_t_rows, .int t_keptBits]))]) (cc := cX3_clear) (maxL := 1) (own := RX3) (post := (fun (u : Int32) => post u)) (w1 := (fun (u : Int32) => [(a_t, .inr (3, [.ref a_t_rows, .int u]))])) (by decide) rfl rfl (Nat.le_of_ble_eq_true rfl) ?_
  intro p e s m below meth c A Q hx hb hml hown hts hK hX hA hP hD hsz hret ls hl
  have hS : va_S A s.heap s.heap [] := va_S.rf
  have hl : lv_has ls 1 [(0, .ref a_t)] := hl
  have inX3 : ∀ w ∈ u_ws RX3 TX3 2, w ∈ wsX3_clear := by decide +kernel
  have fl15 := hts (.fieldLink RX3 15 "BreathBags$Slots" "keptBits" "I") (by decide +kernel)
  refine lv_aload_n hx hb dX3_clear_0 rfl (lv_at hl 0 rfl) ?_
  refine lv_iconst (v := (0 : Int32)) hx hb dX3_clear_1 (by decide) ?_
  refine va_put (D := (dC, dI)) (ci := 3) (v := .int (0 : Int32)) (ty := .int) (C := RX3) (T := TX3) (N := 2) hx hb hts inX3 tyX3 tyX3_ok nmX3 hown hK hP hD hS 0 rfl rfl 1 (by decide) fl15 (fun _ h9 => h9) rfl (by decide +kernel) rfl rfl (Nat.le_of_ble_eq_true rfl) dX3_clear_2 (fun H locs hP hD hS => ?_)
  have hP : va_P (dC, dI) vwCl [(a_t, .inr (3, [.ref a_t_rows, .int (0 : Int32)]))] H := hP
  have hD : va_D A [(a_t, .inr (3, [.ref a_t_rows, .int (0 : Int32)]))] := hD
  exact hret (0 : Int32) H _ _ ls hw hP hD hS dX3_clear_5

def wpX3_isSlot (x1 : Int32) (post : Int32 → Prop) : Prop := ((x1 < 0 → post (0 : Int32)) ∧ (¬ x1 < 0 → (((2 : Int32) ≤ x1 → post (0 : Int32)) ∧ (¬ (2 : Int32) ≤ x1 → post (1 : Int32)))))
abbrev rmX3_isSlot : Room := { frames := 0, cells := 0, slots := 0, locals := 0 }
set_option maxHeartbeats 4000000 in
set_option maxRecDepth 100000 in
theorem mtX3_isSlot (l : Launch) (dC : Nat → ClassId) (dI : Nat → Nat → Nat) (cI cZ : ClassId) (a_t : Nat) (sz : Nat) (x1 : Int32) (post : Int32 → Prop) (hw : wpX3_isSlot x1 post) : Met l yX3_isSlot wsX3_isSlot rmX3_isSlot (va_Pc [.ref a_t, .int x1] (kvPre (dC, dI) cI cZ sz [])) (va_Qi (fun (r : Int32) (u : Unit) => vb r ∧ post r ) (kvB (dC, dI) (va_A [] sz) (fun (u : Unit) => [])) (va_A [] sz)) 0 0 (va_A [] sz) := by
  refine kv_metZ (y := yX3_isSlot) (ws := wsX3_isSlot) (rm := rmX3_isSlot) (av := [.ref a_t, .int x1]) (sz := sz) (w := []) (cc := cX3_isSlot) (maxL := 2) (own := RX3) (post := (fun (r : Int32) (u : Unit) => post r )) (w1 := (fun (u : Unit) => [])) (by decide) rfl rfl (Nat.le_of_ble_eq_true rfl) ?_
  intro p e s m below meth c A Q hx hb hml hown hts hK hX hA hP hD hsz hret ls hl
  have hS : va_S A s.heap s.heap [] := va_S.rf
  have hl : lv_has ls 2 [(0, .ref a_t), (1, .int x1)] := hl
  refine lv_iload_n hx hb dX3_isSlot_0 rfl (lv_at hl 1 rfl) ?_
  refine lv_if_lt (tgt := 13) hx hb dX3_isSlot_1 (by decide) (fun c_1 => ?_) (fun c_1 => ?_)
  · have hw := hw.1 c_1
    refine lv_iconst (v := (0 : Int32)) hx hb dX3_isSlot_13 (by decide) ?_
    exact hret (0 : Int32) () s.heap _ _ ls vb0 hw hP hD hS dX3_isSlot_14
  · have hw := hw.2 c_1
    refine lv_iload_n hx hb dX3_isSlot_4 rfl (lv_at hl 1 rfl) ?_
    refine lv_iconst (v := (2 : Int32)) hx hb dX3_isSlot_5 (by decide) ?_
    refine lv_icmp_ge (tgt := 13) hx hb dX3_isSlot_6 (by decide) (fun c_2 => ?_) (fun c_2 => ?_)
    · have hw := hw.1 c_2
      refine lv_iconst (v := (0 : Int32)) hx hb dX3_isSlot_13 (by decide) ?_
      exact hret (0 : Int32) () s.heap _ _ ls vb0 hw hP hD hS dX3_isSlot_14
    · have hw := hw.2 c_2
      refine lv_iconst (v := (1 : Int32)) hx hb dX3_isSlot_9 (by decide) ?_
      refine lv_goto (tgt := 14) hx hb dX3_isSlot_10 (by decide) ?_
      exact hret (1 : Int32) () s.heap _ _ ls vb1 hw hP hD hS dX3_isSlot_14

def wpX3_isKept (t_keptBits : Int32) (x1 : Int32) (post : Int32 → Prop) : Prop := ((¬ ((t_keptBits >>> (x1 &&& 31)) &&& (1 : Int32)) = (1 : Int32) → post (0 : Int32)) ∧ (((t_keptBits >>> (x1 &&& 31)) &&& (1 : Int32)) = (1 : Int32) → post (1 : Int32)))
abbrev rmX3_isKept : Room := { frames := 0, cells := 0, slots := 0, locals := 0 }
set_option maxHeartbeats 4000000 in
set_option maxRecDepth 100000 in
theorem mtX3_isKept (l : Launch) (dC : Nat → ClassId) (dI : Nat → Nat → Nat) (cI cZ : ClassId) (a_t : Nat) (a_t_rows : Nat) (sz : Nat) (t_keptBits : Int32) (x1 : Int32) (post : Int32 → Prop) (hw : wpX3_isKept t_keptBits x1 post) : Met l yX3_isKept wsX3_isKept rmX3_isKept (va_Pc [.ref a_t, .int x1] (kvPre (dC, dI) cI cZ sz [(a_t, .inr (3, [.ref a_t_rows, .int t_keptBits]))])) (va_Qi (fun (r : Int32) (u : Unit) => vb r ∧ post r ) (kvB (dC, dI) (va_A [(a_t, .inr (3, [.ref a_t_rows, .int t_keptBits]))] sz) (fun (u : Unit) => [(a_t, .inr (3, [.ref a_t_rows, .int t_keptBits]))])) (va_A [(a_t, .inr (3, [.ref a_t_rows, .int t_keptBits]))] sz)) 0 0 (va_A [(a_t, .inr (3, [.ref a_t_rows, .int t_keptBits]))] sz) := by
  refine kv_metZ (y := yX3_isKept) (ws := wsX3_isKept) (rm := rmX3_isKept) (av := [.ref a_t, .int x1]) (sz := sz) (w := [(a_t, .inr (3, [.ref a_t_rows, .int t_keptBits]))]) (cc := cX3_isKept) (maxL := 2) (own := RX3) (post := (fun (r : Int32) (u : Unit) => post r )) (w1 := (fun (u : Unit) => [(a_t, .inr (3, [.ref a_t_rows, .int t_keptBits]))])) (by decide) rfl rfl (Nat.le_of_ble_eq_true rfl) ?_
  intro p e s m below meth c A Q hx hb hml hown hts hK hX hA hP hD hsz hret ls hl
  have hS : va_S A s.heap s.heap [] := va_S.rf
  have hl : lv_has ls 2 [(0, .ref a_t), (1, .int x1)] := hl
  have inX3 : ∀ w ∈ u_ws RX3 TX3 2, w ∈ wsX3_isKept := by decide +kernel
  have fl15 := hts (.fieldLink RX3 15 "BreathBags$Slots" "keptBits" "I") (by decide +kernel)
  refine lv_aload_n hx hb dX3_isKept_0 rfl (lv_at hl 0 rfl) ?_
  refine va_get (D := (dC, dI)) (ci := 3) (v := .int t_keptBits) (C := RX3) (T := TX3) (N := 2) hx hb hts inX3 hown hK hP 0 rfl rfl 1 (by decide) fl15 (fun _ h9 => h9) rfl dX3_isKept_1 ?_
  refine lv_iload_n hx hb dX3_isKept_4 rfl (lv_at hl 1 rfl) ?_
  refine lv_ishr hx hb dX3_isKept_5 ?_
  refine lv_iconst (v := (1 : Int32)) hx hb dX3_isKept_6 (by decide) ?_
  refine lv_iand hx hb dX3_isKept_7 ?_
  refine lv_iconst (v := (1 : Int32)) hx hb dX3_isKept_8 (by decide) ?_
  refine lv_icmp_ne (tgt := 16) hx hb dX3_isKept_9 (by decide) (fun c_1 => ?_) (fun c_1 => ?_)
  · have hw := hw.1 c_1
    refine lv_iconst (v := (0 : Int32)) hx hb dX3_isKept_16 (by decide) ?_
    exact hret (0 : Int32) () s.heap _ _ ls vb0 hw hP hD hS dX3_isKept_17
  · have hw := hw.2 c_1
    refine lv_iconst (v := (1 : Int32)) hx hb dX3_isKept_12 (by decide) ?_
    refine lv_goto (tgt := 17) hx hb dX3_isKept_13 (by decide) ?_
    exact hret (1 : Int32) () s.heap _ _ ls vb1 hw hP hD hS dX3_isKept_17

def wpX3_store (t_rows : Nat → Int32) (t_keptBits : Int32) (p2_cells : Nat → Int32) (x1 : Int32) (post : (Nat → Int32) → Int32 → Prop) : Prop := wpX0_copyTo 46 p2_cells t_rows x1 (fun t_rows_1 => ∀ y_2 : Int32, y_2 = (t_keptBits ||| ((1 : Int32) <<< (x1 &&& 31))) → post t_rows_1 y_2)
abbrev rmX3_store : Room := { frames := 1, cells := 0, slots := 0, locals := 24 }
set_option maxHeartbeats 4000000 in
set_option maxRecDepth 100000 in
theorem mtX3_store (l : Launch) (dC : Nat → ClassId) (dI : Nat → Nat → Nat) (cI cZ : ClassId) (a_t : Nat) (a_t_rows : Nat) (a_p2 : Nat) (a_p2_bagKinds : Nat) (a_p2_manKinds : Nat) (a_p2_cells : Nat) (sz : Nat) (t_keptBits : Int32) (t_rows : Nat → Int32) (d_p2_bags : Int32) (d_p2_men : Int32) (p2_cells : Nat → Int32) (x1 : Int32) (post : (Nat → Int32) → Int32 → Prop) (hw : wpX3_store t_rows t_keptBits p2_cells x1 post) : Met l yX3_store wsX3_store rmX3_store (va_Pc [.ref a_t, .int x1, .ref a_p2] (kvPre (dC, dI) cI cZ sz [(a_t, .inr (3, [.ref a_t_rows, .int t_keptBits])), (a_t_rows, .inl (cI, 46, .inl t_rows)), (a_p2, .inr (0, [.int d_p2_bags, .int d_p2_men, .ref a_p2_bagKinds, .ref a_p2_manKinds, .ref a_p2_cells])), (a_p2_cells, .inl (cI, 23, .inl p2_cells))])) (va_Qv (fun (u : (Nat → Int32) × Int32) => post u.1 u.2) (kvB (dC, dI) (va_A [(a_t, .inr (3, [.ref a_t_rows, .int t_keptBits])), (a_t_rows, .inl (cI, 46, .inl t_rows)), (a_p2, .inr (0, [.int d_p2_bags, .int d_p2_men, .ref a_p2_bagKinds, .ref a_p2_manKinds, .ref a_p2_cells])), (a_p2_cells, .inl (cI, 23, .inl p2_cells))] sz) (fun (u : (Nat → Int32) × Int32) => [(a_t, .inr (3, [.ref a_t_rows, .int u.2])), (a_t_rows, .inl (cI, 46, .inl u.1)), (a_p2, .inr (0, [.int d_p2_bags, .int d_p2_men, .ref a_p2_bagKinds, .ref a_p2_manKinds, .ref a_p2_cells])), (a_p2_cells, .inl (cI, 23, .inl p2_cells))])) (va_A [(a_t, .inr (3, [.ref a_t_rows, .int t_keptBits])), (a_t_rows, .inl (cI, 46, .inl t_rows)), (a_p2, .inr (0, [.int d_p2_bags, .int d_p2_men, .ref a_p2_bagKinds, .ref a_p2_manKinds, .ref a_p2_cells])), (a_p2_cells, .inl (cI, 23, .inl p2_cells))] sz)) 0 0 (va_A [(a_t, .inr (3, [.ref a_t_rows, .int t_keptBits])), (a_t_rows, .inl (cI, 46, .inl t_rows)), (a_p2, .inr (0, [.int d_p2_bags, .int d_p2_men, .ref a_p2_bagKinds, .ref a_p2_manKinds, .ref a_p2_cells])), (a_p2_cells, .inl (cI, 23, .inl p2_cells))] sz) := by
  refine kv_metV (y := yX3_store) (ws := wsX3_store) (rm := rmX3_store) (av := [.ref a_t, .int x1, .ref a_p2]) (sz := sz) (w := [(a_t, .inr (3, [.ref a_t_rows, .int t_keptBits])), (a_t_rows, .inl (cI, 46, .inl t_rows)), (a_p2, .inr (0, [.int d_p2_bags, .int d_p2_men, .ref a_p2_bagKinds, .ref a_p2_manKinds, .ref a_p2_cells])), (a_p2_cells, .inl (cI, 23, .inl p2_cells))]) (cc := cX3_store) (maxL := 3) (own := RX3) (post := (fun (u : (Nat → Int32) × Int32) => post u.1 u.2)) (w1 := (fun (u : (Nat → Int32) × Int32) => [(a_t, .inr (3, [.ref a_t_rows, .int u.2])), (a_t_rows, .inl (cI, 46, .inl u.1)), (a_p2, .inr (0, [.int d_p2_bags, .int d_p2_men, .ref a_p2_bagKinds, .ref a_p2_manKinds, .ref a_p2_cells])), (a_p2_cells, .inl (cI, 23, .inl p2_cells))])) (by decide) rfl rfl (Nat.le_of_ble_eq_true rfl) ?_
  intro p e s m below meth c A Q hx hb hml hown hts hK hX hA hP hD hsz hret ls hl
  have hS : va_S A s.heap s.heap [] := va_S.rf
  have hl : lv_has ls 3 [(0, .ref a_t), (1, .int x1), (2, .ref a_p2)] := hl
  have inX3 : ∀ w ∈ u_ws RX3 TX3 2, w ∈ wsX3_store := by decide +kernel
  have fl11 := hts (.fieldLink RX3 11 "BreathBags$Slots" "rows" "[I") (by decide +kernel)
  have fl15 := hts (.fieldLink RX3 15 "BreathBags$Slots" "keptBits" "I") (by decide +kernel)
  refine lv_aload_n hx hb dX3_store_0 rfl (lv_at hl 2 rfl) ?_
  refine lv_aload_n hx hb dX3_store_1 rfl (lv_at hl 0 rfl) ?_
  refine va_get (D := (dC, dI)) (ci := 3) (v := .ref a_t_rows) (C := RX3) (T := TX3) (N := 2) hx hb hts inX3 hown hK hP 0 rfl rfl 0 (by decide) fl11 (fun _ h9 => h9) rfl dX3_store_2 ?_
  refine lv_iload_n hx hb dX3_store_5 rfl (lv_at hl 1 rfl) ?_
  refine kv_callVv (wr := [(a_t, .inr (3, [.ref a_t_rows, .int t_keptBits]))]) (wn := (fun (u : (Nat → Int32)) => [(a_t, .inr (3, [.ref a_t_rows, .int t_keptBits])), (a_t_rows, .inl (cI, 46, .inl u)), (a_p2, .inr (0, [.int d_p2_bags, .int d_p2_men, .ref a_p2_bagKinds, .ref a_p2_manKinds, .ref a_p2_cells])), (a_p2_cells, .inl (cI, 23, .inl p2_cells))])) (As := [.ref a_t_rows, .int x1]) (rest := []) ⟨hx, hb, hml, hown, hts⟩ hK hX hA hP hD hS (mtX0_copyTo l dC dI cI cZ a_p2 a_p2_bagKinds a_p2_manKinds a_p2_cells a_t_rows 46 s.heap.size d_p2_bags d_p2_men p2_cells t_rows x1 _ hw) (cwV 2 hts gX3_store_X0_copyTo rfl rfl rfl (by decide +kernel) ⟨Nat.le_of_ble_eq_true rfl, Nat.le_of_ble_eq_true rfl⟩) 0 2 rfl rfl rfl [2, 3, 1] [0] [0, 3, 1, 2] rfl rfl rfl rfl (by decide) (fun _ => rfl) rfl rfl hl.1 rfl (Nat.le_of_ble_eq_true rfl) ⟨Nat.zero_le _, Nat.zero_le _⟩ dX3_store_6 (fun u H locs hw hP hD hS => ?_)
  obtain ⟨t_rows_1, rfl⟩ : ∃ z, z = u := ⟨_, rfl⟩
  have hP : va_P (dC, dI) vwCl [(a_t, .inr (3, [.ref a_t_rows, .int t_keptBits])), (a_t_rows, .inl (cI, 46, .inl t_rows_1)), (a_p2, .inr (0, [.int d_p2_bags, .int d_p2_men, .ref a_p2_bagKinds, .ref a_p2_manKinds, .ref a_p2_cells])), (a_p2_cells, .inl (cI, 23, .inl p2_cells))] H := hP
  have hD : va_D A [(a_t, .inr (3, [.ref a_t_rows, .int t_keptBits])), (a_t_rows, .inl (cI, 46, .inl t_rows_1)), (a_p2, .inr (0, [.int d_p2_bags, .int d_p2_men, .ref a_p2_bagKinds, .ref a_p2_manKinds, .ref a_p2_cells])), (a_p2_cells, .inl (cI, 23, .inl p2_cells))] := hD
  refine lv_aload_n hx hb dX3_store_9 rfl (lv_at hl 0 rfl) ?_
  refine lv_dup hx hb dX3_store_10 rfl ?_
  refine va_get (D := (dC, dI)) (ci := 3) (v := .int t_keptBits) (C := RX3) (T := TX3) (N := 2) hx hb hts inX3 hown hK hP 0 rfl rfl 1 (by decide) fl15 (fun _ h9 => h9) rfl dX3_store_11 ?_
  refine lv_iconst (v := (1 : Int32)) hx hb dX3_store_14 (by decide) ?_
  refine lv_iload_n hx hb dX3_store_15 rfl (lv_at hl 1 rfl) ?_
  refine lv_ishl hx hb dX3_store_16 ?_
  refine lv_ior hx hb dX3_store_17 ?_
  refine lv_topi (fun y_2 ey_2 => ?_)
  have hw := hw y_2 ey_2
  refine va_put (D := (dC, dI)) (ci := 3) (v := .int y_2) (ty := .int) (C := RX3) (T := TX3) (N := 2) hx hb hts inX3 tyX3 tyX3_ok nmX3 hown hK hP hD hS 0 rfl rfl 1 (by decide) fl15 (fun _ h9 => h9) rfl (by decide +kernel) rfl rfl (Nat.le_of_ble_eq_true rfl) dX3_store_18 (fun H locs hP hD hS => ?_)
  have hP : va_P (dC, dI) vwCl [(a_t, .inr (3, [.ref a_t_rows, .int y_2])), (a_t_rows, .inl (cI, 46, .inl t_rows_1)), (a_p2, .inr (0, [.int d_p2_bags, .int d_p2_men, .ref a_p2_bagKinds, .ref a_p2_manKinds, .ref a_p2_cells])), (a_p2_cells, .inl (cI, 23, .inl p2_cells))] H := hP
  have hD : va_D A [(a_t, .inr (3, [.ref a_t_rows, .int y_2])), (a_t_rows, .inl (cI, 46, .inl t_rows_1)), (a_p2, .inr (0, [.int d_p2_bags, .int d_p2_men, .ref a_p2_bagKinds, .ref a_p2_manKinds, .ref a_p2_cells])), (a_p2_cells, .inl (cI, 23, .inl p2_cells))] := hD
  exact hret (t_rows_1, y_2) H _ _ ls hw hP hD hS dX3_store_21

def wpX3_fetch (t_rows : Nat → Int32) (p2_cells : Nat → Int32) (x1 : Int32) (post : (Nat → Int32) → Prop) : Prop := wpX0_copyFrom 46 p2_cells t_rows x1 (fun p2_cells_1 => post p2_cells_1)
abbrev rmX3_fetch : Room := { frames := 1, cells := 0, slots := 0, locals := 24 }
set_option maxHeartbeats 4000000 in
set_option maxRecDepth 100000 in
theorem mtX3_fetch (l : Launch) (dC : Nat → ClassId) (dI : Nat → Nat → Nat) (cI cZ : ClassId) (a_t : Nat) (a_t_rows : Nat) (a_p2 : Nat) (a_p2_bagKinds : Nat) (a_p2_manKinds : Nat) (a_p2_cells : Nat) (sz : Nat) (d_t_keptBits : Int32) (t_rows : Nat → Int32) (d_p2_bags : Int32) (d_p2_men : Int32) (p2_cells : Nat → Int32) (x1 : Int32) (post : (Nat → Int32) → Prop) (hw : wpX3_fetch t_rows p2_cells x1 post) : Met l yX3_fetch wsX3_fetch rmX3_fetch (va_Pc [.ref a_t, .int x1, .ref a_p2] (kvPre (dC, dI) cI cZ sz [(a_t, .inr (3, [.ref a_t_rows, .int d_t_keptBits])), (a_t_rows, .inl (cI, 46, .inl t_rows)), (a_p2, .inr (0, [.int d_p2_bags, .int d_p2_men, .ref a_p2_bagKinds, .ref a_p2_manKinds, .ref a_p2_cells])), (a_p2_cells, .inl (cI, 23, .inl p2_cells))])) (va_Qv (fun (u : (Nat → Int32)) => post u) (kvB (dC, dI) (va_A [(a_t, .inr (3, [.ref a_t_rows, .int d_t_keptBits])), (a_t_rows, .inl (cI, 46, .inl t_rows)), (a_p2, .inr (0, [.int d_p2_bags, .int d_p2_men, .ref a_p2_bagKinds, .ref a_p2_manKinds, .ref a_p2_cells])), (a_p2_cells, .inl (cI, 23, .inl p2_cells))] sz) (fun (u : (Nat → Int32)) => [(a_t, .inr (3, [.ref a_t_rows, .int d_t_keptBits])), (a_t_rows, .inl (cI, 46, .inl t_rows)), (a_p2, .inr (0, [.int d_p2_bags, .int d_p2_men, .ref a_p2_bagKinds, .ref a_p2_manKinds, .ref a_p2_cells])), (a_p2_cells, .inl (cI, 23, .inl u))])) (va_A [(a_t, .inr (3, [.ref a_t_rows, .int d_t_keptBits])), (a_t_rows, .inl (cI, 46, .inl t_rows)), (a_p2, .inr (0, [.int d_p2_bags, .int d_p2_men, .ref a_p2_bagKinds, .ref a_p2_manKinds, .ref a_p2_cells])), (a_p2_cells, .inl (cI, 23, .inl p2_cells))] sz)) 0 0 (va_A [(a_t, .inr (3, [.ref a_t_rows, .int d_t_keptBits])), (a_t_rows, .inl (cI, 46, .inl t_rows)), (a_p2, .inr (0, [.int d_p2_bags, .int d_p2_men, .ref a_p2_bagKinds, .ref a_p2_manKinds, .ref a_p2_cells])), (a_p2_cells, .inl (cI, 23, .inl p2_cells))] sz) := by
  refine kv_metV (y := yX3_fetch) (ws := wsX3_fetch) (rm := rmX3_fetch) (av := [.ref a_t, .int x1, .ref a_p2]) (sz := sz) (w := [(a_t, .inr (3, [.ref a_t_rows, .int d_t_keptBits])), (a_t_rows, .inl (cI, 46, .inl t_rows)), (a_p2, .inr (0, [.int d_p2_bags, .int d_p2_men, .ref a_p2_bagKinds, .ref a_p2_manKinds, .ref a_p2_cells])), (a_p2_cells, .inl (cI, 23, .inl p2_cells))]) (cc := cX3_fetch) (maxL := 3) (own := RX3) (post := (fun (u : (Nat → Int32)) => post u)) (w1 := (fun (u : (Nat → Int32)) => [(a_t, .inr (3, [.ref a_t_rows, .int d_t_keptBits])), (a_t_rows, .inl (cI, 46, .inl t_rows)), (a_p2, .inr (0, [.int d_p2_bags, .int d_p2_men, .ref a_p2_bagKinds, .ref a_p2_manKinds, .ref a_p2_cells])), (a_p2_cells, .inl (cI, 23, .inl u))])) (by decide) rfl rfl (Nat.le_of_ble_eq_true rfl) ?_
  intro p e s m below meth c A Q hx hb hml hown hts hK hX hA hP hD hsz hret ls hl
  have hS : va_S A s.heap s.heap [] := va_S.rf
  have hl : lv_has ls 3 [(0, .ref a_t), (1, .int x1), (2, .ref a_p2)] := hl
  have inX3 : ∀ w ∈ u_ws RX3 TX3 2, w ∈ wsX3_fetch := by decide +kernel
  have fl11 := hts (.fieldLink RX3 11 "BreathBags$Slots" "rows" "[I") (by decide +kernel)
  refine lv_aload_n hx hb dX3_fetch_0 rfl (lv_at hl 2 rfl) ?_
  refine lv_aload_n hx hb dX3_fetch_1 rfl (lv_at hl 0 rfl) ?_
  refine va_get (D := (dC, dI)) (ci := 3) (v := .ref a_t_rows) (C := RX3) (T := TX3) (N := 2) hx hb hts inX3 hown hK hP 0 rfl rfl 0 (by decide) fl11 (fun _ h9 => h9) rfl dX3_fetch_2 ?_
  refine lv_iload_n hx hb dX3_fetch_5 rfl (lv_at hl 1 rfl) ?_
  refine kv_callVv (wr := [(a_t, .inr (3, [.ref a_t_rows, .int d_t_keptBits]))]) (wn := (fun (u : (Nat → Int32)) => [(a_t, .inr (3, [.ref a_t_rows, .int d_t_keptBits])), (a_t_rows, .inl (cI, 46, .inl t_rows)), (a_p2, .inr (0, [.int d_p2_bags, .int d_p2_men, .ref a_p2_bagKinds, .ref a_p2_manKinds, .ref a_p2_cells])), (a_p2_cells, .inl (cI, 23, .inl u))])) (As := [.ref a_t_rows, .int x1]) (rest := []) ⟨hx, hb, hml, hown, hts⟩ hK hX hA hP hD hS (mtX0_copyFrom l dC dI cI cZ a_p2 a_p2_bagKinds a_p2_manKinds a_p2_cells a_t_rows 46 s.heap.size d_p2_bags d_p2_men p2_cells t_rows x1 _ hw) (cwV 2 hts gX3_fetch_X0_copyFrom rfl rfl rfl (by decide +kernel) ⟨Nat.le_of_ble_eq_true rfl, Nat.le_of_ble_eq_true rfl⟩) 0 2 rfl rfl rfl [2, 3, 1] [0] [0, 3, 1, 2] rfl rfl rfl rfl (by decide) (fun _ => rfl) rfl rfl hl.1 rfl (Nat.le_of_ble_eq_true rfl) ⟨Nat.zero_le _, Nat.zero_le _⟩ dX3_fetch_6 (fun u H locs hw hP hD hS => ?_)
  obtain ⟨p2_cells_1, rfl⟩ : ∃ z, z = u := ⟨_, rfl⟩
  have hP : va_P (dC, dI) vwCl [(a_t, .inr (3, [.ref a_t_rows, .int d_t_keptBits])), (a_t_rows, .inl (cI, 46, .inl t_rows)), (a_p2, .inr (0, [.int d_p2_bags, .int d_p2_men, .ref a_p2_bagKinds, .ref a_p2_manKinds, .ref a_p2_cells])), (a_p2_cells, .inl (cI, 23, .inl p2_cells_1))] H := hP
  have hD : va_D A [(a_t, .inr (3, [.ref a_t_rows, .int d_t_keptBits])), (a_t_rows, .inl (cI, 46, .inl t_rows)), (a_p2, .inr (0, [.int d_p2_bags, .int d_p2_men, .ref a_p2_bagKinds, .ref a_p2_manKinds, .ref a_p2_cells])), (a_p2_cells, .inl (cI, 23, .inl p2_cells_1))] := hD
  exact hret p2_cells_1 H _ _ ls hw hP hD hS dX3_fetch_9

def wpX5_add (t_letters : Nat → Int32) (t_length : Int32) (x1 : Int32) (post : Int32 → (Nat → Int32) → Int32 → Prop) : Prop := ((x1 < 0 → post (-2 : Int32) t_letters t_length) ∧ (¬ x1 < 0 → ((x1 ≤ (255 : Int32) → ((t_length < 0 → post (-4 : Int32) t_letters t_length) ∧ (¬ t_length < 0 → ((t_length < (60 : Int32) → vp_in t_length 60 ∧ (∀ g_5 : Nat → Int32, g_5 = (upd t_letters t_length.toNatClampNeg x1) → ∀ y_6 : Int32, y_6 = (t_length + (1 : Int32)) → post y_6 g_5 y_6)) ∧ (¬ t_length < (60 : Int32) → post (-4 : Int32) t_letters t_length))))) ∧ (¬ x1 ≤ (255 : Int32) → post (-2 : Int32) t_letters t_length))))
abbrev rmX5_add : Room := { frames := 0, cells := 0, slots := 0, locals := 0 }
set_option maxHeartbeats 4000000 in
set_option maxRecDepth 100000 in
theorem mtX5_add (l : Launch) (dC : Nat → ClassId) (dI : Nat → Nat → Nat) (cI cZ : ClassId) (a_t : Nat) (a_t_letters : Nat) (sz : Nat) (t_length : Int32) (t_letters : Nat → Int32) (x1 : Int32) (post : Int32 → (Nat → Int32) → Int32 → Prop) (hw : wpX5_add t_letters t_length x1 post) : Met l yX5_add wsX5_add rmX5_add (va_Pc [.ref a_t, .int x1] (kvPre (dC, dI) cI cZ sz [(a_t, .inr (4, [.ref a_t_letters, .int t_length])), (a_t_letters, .inl (cI, 60, .inl t_letters))])) (va_Qi (fun (r : Int32) (u : (Nat → Int32) × Int32) => post r u.1 u.2) (kvB (dC, dI) (va_A [(a_t, .inr (4, [.ref a_t_letters, .int t_length])), (a_t_letters, .inl (cI, 60, .inl t_letters))] sz) (fun (u : (Nat → Int32) × Int32) => [(a_t, .inr (4, [.ref a_t_letters, .int u.2])), (a_t_letters, .inl (cI, 60, .inl u.1))])) (va_A [(a_t, .inr (4, [.ref a_t_letters, .int t_length])), (a_t_letters, .inl (cI, 60, .inl t_letters))] sz)) 0 0 (va_A [(a_t, .inr (4, [.ref a_t_letters, .int t_length])), (a_t_letters, .inl (cI, 60, .inl t_letters))] sz) := by
  refine kv_metI (y := yX5_add) (ws := wsX5_add) (rm := rmX5_add) (av := [.ref a_t, .int x1]) (sz := sz) (w := [(a_t, .inr (4, [.ref a_t_letters, .int t_length])), (a_t_letters, .inl (cI, 60, .inl t_letters))]) (cc := cX5_add) (maxL := 2) (own := RX5) (post := (fun (r : Int32) (u : (Nat → Int32) × Int32) => post r u.1 u.2)) (w1 := (fun (u : (Nat → Int32) × Int32) => [(a_t, .inr (4, [.ref a_t_letters, .int u.2])), (a_t_letters, .inl (cI, 60, .inl u.1))])) (by decide) rfl rfl (Nat.le_of_ble_eq_true rfl) ?_
  intro p e s m below meth c A Q hx hb hml hown hts hK hX hA hP hD hsz hret ls hl
  have hS : va_S A s.heap s.heap [] := va_S.rf
  have hl : lv_has ls 2 [(0, .ref a_t), (1, .int x1)] := hl
  have inX5 : ∀ w ∈ u_ws RX5 TX5 2, w ∈ wsX5_add := by decide +kernel
  have fl15 := hts (.fieldLink RX5 15 "BreathBags$Text" "length" "I") (by decide +kernel)
  have fl11 := hts (.fieldLink RX5 11 "BreathBags$Text" "letters" "[I") (by decide +kernel)
  refine lv_iload_n hx hb dX5_add_0 rfl (lv_at hl 1 rfl) ?_
  refine lv_if_lt (tgt := 11) hx hb dX5_add_1 (by decide) (fun c_1 => ?_) (fun c_1 => ?_)
  · have hw := hw.1 c_1
    refine lv_bipush (v := (-2 : Int32)) hx hb dX5_add_11 (by decide) ?_
    exact hret (-2 : Int32) (t_letters, t_length) s.heap _ _ ls hw hP hD hS dX5_add_13
  · have hw := hw.2 c_1
    refine lv_iload_n hx hb dX5_add_4 rfl (lv_at hl 1 rfl) ?_
    refine lv_sipush (v := (255 : Int32)) hx hb dX5_add_5 (by decide) ?_
    refine lv_icmp_le (tgt := 14) hx hb dX5_add_8 (by decide) (fun c_2 => ?_) (fun c_2 => ?_)
    · have hw := hw.1 c_2
      refine lv_aload_n hx hb dX5_add_14 rfl (lv_at hl 0 rfl) ?_
      refine va_get (D := (dC, dI)) (ci := 4) (v := .int t_length) (C := RX5) (T := TX5) (N := 2) hx hb hts inX5 hown hK hP 0 rfl rfl 1 (by decide) fl15 (fun _ h9 => h9) rfl dX5_add_15 ?_
      refine lv_if_lt (tgt := 33) hx hb dX5_add_18 (by decide) (fun c_3 => ?_) (fun c_3 => ?_)
      · have hw := hw.1 c_3
        refine lv_bipush (v := (-4 : Int32)) hx hb dX5_add_33 (by decide) ?_
        exact hret (-4 : Int32) (t_letters, t_length) s.heap _ _ ls hw hP hD hS dX5_add_35
      · have hw := hw.2 c_3
        refine lv_aload_n hx hb dX5_add_21 rfl (lv_at hl 0 rfl) ?_
        refine va_get (D := (dC, dI)) (ci := 4) (v := .int t_length) (C := RX5) (T := TX5) (N := 2) hx hb hts inX5 hown hK hP 0 rfl rfl 1 (by decide) fl15 (fun _ h9 => h9) rfl dX5_add_22 ?_
        refine lv_aload_n hx hb dX5_add_25 rfl (lv_at hl 0 rfl) ?_
        refine va_get (D := (dC, dI)) (ci := 4) (v := .ref a_t_letters) (C := RX5) (T := TX5) (N := 2) hx hb hts inX5 hown hK hP 0 rfl rfl 0 (by decide) fl11 (fun _ h9 => h9) rfl dX5_add_26 ?_
        refine va_alen (v := (60 : Int32)) hx hb hK hP 1 0 rfl rfl rfl dX5_add_29 ?_
        refine lv_icmp_lt (tgt := 36) hx hb dX5_add_30 (by decide) (fun c_4 => ?_) (fun c_4 => ?_)
        · have hw := hw.1 c_4
          refine lv_aload_n hx hb dX5_add_36 rfl (lv_at hl 0 rfl) ?_
          refine va_get (D := (dC, dI)) (ci := 4) (v := .ref a_t_letters) (C := RX5) (T := TX5) (N := 2) hx hb hts inX5 hown hK hP 0 rfl rfl 0 (by decide) fl11 (fun _ h9 => h9) rfl dX5_add_37 ?_
          refine lv_aload_n hx hb dX5_add_40 rfl (lv_at hl 0 rfl) ?_
          refine va_get (D := (dC, dI)) (ci := 4) (v := .int t_length) (C := RX5) (T := TX5) (N := 2) hx hb hts inX5 hown hK hP 0 rfl rfl 1 (by decide) fl15 (fun _ h9 => h9) rfl dX5_add_41 ?_
          refine lv_iload_n hx hb dX5_add_44 rfl (lv_at hl 1 rfl) ?_
          refine va_iast hx hb hK hP hD hS 1 0 rfl rfl hw.1 dX5_add_45 (fun H locs hP hD hS => ?_)
          have hw := hw.2
          have hP : va_P (dC, dI) vwCl [(a_t, .inr (4, [.ref a_t_letters, .int t_length])), (a_t_letters, .inl (cI, 60, .inl (upd t_letters t_length.toNatClampNeg x1)))] H := hP
          have hD : va_D A [(a_t, .inr (4, [.ref a_t_letters, .int t_length])), (a_t_letters, .inl (cI, 60, .inl (upd t_letters t_length.toNatClampNeg x1)))] := hD
          obtain ⟨g_5, eg_5⟩ : ∃ g : Nat → Int32, g = (upd t_letters t_length.toNatClampNeg x1) := ⟨_, rfl⟩
          have hw := hw g_5 eg_5
          rw [← eg_5] at hP hD
          refine lv_aload_n hx hb dX5_add_46 rfl (lv_at hl 0 rfl) ?_
          refine lv_dup hx hb dX5_add_47 rfl ?_
          refine va_get (D := (dC, dI)) (ci := 4) (v := .int t_length) (C := RX5) (T := TX5) (N := 2) hx hb hts inX5 hown hK hP 0 rfl rfl 1 (by decide) fl15 (fun _ h9 => h9) rfl dX5_add_48 ?_
          refine lv_iconst (v := (1 : Int32)) hx hb dX5_add_51 (by decide) ?_
          refine lv_iadd hx hb dX5_add_52 ?_
          refine lv_topi (fun y_6 ey_6 => ?_)
          have hw := hw y_6 ey_6
          refine va_put (D := (dC, dI)) (ci := 4) (v := .int y_6) (ty := .int) (C := RX5) (T := TX5) (N := 2) hx hb hts inX5 tyX5 tyX5_ok nmX5 hown hK hP hD hS 0 rfl rfl 1 (by decide) fl15 (fun _ h9 => h9) rfl (by decide +kernel) rfl rfl (Nat.le_of_ble_eq_true rfl) dX5_add_53 (fun H locs hP hD hS => ?_)
          have hP : va_P (dC, dI) vwCl [(a_t, .inr (4, [.ref a_t_letters, .int y_6])), (a_t_letters, .inl (cI, 60, .inl g_5))] H := hP
          have hD : va_D A [(a_t, .inr (4, [.ref a_t_letters, .int y_6])), (a_t_letters, .inl (cI, 60, .inl g_5))] := hD
          refine lv_aload_n hx hb dX5_add_56 rfl (lv_at hl 0 rfl) ?_
          refine va_get (D := (dC, dI)) (ci := 4) (v := .int y_6) (C := RX5) (T := TX5) (N := 2) hx hb hts inX5 hown hK hP 0 rfl rfl 1 (by decide) fl15 (fun _ h9 => h9) rfl dX5_add_57 ?_
          exact hret y_6 (g_5, y_6) H _ _ ls hw hP hD hS dX5_add_60
        · have hw := hw.2 c_4
          refine lv_bipush (v := (-4 : Int32)) hx hb dX5_add_33 (by decide) ?_
          exact hret (-4 : Int32) (t_letters, t_length) s.heap _ _ ls hw hP hD hS dX5_add_35
    · have hw := hw.2 c_2
      refine lv_bipush (v := (-2 : Int32)) hx hb dX5_add_11 (by decide) ?_
      exact hret (-2 : Int32) (t_letters, t_length) s.heap _ _ ls hw hP hD hS dX5_add_13

def wpX5_clear (t_length : Int32) (post : Int32 → Int32 → Prop) : Prop := post t_length (0 : Int32)
abbrev rmX5_clear : Room := { frames := 0, cells := 0, slots := 0, locals := 0 }
set_option maxHeartbeats 4000000 in
set_option maxRecDepth 100000 in
theorem mtX5_clear (l : Launch) (dC : Nat → ClassId) (dI : Nat → Nat → Nat) (cI cZ : ClassId) (a_t : Nat) (a_t_letters : Nat) (sz : Nat) (t_length : Int32) (post : Int32 → Int32 → Prop) (hw : wpX5_clear t_length post) : Met l yX5_clear wsX5_clear rmX5_clear (va_Pc [.ref a_t] (kvPre (dC, dI) cI cZ sz [(a_t, .inr (4, [.ref a_t_letters, .int t_length]))])) (va_Qi (fun (r : Int32) (u : Int32) => post r u) (kvB (dC, dI) (va_A [(a_t, .inr (4, [.ref a_t_letters, .int t_length]))] sz) (fun (u : Int32) => [(a_t, .inr (4, [.ref a_t_letters, .int u]))])) (va_A [(a_t, .inr (4, [.ref a_t_letters, .int t_length]))] sz)) 0 0 (va_A [(a_t, .inr (4, [.ref a_t_letters, .int t_length]))] sz) := by
  refine kv_metI (y := yX5_clear) (ws := wsX5_clear) (rm := rmX5_clear) (av := [.ref a_t]) (sz := sz) (w := [(a_t, .inr (4, [.ref a_t_letters, .int t_length]))]) (cc := cX5_clear) (maxL := 2) (own := RX5) (post := (fun (r : Int32) (u : Int32) => post r u)) (w1 := (fun (u : Int32) => [(a_t, .inr (4, [.ref a_t_letters, .int u]))])) (by decide) rfl rfl (Nat.le_of_ble_eq_true rfl) ?_
  intro p e s m below meth c A Q hx hb hml hown hts hK hX hA hP hD hsz hret ls hl
  have hS : va_S A s.heap s.heap [] := va_S.rf
  have hl : lv_has ls 2 [(0, .ref a_t)] := hl
  have inX5 : ∀ w ∈ u_ws RX5 TX5 2, w ∈ wsX5_clear := by decide +kernel
  have fl15 := hts (.fieldLink RX5 15 "BreathBags$Text" "length" "I") (by decide +kernel)
  refine lv_aload_n hx hb dX5_clear_0 rfl (lv_at hl 0 rfl) ?_
  refine va_get (D := (dC, dI)) (ci := 4) (v := .int t_length) (C := RX5) (T := TX5) (N := 2) hx hb hts inX5 hown hK hP 0 rfl rfl 1 (by decide) fl15 (fun _ h9 => h9) rfl dX5_clear_1 ?_
  refine lv_istore_n (lv' := [(1, .int t_length), (0, .ref a_t)]) hx hb dX5_clear_4 rfl hl (by decide) rfl (fun ls hl => ?_)
  refine lv_aload_n hx hb dX5_clear_5 rfl (lv_at hl 1 rfl) ?_
  refine lv_iconst (v := (0 : Int32)) hx hb dX5_clear_6 (by decide) ?_
  refine va_put (D := (dC, dI)) (ci := 4) (v := .int (0 : Int32)) (ty := .int) (C := RX5) (T := TX5) (N := 2) hx hb hts inX5 tyX5 tyX5_ok nmX5 hown hK hP hD hS 0 rfl rfl 1 (by decide) fl15 (fun _ h9 => h9) rfl (by decide +kernel) rfl rfl (Nat.le_of_ble_eq_true rfl) dX5_clear_7 (fun H locs hP hD hS => ?_)
  have hP : va_P (dC, dI) vwCl [(a_t, .inr (4, [.ref a_t_letters, .int (0 : Int32)]))] H := hP
  have hD : va_D A [(a_t, .inr (4, [.ref a_t_letters, .int (0 : Int32)]))] := hD
  refine lv_iload_n hx hb dX5_clear_10 rfl (lv_at hl 0 rfl) ?_
  exact hret t_length (0 : Int32) H _ _ ls hw hP hD hS dX5_clear_11

def wpX5_letterAt (t_letters : Nat → Int32) (t_length : Int32) (x1 : Int32) (post : Int32 → Prop) : Prop := ((x1 < 0 → post (-1 : Int32)) ∧ (¬ x1 < 0 → ((t_length ≤ x1 → post (-1 : Int32)) ∧ (¬ t_length ≤ x1 → (((60 : Int32) ≤ x1 → post (-1 : Int32)) ∧ (¬ (60 : Int32) ≤ x1 → vp_in x1 60 ∧ (post (t_letters x1.toNatClampNeg))))))))
abbrev rmX5_letterAt : Room := { frames := 0, cells := 0, slots := 0, locals := 0 }
set_option maxHeartbeats 4000000 in
set_option maxRecDepth 100000 in
theorem mtX5_letterAt (l : Launch) (dC : Nat → ClassId) (dI : Nat → Nat → Nat) (cI cZ : ClassId) (a_t : Nat) (a_t_letters : Nat) (sz : Nat) (t_length : Int32) (t_letters : Nat → Int32) (x1 : Int32) (post : Int32 → Prop) (hw : wpX5_letterAt t_letters t_length x1 post) : Met l yX5_letterAt wsX5_letterAt rmX5_letterAt (va_Pc [.ref a_t, .int x1] (kvPre (dC, dI) cI cZ sz [(a_t, .inr (4, [.ref a_t_letters, .int t_length])), (a_t_letters, .inl (cI, 60, .inl t_letters))])) (va_Qi (fun (r : Int32) (u : Unit) => post r ) (kvB (dC, dI) (va_A [(a_t, .inr (4, [.ref a_t_letters, .int t_length])), (a_t_letters, .inl (cI, 60, .inl t_letters))] sz) (fun (u : Unit) => [(a_t, .inr (4, [.ref a_t_letters, .int t_length])), (a_t_letters, .inl (cI, 60, .inl t_letters))])) (va_A [(a_t, .inr (4, [.ref a_t_letters, .int t_length])), (a_t_letters, .inl (cI, 60, .inl t_letters))] sz)) 0 0 (va_A [(a_t, .inr (4, [.ref a_t_letters, .int t_length])), (a_t_letters, .inl (cI, 60, .inl t_letters))] sz) := by
  refine kv_metI (y := yX5_letterAt) (ws := wsX5_letterAt) (rm := rmX5_letterAt) (av := [.ref a_t, .int x1]) (sz := sz) (w := [(a_t, .inr (4, [.ref a_t_letters, .int t_length])), (a_t_letters, .inl (cI, 60, .inl t_letters))]) (cc := cX5_letterAt) (maxL := 2) (own := RX5) (post := (fun (r : Int32) (u : Unit) => post r )) (w1 := (fun (u : Unit) => [(a_t, .inr (4, [.ref a_t_letters, .int t_length])), (a_t_letters, .inl (cI, 60, .inl t_letters))])) (by decide) rfl rfl (Nat.le_of_ble_eq_true rfl) ?_
  intro p e s m below meth c A Q hx hb hml hown hts hK hX hA hP hD hsz hret ls hl
  have hS : va_S A s.heap s.heap [] := va_S.rf
  have hl : lv_has ls 2 [(0, .ref a_t), (1, .int x1)] := hl
  have inX5 : ∀ w ∈ u_ws RX5 TX5 2, w ∈ wsX5_letterAt := by decide +kernel
  have fl15 := hts (.fieldLink RX5 15 "BreathBags$Text" "length" "I") (by decide +kernel)
  have fl11 := hts (.fieldLink RX5 11 "BreathBags$Text" "letters" "[I") (by decide +kernel)
  refine lv_iload_n hx hb dX5_letterAt_0 rfl (lv_at hl 1 rfl) ?_
  refine lv_if_lt (tgt := 30) hx hb dX5_letterAt_1 (by decide) (fun c_1 => ?_) (fun c_1 => ?_)
  · have hw := hw.1 c_1
    refine lv_iconst (v := (-1 : Int32)) hx hb dX5_letterAt_30 (by decide) ?_
    exact hret (-1 : Int32) () s.heap _ _ ls hw hP hD hS dX5_letterAt_31
  · have hw := hw.2 c_1
    refine lv_iload_n hx hb dX5_letterAt_4 rfl (lv_at hl 1 rfl) ?_
    refine lv_aload_n hx hb dX5_letterAt_5 rfl (lv_at hl 0 rfl) ?_
    refine va_get (D := (dC, dI)) (ci := 4) (v := .int t_length) (C := RX5) (T := TX5) (N := 2) hx hb hts inX5 hown hK hP 0 rfl rfl 1 (by decide) fl15 (fun _ h9 => h9) rfl dX5_letterAt_6 ?_
    refine lv_icmp_ge (tgt := 30) hx hb dX5_letterAt_9 (by decide) (fun c_2 => ?_) (fun c_2 => ?_)
    · have hw := hw.1 c_2
      refine lv_iconst (v := (-1 : Int32)) hx hb dX5_letterAt_30 (by decide) ?_
      exact hret (-1 : Int32) () s.heap _ _ ls hw hP hD hS dX5_letterAt_31
    · have hw := hw.2 c_2
      refine lv_iload_n hx hb dX5_letterAt_12 rfl (lv_at hl 1 rfl) ?_
      refine lv_aload_n hx hb dX5_letterAt_13 rfl (lv_at hl 0 rfl) ?_
      refine va_get (D := (dC, dI)) (ci := 4) (v := .ref a_t_letters) (C := RX5) (T := TX5) (N := 2) hx hb hts inX5 hown hK hP 0 rfl rfl 0 (by decide) fl11 (fun _ h9 => h9) rfl dX5_letterAt_14 ?_
      refine va_alen (v := (60 : Int32)) hx hb hK hP 1 0 rfl rfl rfl dX5_letterAt_17 ?_
      refine lv_icmp_ge (tgt := 30) hx hb dX5_letterAt_18 (by decide) (fun c_3 => ?_) (fun c_3 => ?_)
      · have hw := hw.1 c_3
        refine lv_iconst (v := (-1 : Int32)) hx hb dX5_letterAt_30 (by decide) ?_
        exact hret (-1 : Int32) () s.heap _ _ ls hw hP hD hS dX5_letterAt_31
      · have hw := hw.2 c_3
        refine lv_aload_n hx hb dX5_letterAt_21 rfl (lv_at hl 0 rfl) ?_
        refine va_get (D := (dC, dI)) (ci := 4) (v := .ref a_t_letters) (C := RX5) (T := TX5) (N := 2) hx hb hts inX5 hown hK hP 0 rfl rfl 0 (by decide) fl11 (fun _ h9 => h9) rfl dX5_letterAt_22 ?_
        refine lv_iload_n hx hb dX5_letterAt_25 rfl (lv_at hl 1 rfl) ?_
        refine va_iald hx hb hK hP 1 0 rfl rfl hw.1 dX5_letterAt_26 ?_
        have hw := hw.2
        refine lv_goto (tgt := 31) hx hb dX5_letterAt_27 (by decide) ?_
        exact hret (t_letters x1.toNatClampNeg) () s.heap _ _ ls hw hP hD hS dX5_letterAt_31

def wpX5_figureAt (t_letters : Nat → Int32) (t_length : Int32) (x1 : Int32) (post : Int32 → Prop) : Prop := wpX5_letterAt t_letters t_length x1 (fun r_1 => ((r_1 < (48 : Int32) → post (-1 : Int32)) ∧ (¬ r_1 < (48 : Int32) → (((57 : Int32) < r_1 → post (-1 : Int32)) ∧ (¬ (57 : Int32) < r_1 → post (r_1 - (48 : Int32)))))))
abbrev rmX5_figureAt : Room := { frames := 1, cells := 0, slots := 0, locals := 21 }
set_option maxHeartbeats 4000000 in
set_option maxRecDepth 100000 in
theorem mtX5_figureAt (l : Launch) (dC : Nat → ClassId) (dI : Nat → Nat → Nat) (cI cZ : ClassId) (a_t : Nat) (a_t_letters : Nat) (sz : Nat) (t_length : Int32) (t_letters : Nat → Int32) (x1 : Int32) (post : Int32 → Prop) (hw : wpX5_figureAt t_letters t_length x1 post) : Met l yX5_figureAt wsX5_figureAt rmX5_figureAt (va_Pc [.ref a_t, .int x1] (kvPre (dC, dI) cI cZ sz [(a_t, .inr (4, [.ref a_t_letters, .int t_length])), (a_t_letters, .inl (cI, 60, .inl t_letters))])) (va_Qi (fun (r : Int32) (u : Unit) => post r ) (kvB (dC, dI) (va_A [(a_t, .inr (4, [.ref a_t_letters, .int t_length])), (a_t_letters, .inl (cI, 60, .inl t_letters))] sz) (fun (u : Unit) => [(a_t, .inr (4, [.ref a_t_letters, .int t_length])), (a_t_letters, .inl (cI, 60, .inl t_letters))])) (va_A [(a_t, .inr (4, [.ref a_t_letters, .int t_length])), (a_t_letters, .inl (cI, 60, .inl t_letters))] sz)) 0 0 (va_A [(a_t, .inr (4, [.ref a_t_letters, .int t_length])), (a_t_letters, .inl (cI, 60, .inl t_letters))] sz) := by
  refine kv_metI (y := yX5_figureAt) (ws := wsX5_figureAt) (rm := rmX5_figureAt) (av := [.ref a_t, .int x1]) (sz := sz) (w := [(a_t, .inr (4, [.ref a_t_letters, .int t_length])), (a_t_letters, .inl (cI, 60, .inl t_letters))]) (cc := cX5_figureAt) (maxL := 3) (own := RX5) (post := (fun (r : Int32) (u : Unit) => post r )) (w1 := (fun (u : Unit) => [(a_t, .inr (4, [.ref a_t_letters, .int t_length])), (a_t_letters, .inl (cI, 60, .inl t_letters))])) (by decide) rfl rfl (Nat.le_of_ble_eq_true rfl) ?_
  intro p e s m below meth c A Q hx hb hml hown hts hK hX hA hP hD hsz hret ls hl
  have hS : va_S A s.heap s.heap [] := va_S.rf
  have hl : lv_has ls 3 [(0, .ref a_t), (1, .int x1)] := hl
  refine lv_aload_n hx hb dX5_figureAt_0 rfl (lv_at hl 0 rfl) ?_
  refine lv_iload_n hx hb dX5_figureAt_1 rfl (lv_at hl 1 rfl) ?_
  refine kv_callVi (wr := []) (wn := (fun (u : Unit) => [(a_t, .inr (4, [.ref a_t_letters, .int t_length])), (a_t_letters, .inl (cI, 60, .inl t_letters))])) (As := [.int x1]) (rest := []) ⟨hx, hb, hml, hown, hts⟩ hK hX hA hP hD hS (mtX5_letterAt l dC dI cI cZ a_t a_t_letters s.heap.size t_length t_letters x1 _ hw) (cwV 1 hts gX5_figureAt_X5_letterAt rfl rfl rfl (by decide +kernel) ⟨Nat.le_of_ble_eq_true rfl, Nat.le_of_ble_eq_true rfl⟩) 4 0 rfl rfl rfl [0, 1] [] [0, 1] rfl rfl rfl rfl (by decide) (fun _ => rfl) rfl rfl hl.1 rfl (Nat.le_of_ble_eq_true rfl) ⟨Nat.zero_le _, Nat.zero_le _⟩ dX5_figureAt_2 (fun r_1 u H locs hw hP hD hS => ?_)
  refine lv_istore_n (lv' := [(2, .int r_1), (0, .ref a_t), (1, .int x1)]) hx hb dX5_figureAt_5 rfl hl (by decide) rfl (fun ls hl => ?_)
  refine lv_iload_n hx hb dX5_figureAt_6 rfl (lv_at hl 0 rfl) ?_
  refine lv_bipush (v := (48 : Int32)) hx hb dX5_figureAt_7 (by decide) ?_
  refine lv_icmp_lt (tgt := 25) hx hb dX5_figureAt_9 (by decide) (fun c_2 => ?_) (fun c_2 => ?_)
  · have hw := hw.1 c_2
    refine lv_iconst (v := (-1 : Int32)) hx hb dX5_figureAt_25 (by decide) ?_
    exact hret (-1 : Int32) () H _ _ ls hw hP hD hS dX5_figureAt_26
  · have hw := hw.2 c_2
    refine lv_iload_n hx hb dX5_figureAt_12 rfl (lv_at hl 0 rfl) ?_
    refine lv_bipush (v := (57 : Int32)) hx hb dX5_figureAt_13 (by decide) ?_
    refine lv_icmp_gt (tgt := 25) hx hb dX5_figureAt_15 (by decide) (fun c_3 => ?_) (fun c_3 => ?_)
    · have hw := hw.1 c_3
      refine lv_iconst (v := (-1 : Int32)) hx hb dX5_figureAt_25 (by decide) ?_
      exact hret (-1 : Int32) () H _ _ ls hw hP hD hS dX5_figureAt_26
    · have hw := hw.2 c_3
      refine lv_iload_n hx hb dX5_figureAt_18 rfl (lv_at hl 0 rfl) ?_
      refine lv_bipush (v := (48 : Int32)) hx hb dX5_figureAt_19 (by decide) ?_
      refine lv_isub hx hb dX5_figureAt_21 ?_
      refine lv_goto (tgt := 26) hx hb dX5_figureAt_22 (by decide) ?_
      exact hret (r_1 - (48 : Int32)) () H _ _ ls hw hP hD hS dX5_figureAt_26

def wpX5_tellBreath_J65 (t_letters : Nat → Int32) (t_length : Int32) (p2_bags : Int32) (p2_men : Int32) (x1 : Int32) (post : Int32 → (Nat → Int32) → Prop) (p2_cells_65 : Nat → Int32) : Prop := post (x1 + (2 : Int32)) p2_cells_65
def wpX5_tellBreath (t_letters : Nat → Int32) (t_length : Int32) (p2_bags : Int32) (p2_men : Int32) (p2_cells : Nat → Int32) (x1 : Int32) (post : Int32 → (Nat → Int32) → Prop) : Prop := ((p2_men = 0 → post x1 p2_cells) ∧ (¬ p2_men = 0 → wpX0_hasRoom p2_bags p2_cells (fun r_2 => ((¬ r_2 = 0 → wpX5_figureAt t_letters t_length (x1 + (1 : Int32)) (fun r_4 => wpX0_isMan p2_men r_4 (fun r_5 => ((¬ r_5 = 0 → wpX5_figureAt t_letters t_length (x1 + (2 : Int32)) (fun r_7 => wpX0_isBag p2_bags r_7 (fun r_8 => ((r_8 = 0 → wpX5_tellBreath_J65 t_letters t_length p2_bags p2_men x1 post p2_cells) ∧ (¬ r_8 = 0 → wpX0_breathsIn p2_bags p2_cells r_7 (fun r_10 => ((r_10 < (9 : Int32) → wpX0_lay p2_bags p2_cells r_4 r_7 (fun p2_cells_12 => post (-9 : Int32) p2_cells_12)) ∧ (¬ r_10 < (9 : Int32) → wpX5_tellBreath_J65 t_letters t_length p2_bags p2_men x1 post p2_cells)))))))) ∧ (r_5 = 0 → post (x1 + (1 : Int32)) p2_cells))))) ∧ (r_2 = 0 → post x1 p2_cells)))))
abbrev rmX5_tellBreath : Room := { frames := 3, cells := 0, slots := 0, locals := 65 }
set_option maxHeartbeats 4000000 in
set_option maxRecDepth 100000 in
theorem mtX5_tellBreath (l : Launch) (dC : Nat → ClassId) (dI : Nat → Nat → Nat) (cI cZ : ClassId) (a_t : Nat) (a_t_letters : Nat) (a_p2 : Nat) (a_p2_bagKinds : Nat) (a_p2_manKinds : Nat) (a_p2_cells : Nat) (sz : Nat) (t_length : Int32) (t_letters : Nat → Int32) (p2_bags : Int32) (p2_men : Int32) (p2_cells : Nat → Int32) (x1 : Int32) (post : Int32 → (Nat → Int32) → Prop) (hw : wpX5_tellBreath t_letters t_length p2_bags p2_men p2_cells x1 post) : Met l yX5_tellBreath wsX5_tellBreath rmX5_tellBreath (va_Pc [.ref a_t, .int x1, .ref a_p2] (kvPre (dC, dI) cI cZ sz [(a_t, .inr (4, [.ref a_t_letters, .int t_length])), (a_t_letters, .inl (cI, 60, .inl t_letters)), (a_p2, .inr (0, [.int p2_bags, .int p2_men, .ref a_p2_bagKinds, .ref a_p2_manKinds, .ref a_p2_cells])), (a_p2_cells, .inl (cI, 23, .inl p2_cells))])) (va_Qi (fun (r : Int32) (u : (Nat → Int32)) => post r u) (kvB (dC, dI) (va_A [(a_t, .inr (4, [.ref a_t_letters, .int t_length])), (a_t_letters, .inl (cI, 60, .inl t_letters)), (a_p2, .inr (0, [.int p2_bags, .int p2_men, .ref a_p2_bagKinds, .ref a_p2_manKinds, .ref a_p2_cells])), (a_p2_cells, .inl (cI, 23, .inl p2_cells))] sz) (fun (u : (Nat → Int32)) => [(a_t, .inr (4, [.ref a_t_letters, .int t_length])), (a_t_letters, .inl (cI, 60, .inl t_letters)), (a_p2, .inr (0, [.int p2_bags, .int p2_men, .ref a_p2_bagKinds, .ref a_p2_manKinds, .ref a_p2_cells])), (a_p2_cells, .inl (cI, 23, .inl u))])) (va_A [(a_t, .inr (4, [.ref a_t_letters, .int t_length])), (a_t_letters, .inl (cI, 60, .inl t_letters)), (a_p2, .inr (0, [.int p2_bags, .int p2_men, .ref a_p2_bagKinds, .ref a_p2_manKinds, .ref a_p2_cells])), (a_p2_cells, .inl (cI, 23, .inl p2_cells))] sz)) 0 0 (va_A [(a_t, .inr (4, [.ref a_t_letters, .int t_length])), (a_t_letters, .inl (cI, 60, .inl t_letters)), (a_p2, .inr (0, [.int p2_bags, .int p2_men, .ref a_p2_bagKinds, .ref a_p2_manKinds, .ref a_p2_cells])), (a_p2_cells, .inl (cI, 23, .inl p2_cells))] sz) := by
  refine kv_metI (y := yX5_tellBreath) (ws := wsX5_tellBreath) (rm := rmX5_tellBreath) (av := [.ref a_t, .int x1, .ref a_p2]) (sz := sz) (w := [(a_t, .inr (4, [.ref a_t_letters, .int t_length])), (a_t_letters, .inl (cI, 60, .inl t_letters)), (a_p2, .inr (0, [.int p2_bags, .int p2_men, .ref a_p2_bagKinds, .ref a_p2_manKinds, .ref a_p2_cells])), (a_p2_cells, .inl (cI, 23, .inl p2_cells))]) (cc := cX5_tellBreath) (maxL := 5) (own := RX5) (post := (fun (r : Int32) (u : (Nat → Int32)) => post r u)) (w1 := (fun (u : (Nat → Int32)) => [(a_t, .inr (4, [.ref a_t_letters, .int t_length])), (a_t_letters, .inl (cI, 60, .inl t_letters)), (a_p2, .inr (0, [.int p2_bags, .int p2_men, .ref a_p2_bagKinds, .ref a_p2_manKinds, .ref a_p2_cells])), (a_p2_cells, .inl (cI, 23, .inl u))])) (by decide) rfl rfl (Nat.le_of_ble_eq_true rfl) ?_
  intro p e s m below meth c A Q hx hb hml hown hts hK hX hA hP hD hsz hret ls hl
  have hS : va_S A s.heap s.heap [] := va_S.rf
  have hl : lv_has ls 5 [(0, .ref a_t), (1, .int x1), (2, .ref a_p2)] := hl
  have inX0 : ∀ w ∈ u_ws RX0 TX0 5, w ∈ wsX5_tellBreath := by decide +kernel
  have B65 : ∀ (p2_cells_65 : Nat → Int32) (H : Heap) (locs : List Loc) (ls : Array Slot), wpX5_tellBreath_J65 t_letters t_length p2_bags p2_men x1 post p2_cells_65 → va_P (dC, dI) vwCl [(a_t, .inr (4, [.ref a_t_letters, .int t_length])), (a_t_letters, .inl (cI, 60, .inl t_letters)), (a_p2, .inr (0, [.int p2_bags, .int p2_men, .ref a_p2_bagKinds, .ref a_p2_manKinds, .ref a_p2_cells])), (a_p2_cells, .inl (cI, 23, .inl p2_cells_65))] H → va_D A [(a_t, .inr (4, [.ref a_t_letters, .int t_length])), (a_t_letters, .inl (cI, 60, .inl t_letters)), (a_p2, .inr (0, [.int p2_bags, .int p2_men, .ref a_p2_bagKinds, .ref a_p2_manKinds, .ref a_p2_cells])), (a_p2_cells, .inl (cI, 23, .inl p2_cells_65))] → va_S A s.heap H locs → lv_has ls 5 [(1, .int x1)] → W p l e rmX5_tellBreath s m [.ref a_t, .int x1, .ref a_p2].toArray below meth c H locs 0 0 Q (F0 m 65 ls []) := by
    intro p2_cells_65 H locs ls hw hP hD hS hl
    refine lv_iload_n hx hb dX5_tellBreath_65 rfl (lv_at hl 0 rfl) ?_
    refine lv_iconst (v := (2 : Int32)) hx hb dX5_tellBreath_66 (by decide) ?_
    refine lv_iadd hx hb dX5_tellBreath_67 ?_
    exact hret (x1 + (2 : Int32)) p2_cells_65 H _ _ ls hw hP hD hS dX5_tellBreath_68
  refine lv_aload_n hx hb dX5_tellBreath_0 rfl (lv_at hl 2 rfl) ?_
  refine va_getN (D := (dC, dI)) (ci := 0) (v := .int p2_men) (C := RX0) (T := TX0) (N := 5) hx hb hts inX0 hown hK hP 2 rfl rfl 1 (by decide) (va_Nw.use rfl hX.1.2.2.2.2.2.2.1) (fun _ h9 => h9) rfl dX5_tellBreath_1 ?_
  refine lv_if_eq (tgt := 14) hx hb dX5_tellBreath_4 (by decide) (fun c_1 => ?_) (fun c_1 => ?_)
  · have hw := hw.1 c_1
    refine lv_iload_n hx hb dX5_tellBreath_14 rfl (lv_at hl 1 rfl) ?_
    exact hret x1 p2_cells s.heap _ _ ls hw hP hD hS dX5_tellBreath_15
  · have hw := hw.2 c_1
    refine lv_aload_n hx hb dX5_tellBreath_7 rfl (lv_at hl 2 rfl) ?_
    refine kv_callVi (wr := [(a_t, .inr (4, [.ref a_t_letters, .int t_length])), (a_t_letters, .inl (cI, 60, .inl t_letters))]) (wn := (fun (u : Unit) => [(a_t, .inr (4, [.ref a_t_letters, .int t_length])), (a_t_letters, .inl (cI, 60, .inl t_letters)), (a_p2, .inr (0, [.int p2_bags, .int p2_men, .ref a_p2_bagKinds, .ref a_p2_manKinds, .ref a_p2_cells])), (a_p2_cells, .inl (cI, 23, .inl p2_cells))])) (As := []) (rest := []) ⟨hx, hb, hml, hown, hts⟩ hK hX hA hP hD hS (mtX0_hasRoom l dC dI cI cZ a_p2 a_p2_bagKinds a_p2_manKinds a_p2_cells s.heap.size p2_bags p2_men p2_cells _ hw) (cwV 0 hts gX5_tellBreath_X0_hasRoom rfl rfl rfl (by decide +kernel) ⟨Nat.le_of_ble_eq_true rfl, Nat.le_of_ble_eq_true rfl⟩) 0 2 rfl rfl rfl [2, 3] [0, 1] [0, 1, 2, 3] rfl rfl rfl rfl (by decide) (fun _ => rfl) rfl rfl hl.1 rfl (Nat.le_of_ble_eq_true rfl) ⟨Nat.zero_le _, Nat.zero_le _⟩ dX5_tellBreath_8 (fun r_2 u H locs hw hP hD hS => ?_)
    obtain ⟨hb_r_2, hw⟩ := hw
    refine lv_if_ne (tgt := 16) hx hb dX5_tellBreath_11 (by decide) (fun c_3 => ?_) (fun c_3 => ?_)
    · have hw := hw.1 c_3
      refine lv_aload_n hx hb dX5_tellBreath_16 rfl (lv_at hl 0 rfl) ?_
      refine lv_iload_n hx hb dX5_tellBreath_17 rfl (lv_at hl 1 rfl) ?_
      refine lv_iconst (v := (1 : Int32)) hx hb dX5_tellBreath_18 (by decide) ?_
      refine lv_iadd hx hb dX5_tellBreath_19 ?_
      refine kv_callVi (wr := [(a_p2, .inr (0, [.int p2_bags, .int p2_men, .ref a_p2_bagKinds, .ref a_p2_manKinds, .ref a_p2_cells])), (a_p2_cells, .inl (cI, 23, .inl p2_cells))]) (wn := (fun (u : Unit) => [(a_t, .inr (4, [.ref a_t_letters, .int t_length])), (a_t_letters, .inl (cI, 60, .inl t_letters)), (a_p2, .inr (0, [.int p2_bags, .int p2_men, .ref a_p2_bagKinds, .ref a_p2_manKinds, .ref a_p2_cells])), (a_p2_cells, .inl (cI, 23, .inl p2_cells))])) (As := [.int (x1 + (1 : Int32))]) (rest := []) ⟨hx, hb, hml, hown, hts⟩ hK hX hA hP hD hS (mtX5_figureAt l dC dI cI cZ a_t a_t_letters H.size t_length t_letters (x1 + (1 : Int32)) _ hw) (cwV 1 hts gX5_tellBreath_X5_figureAt rfl rfl rfl (by decide +kernel) ⟨Nat.le_of_ble_eq_true rfl, Nat.le_of_ble_eq_true rfl⟩) 4 0 rfl rfl rfl [0, 1] [2, 3] [2, 3, 0, 1] rfl rfl rfl rfl (by decide) (fun _ => rfl) rfl rfl hl.1 rfl (Nat.le_of_ble_eq_true rfl) ⟨Nat.zero_le _, Nat.zero_le _⟩ dX5_tellBreath_20 (fun r_4 u H locs hw hP hD hS => ?_)
      refine lv_istore_n (lv' := [(3, .int r_4), (0, .ref a_t), (1, .int x1), (2, .ref a_p2)]) hx hb dX5_tellBreath_23 rfl hl (by decide) rfl (fun ls hl => ?_)
      refine lv_aload_n hx hb dX5_tellBreath_24 rfl (lv_at hl 3 rfl) ?_
      refine lv_iload_n hx hb dX5_tellBreath_25 rfl (lv_at hl 0 rfl) ?_
      refine kv_callVi (wr := [(a_t, .inr (4, [.ref a_t_letters, .int t_length])), (a_t_letters, .inl (cI, 60, .inl t_letters)), (a_p2_cells, .inl (cI, 23, .inl p2_cells))]) (wn := (fun (u : Unit) => [(a_t, .inr (4, [.ref a_t_letters, .int t_length])), (a_t_letters, .inl (cI, 60, .inl t_letters)), (a_p2, .inr (0, [.int p2_bags, .int p2_men, .ref a_p2_bagKinds, .ref a_p2_manKinds, .ref a_p2_cells])), (a_p2_cells, .inl (cI, 23, .inl p2_cells))])) (As := [.int r_4]) (rest := []) ⟨hx, hb, hml, hown, hts⟩ hK hX hA hP hD hS (mtX0_isMan l dC dI cI cZ a_p2 a_p2_bagKinds a_p2_manKinds a_p2_cells H.size p2_bags p2_men r_4 _ hw) (cwV 1 hts gX5_tellBreath_X0_isMan rfl rfl rfl (by decide +kernel) ⟨Nat.le_of_ble_eq_true rfl, Nat.le_of_ble_eq_true rfl⟩) 0 2 rfl rfl rfl [2] [0, 1, 3] [0, 1, 3, 2] rfl rfl rfl rfl (by decide) (fun _ => rfl) rfl rfl hl.1 rfl (Nat.le_of_ble_eq_true rfl) ⟨Nat.zero_le _, Nat.zero_le _⟩ dX5_tellBreath_26 (fun r_5 u H locs hw hP hD hS => ?_)
      obtain ⟨hb_r_5, hw⟩ := hw
      refine lv_if_ne (tgt := 36) hx hb dX5_tellBreath_29 (by decide) (fun c_6 => ?_) (fun c_6 => ?_)
      · have hw := hw.1 c_6
        refine lv_aload_n hx hb dX5_tellBreath_36 rfl (lv_at hl 1 rfl) ?_
        refine lv_iload_n hx hb dX5_tellBreath_37 rfl (lv_at hl 2 rfl) ?_
        refine lv_iconst (v := (2 : Int32)) hx hb dX5_tellBreath_38 (by decide) ?_
        refine lv_iadd hx hb dX5_tellBreath_39 ?_
        refine kv_callVi (wr := [(a_p2, .inr (0, [.int p2_bags, .int p2_men, .ref a_p2_bagKinds, .ref a_p2_manKinds, .ref a_p2_cells])), (a_p2_cells, .inl (cI, 23, .inl p2_cells))]) (wn := (fun (u : Unit) => [(a_t, .inr (4, [.ref a_t_letters, .int t_length])), (a_t_letters, .inl (cI, 60, .inl t_letters)), (a_p2, .inr (0, [.int p2_bags, .int p2_men, .ref a_p2_bagKinds, .ref a_p2_manKinds, .ref a_p2_cells])), (a_p2_cells, .inl (cI, 23, .inl p2_cells))])) (As := [.int (x1 + (2 : Int32))]) (rest := []) ⟨hx, hb, hml, hown, hts⟩ hK hX hA hP hD hS (mtX5_figureAt l dC dI cI cZ a_t a_t_letters H.size t_length t_letters (x1 + (2 : Int32)) _ hw) (cwV 1 hts gX5_tellBreath_X5_figureAt rfl rfl rfl (by decide +kernel) ⟨Nat.le_of_ble_eq_true rfl, Nat.le_of_ble_eq_true rfl⟩) 4 0 rfl rfl rfl [0, 1] [2, 3] [2, 3, 0, 1] rfl rfl rfl rfl (by decide) (fun _ => rfl) rfl rfl hl.1 rfl (Nat.le_of_ble_eq_true rfl) ⟨Nat.zero_le _, Nat.zero_le _⟩ dX5_tellBreath_40 (fun r_7 u H locs hw hP hD hS => ?_)
        refine lv_istore (lv' := [(4, .int r_7), (3, .int r_4), (0, .ref a_t), (1, .int x1), (2, .ref a_p2)]) hx hb dX5_tellBreath_43 hl (by decide) rfl (fun ls hl => ?_)
        refine lv_aload_n hx hb dX5_tellBreath_45 rfl (lv_at hl 4 rfl) ?_
        refine lv_iload hx hb dX5_tellBreath_46 (lv_at hl 0 rfl) ?_
        refine kv_callVi (wr := [(a_t, .inr (4, [.ref a_t_letters, .int t_length])), (a_t_letters, .inl (cI, 60, .inl t_letters)), (a_p2_cells, .inl (cI, 23, .inl p2_cells))]) (wn := (fun (u : Unit) => [(a_t, .inr (4, [.ref a_t_letters, .int t_length])), (a_t_letters, .inl (cI, 60, .inl t_letters)), (a_p2, .inr (0, [.int p2_bags, .int p2_men, .ref a_p2_bagKinds, .ref a_p2_manKinds, .ref a_p2_cells])), (a_p2_cells, .inl (cI, 23, .inl p2_cells))])) (As := [.int r_7]) (rest := []) ⟨hx, hb, hml, hown, hts⟩ hK hX hA hP hD hS (mtX0_isBag l dC dI cI cZ a_p2 a_p2_bagKinds a_p2_manKinds a_p2_cells H.size p2_bags p2_men r_7 _ hw) (cwV 1 hts gX5_tellBreath_X0_isBag rfl rfl rfl (by decide +kernel) ⟨Nat.le_of_ble_eq_true rfl, Nat.le_of_ble_eq_true rfl⟩) 0 2 rfl rfl rfl [2] [0, 1, 3] [0, 1, 3, 2] rfl rfl rfl rfl (by decide) (fun _ => rfl) rfl rfl hl.1 rfl (Nat.le_of_ble_eq_true rfl) ⟨Nat.zero_le _, Nat.zero_le _⟩ dX5_tellBreath_48 (fun r_8 u H locs hw hP hD hS => ?_)
        obtain ⟨hb_r_8, hw⟩ := hw
        refine lv_if_eq (tgt := 65) hx hb dX5_tellBreath_51 (by decide) (fun c_9 => ?_) (fun c_9 => ?_)
        · have hw := hw.1 c_9
          exact B65 p2_cells H _ ls hw hP hD hS (lv_sub hl [3] rfl)
        · have hw := hw.2 c_9
          refine lv_aload_n hx hb dX5_tellBreath_54 rfl (lv_at hl 4 rfl) ?_
          refine lv_iload hx hb dX5_tellBreath_55 (lv_at hl 0 rfl) ?_
          refine kv_callVi (wr := [(a_t, .inr (4, [.ref a_t_letters, .int t_length])), (a_t_letters, .inl (cI, 60, .inl t_letters))]) (wn := (fun (u : Unit) => [(a_t, .inr (4, [.ref a_t_letters, .int t_length])), (a_t_letters, .inl (cI, 60, .inl t_letters)), (a_p2, .inr (0, [.int p2_bags, .int p2_men, .ref a_p2_bagKinds, .ref a_p2_manKinds, .ref a_p2_cells])), (a_p2_cells, .inl (cI, 23, .inl p2_cells))])) (As := [.int r_7]) (rest := []) ⟨hx, hb, hml, hown, hts⟩ hK hX hA hP hD hS (mtX0_breathsIn l dC dI cI cZ a_p2 a_p2_bagKinds a_p2_manKinds a_p2_cells H.size p2_bags p2_men p2_cells r_7 _ hw) (cwV 1 hts gX5_tellBreath_X0_breathsIn rfl rfl rfl (by decide +kernel) ⟨Nat.le_of_ble_eq_true rfl, Nat.le_of_ble_eq_true rfl⟩) 0 2 rfl rfl rfl [2, 3] [0, 1] [0, 1, 2, 3] rfl rfl rfl rfl (by decide) (fun _ => rfl) rfl rfl hl.1 rfl (Nat.le_of_ble_eq_true rfl) ⟨Nat.zero_le _, Nat.zero_le _⟩ dX5_tellBreath_57 (fun r_10 u H locs hw hP hD hS => ?_)
          refine lv_bipush (v := (9 : Int32)) hx hb dX5_tellBreath_60 (by decide) ?_
          refine lv_icmp_lt (tgt := 69) hx hb dX5_tellBreath_62 (by decide) (fun c_11 => ?_) (fun c_11 => ?_)
          · have hw := hw.1 c_11
            refine lv_aload_n hx hb dX5_tellBreath_69 rfl (lv_at hl 4 rfl) ?_
            refine lv_iload_n hx hb dX5_tellBreath_70 rfl (lv_at hl 1 rfl) ?_
            refine lv_iload hx hb dX5_tellBreath_71 (lv_at hl 0 rfl) ?_
            refine kv_callVv (wr := [(a_t, .inr (4, [.ref a_t_letters, .int t_length])), (a_t_letters, .inl (cI, 60, .inl t_letters))]) (wn := (fun (u : (Nat → Int32)) => [(a_t, .inr (4, [.ref a_t_letters, .int t_length])), (a_t_letters, .inl (cI, 60, .inl t_letters)), (a_p2, .inr (0, [.int p2_bags, .int p2_men, .ref a_p2_bagKinds, .ref a_p2_manKinds, .ref a_p2_cells])), (a_p2_cells, .inl (cI, 23, .inl u))])) (As := [.int r_4, .int r_7]) (rest := []) ⟨hx, hb, hml, hown, hts⟩ hK hX hA hP hD hS (mtX0_lay l dC dI cI cZ a_p2 a_p2_bagKinds a_p2_manKinds a_p2_cells H.size p2_bags p2_men p2_cells r_4 r_7 _ hw) (cwV 2 hts gX5_tellBreath_X0_lay rfl rfl rfl (by decide +kernel) ⟨Nat.le_of_ble_eq_true rfl, Nat.le_of_ble_eq_true rfl⟩) 0 2 rfl rfl rfl [2, 3] [0, 1] [0, 1, 2, 3] rfl rfl rfl rfl (by decide) (fun _ => rfl) rfl rfl hl.1 rfl (Nat.le_of_ble_eq_true rfl) ⟨Nat.zero_le _, Nat.zero_le _⟩ dX5_tellBreath_73 (fun u H locs hw hP hD hS => ?_)
            obtain ⟨p2_cells_12, rfl⟩ : ∃ z, z = u := ⟨_, rfl⟩
            have hP : va_P (dC, dI) vwCl [(a_t, .inr (4, [.ref a_t_letters, .int t_length])), (a_t_letters, .inl (cI, 60, .inl t_letters)), (a_p2, .inr (0, [.int p2_bags, .int p2_men, .ref a_p2_bagKinds, .ref a_p2_manKinds, .ref a_p2_cells])), (a_p2_cells, .inl (cI, 23, .inl p2_cells_12))] H := hP
            have hD : va_D A [(a_t, .inr (4, [.ref a_t_letters, .int t_length])), (a_t_letters, .inl (cI, 60, .inl t_letters)), (a_p2, .inr (0, [.int p2_bags, .int p2_men, .ref a_p2_bagKinds, .ref a_p2_manKinds, .ref a_p2_cells])), (a_p2_cells, .inl (cI, 23, .inl p2_cells_12))] := hD
            refine lv_bipush (v := (-9 : Int32)) hx hb dX5_tellBreath_76 (by decide) ?_
            exact hret (-9 : Int32) p2_cells_12 H _ _ ls hw hP hD hS dX5_tellBreath_78
          · have hw := hw.2 c_11
            exact B65 p2_cells H _ ls hw hP hD hS (lv_sub hl [3] rfl)
      · have hw := hw.2 c_6
        refine lv_iload_n hx hb dX5_tellBreath_32 rfl (lv_at hl 2 rfl) ?_
        refine lv_iconst (v := (1 : Int32)) hx hb dX5_tellBreath_33 (by decide) ?_
        refine lv_iadd hx hb dX5_tellBreath_34 ?_
        exact hret (x1 + (1 : Int32)) p2_cells H _ _ ls hw hP hD hS dX5_tellBreath_35
    · have hw := hw.2 c_3
      refine lv_iload_n hx hb dX5_tellBreath_14 rfl (lv_at hl 1 rfl) ?_
      exact hret x1 p2_cells H _ _ ls hw hP hD hS dX5_tellBreath_15

def wpX5_tellMan_J46 (t_letters : Nat → Int32) (t_length : Int32) (x1 : Int32) (post : Int32 → Int32 → (Nat → Int32) → (Nat → Int32) → Prop) (p2_men_46 : Int32) (p2_manKinds_46 : Nat → Int32) (p2_cells_46 : Nat → Int32) : Prop := post (x1 + (2 : Int32)) p2_men_46 p2_manKinds_46 p2_cells_46
def wpX5_tellMan (t_letters : Nat → Int32) (t_length : Int32) (p2_men : Int32) (p2_manKinds : Nat → Int32) (p2_cells : Nat → Int32) (x1 : Int32) (post : Int32 → Int32 → (Nat → Int32) → (Nat → Int32) → Prop) : Prop := ((p2_men < (5 : Int32) → wpX5_figureAt t_letters t_length (x1 + (1 : Int32)) (fun r_2 => ((0 ≤ r_2 → wpX5_figureAt t_letters t_length (x1 + (2 : Int32)) (fun r_4 => ((r_4 < 0 → wpX5_tellMan_J46 t_letters t_length x1 post p2_men p2_manKinds p2_cells) ∧ (¬ r_4 < 0 → ((r_4 ≤ (3 : Int32) → wpX0_addMan p2_men p2_manKinds p2_cells r_2 r_4 (fun p2_men_7 p2_manKinds_8 p2_cells_9 => post (-9 : Int32) p2_men_7 p2_manKinds_8 p2_cells_9)) ∧ (¬ r_4 ≤ (3 : Int32) → wpX5_tellMan_J46 t_letters t_length x1 post p2_men p2_manKinds p2_cells)))))) ∧ (¬ 0 ≤ r_2 → post (x1 + (1 : Int32)) p2_men p2_manKinds p2_cells)))) ∧ (¬ p2_men < (5 : Int32) → post x1 p2_men p2_manKinds p2_cells))
abbrev rmX5_tellMan : Room := { frames := 3, cells := 0, slots := 0, locals := 66 }
set_option maxHeartbeats 4000000 in
set_option maxRecDepth 100000 in
theorem mtX5_tellMan (l : Launch) (dC : Nat → ClassId) (dI : Nat → Nat → Nat) (cI cZ : ClassId) (a_t : Nat) (a_t_letters : Nat) (a_p2 : Nat) (a_p2_bagKinds : Nat) (a_p2_manKinds : Nat) (a_p2_cells : Nat) (sz : Nat) (t_length : Int32) (t_letters : Nat → Int32) (d_p2_bags : Int32) (p2_men : Int32) (p2_manKinds : Nat → Int32) (p2_cells : Nat → Int32) (x1 : Int32) (post : Int32 → Int32 → (Nat → Int32) → (Nat → Int32) → Prop) (hw : wpX5_tellMan t_letters t_length p2_men p2_manKinds p2_cells x1 post) : Met l yX5_tellMan wsX5_tellMan rmX5_tellMan (va_Pc [.ref a_t, .int x1, .ref a_p2] (kvPre (dC, dI) cI cZ sz [(a_t, .inr (4, [.ref a_t_letters, .int t_length])), (a_t_letters, .inl (cI, 60, .inl t_letters)), (a_p2, .inr (0, [.int d_p2_bags, .int p2_men, .ref a_p2_bagKinds, .ref a_p2_manKinds, .ref a_p2_cells])), (a_p2_manKinds, .inl (cI, 5, .inl p2_manKinds)), (a_p2_cells, .inl (cI, 23, .inl p2_cells))])) (va_Qi (fun (r : Int32) (u : Int32 × (Nat → Int32) × (Nat → Int32)) => post r u.1 u.2.1 u.2.2) (kvB (dC, dI) (va_A [(a_t, .inr (4, [.ref a_t_letters, .int t_length])), (a_t_letters, .inl (cI, 60, .inl t_letters)), (a_p2, .inr (0, [.int d_p2_bags, .int p2_men, .ref a_p2_bagKinds, .ref a_p2_manKinds, .ref a_p2_cells])), (a_p2_manKinds, .inl (cI, 5, .inl p2_manKinds)), (a_p2_cells, .inl (cI, 23, .inl p2_cells))] sz) (fun (u : Int32 × (Nat → Int32) × (Nat → Int32)) => [(a_t, .inr (4, [.ref a_t_letters, .int t_length])), (a_t_letters, .inl (cI, 60, .inl t_letters)), (a_p2, .inr (0, [.int d_p2_bags, .int u.1, .ref a_p2_bagKinds, .ref a_p2_manKinds, .ref a_p2_cells])), (a_p2_manKinds, .inl (cI, 5, .inl u.2.1)), (a_p2_cells, .inl (cI, 23, .inl u.2.2))])) (va_A [(a_t, .inr (4, [.ref a_t_letters, .int t_length])), (a_t_letters, .inl (cI, 60, .inl t_letters)), (a_p2, .inr (0, [.int d_p2_bags, .int p2_men, .ref a_p2_bagKinds, .ref a_p2_manKinds, .ref a_p2_cells])), (a_p2_manKinds, .inl (cI, 5, .inl p2_manKinds)), (a_p2_cells, .inl (cI, 23, .inl p2_cells))] sz)) 0 0 (va_A [(a_t, .inr (4, [.ref a_t_letters, .int t_length])), (a_t_letters, .inl (cI, 60, .inl t_letters)), (a_p2, .inr (0, [.int d_p2_bags, .int p2_men, .ref a_p2_bagKinds, .ref a_p2_manKinds, .ref a_p2_cells])), (a_p2_manKinds, .inl (cI, 5, .inl p2_manKinds)), (a_p2_cells, .inl (cI, 23, .inl p2_cells))] sz) := by
  refine kv_metI (y := yX5_tellMan) (ws := wsX5_tellMan) (rm := rmX5_tellMan) (av := [.ref a_t, .int x1, .ref a_p2]) (sz := sz) (w := [(a_t, .inr (4, [.ref a_t_letters, .int t_length])), (a_t_letters, .inl (cI, 60, .inl t_letters)), (a_p2, .inr (0, [.int d_p2_bags, .int p2_men, .ref a_p2_bagKinds, .ref a_p2_manKinds, .ref a_p2_cells])), (a_p2_manKinds, .inl (cI, 5, .inl p2_manKinds)), (a_p2_cells, .inl (cI, 23, .inl p2_cells))]) (cc := cX5_tellMan) (maxL := 5) (own := RX5) (post := (fun (r : Int32) (u : Int32 × (Nat → Int32) × (Nat → Int32)) => post r u.1 u.2.1 u.2.2)) (w1 := (fun (u : Int32 × (Nat → Int32) × (Nat → Int32)) => [(a_t, .inr (4, [.ref a_t_letters, .int t_length])), (a_t_letters, .inl (cI, 60, .inl t_letters)), (a_p2, .inr (0, [.int d_p2_bags, .int u.1, .ref a_p2_bagKinds, .ref a_p2_manKinds, .ref a_p2_cells])), (a_p2_manKinds, .inl (cI, 5, .inl u.2.1)), (a_p2_cells, .inl (cI, 23, .inl u.2.2))])) (by decide) rfl rfl (Nat.le_of_ble_eq_true rfl) ?_
  intro p e s m below meth c A Q hx hb hml hown hts hK hX hA hP hD hsz hret ls hl
  have hS : va_S A s.heap s.heap [] := va_S.rf
  have hl : lv_has ls 5 [(0, .ref a_t), (1, .int x1), (2, .ref a_p2)] := hl
  have inX0 : ∀ w ∈ u_ws RX0 TX0 5, w ∈ wsX5_tellMan := by decide +kernel
  have B46 : ∀ (p2_men_46 : Int32) (p2_manKinds_46 : Nat → Int32) (p2_cells_46 : Nat → Int32) (H : Heap) (locs : List Loc) (ls : Array Slot), wpX5_tellMan_J46 t_letters t_length x1 post p2_men_46 p2_manKinds_46 p2_cells_46 → va_P (dC, dI) vwCl [(a_t, .inr (4, [.ref a_t_letters, .int t_length])), (a_t_letters, .inl (cI, 60, .inl t_letters)), (a_p2, .inr (0, [.int d_p2_bags, .int p2_men_46, .ref a_p2_bagKinds, .ref a_p2_manKinds, .ref a_p2_cells])), (a_p2_manKinds, .inl (cI, 5, .inl p2_manKinds_46)), (a_p2_cells, .inl (cI, 23, .inl p2_cells_46))] H → va_D A [(a_t, .inr (4, [.ref a_t_letters, .int t_length])), (a_t_letters, .inl (cI, 60, .inl t_letters)), (a_p2, .inr (0, [.int d_p2_bags, .int p2_men_46, .ref a_p2_bagKinds, .ref a_p2_manKinds, .ref a_p2_cells])), (a_p2_manKinds, .inl (cI, 5, .inl p2_manKinds_46)), (a_p2_cells, .inl (cI, 23, .inl p2_cells_46))] → va_S A s.heap H locs → lv_has ls 5 [(1, .int x1)] → W p l e rmX5_tellMan s m [.ref a_t, .int x1, .ref a_p2].toArray below meth c H locs 0 0 Q (F0 m 46 ls []) := by
    intro p2_men_46 p2_manKinds_46 p2_cells_46 H locs ls hw hP hD hS hl
    refine lv_iload_n hx hb dX5_tellMan_46 rfl (lv_at hl 0 rfl) ?_
    refine lv_iconst (v := (2 : Int32)) hx hb dX5_tellMan_47 (by decide) ?_
    refine lv_iadd hx hb dX5_tellMan_48 ?_
    exact hret (x1 + (2 : Int32)) (p2_men_46, p2_manKinds_46, p2_cells_46) H _ _ ls hw hP hD hS dX5_tellMan_49
  refine lv_aload_n hx hb dX5_tellMan_0 rfl (lv_at hl 2 rfl) ?_
  refine va_getN (D := (dC, dI)) (ci := 0) (v := .int p2_men) (C := RX0) (T := TX0) (N := 5) hx hb hts inX0 hown hK hP 2 rfl rfl 1 (by decide) (va_Nw.use rfl hX.1.2.2.2.2.2.2.1) (fun _ h9 => h9) rfl dX5_tellMan_1 ?_
  refine lv_iconst (v := (5 : Int32)) hx hb dX5_tellMan_4 (by decide) ?_
  refine lv_icmp_lt (tgt := 10) hx hb dX5_tellMan_5 (by decide) (fun c_1 => ?_) (fun c_1 => ?_)
  · have hw := hw.1 c_1
    refine lv_aload_n hx hb dX5_tellMan_10 rfl (lv_at hl 0 rfl) ?_
    refine lv_iload_n hx hb dX5_tellMan_11 rfl (lv_at hl 1 rfl) ?_
    refine lv_iconst (v := (1 : Int32)) hx hb dX5_tellMan_12 (by decide) ?_
    refine lv_iadd hx hb dX5_tellMan_13 ?_
    refine kv_callVi (wr := [(a_p2, .inr (0, [.int d_p2_bags, .int p2_men, .ref a_p2_bagKinds, .ref a_p2_manKinds, .ref a_p2_cells])), (a_p2_manKinds, .inl (cI, 5, .inl p2_manKinds)), (a_p2_cells, .inl (cI, 23, .inl p2_cells))]) (wn := (fun (u : Unit) => [(a_t, .inr (4, [.ref a_t_letters, .int t_length])), (a_t_letters, .inl (cI, 60, .inl t_letters)), (a_p2, .inr (0, [.int d_p2_bags, .int p2_men, .ref a_p2_bagKinds, .ref a_p2_manKinds, .ref a_p2_cells])), (a_p2_manKinds, .inl (cI, 5, .inl p2_manKinds)), (a_p2_cells, .inl (cI, 23, .inl p2_cells))])) (As := [.int (x1 + (1 : Int32))]) (rest := []) ⟨hx, hb, hml, hown, hts⟩ hK hX hA hP hD hS (mtX5_figureAt l dC dI cI cZ a_t a_t_letters s.heap.size t_length t_letters (x1 + (1 : Int32)) _ hw) (cwV 1 hts gX5_tellMan_X5_figureAt rfl rfl rfl (by decide +kernel) ⟨Nat.le_of_ble_eq_true rfl, Nat.le_of_ble_eq_true rfl⟩) 4 0 rfl rfl rfl [0, 1] [2, 3, 4] [3, 4, 0, 1, 2] rfl rfl rfl rfl (by decide) (fun _ => rfl) rfl rfl hl.1 rfl (Nat.le_of_ble_eq_true rfl) ⟨Nat.zero_le _, Nat.zero_le _⟩ dX5_tellMan_14 (fun r_2 u H locs hw hP hD hS => ?_)
    refine lv_istore_n (lv' := [(3, .int r_2), (0, .ref a_t), (1, .int x1), (2, .ref a_p2)]) hx hb dX5_tellMan_17 rfl hl (by decide) rfl (fun ls hl => ?_)
    refine lv_iload_n hx hb dX5_tellMan_18 rfl (lv_at hl 0 rfl) ?_
    refine lv_if_ge (tgt := 26) hx hb dX5_tellMan_19 (by decide) (fun c_3 => ?_) (fun c_3 => ?_)
    · have hw := hw.1 c_3
      refine lv_aload_n hx hb dX5_tellMan_26 rfl (lv_at hl 1 rfl) ?_
      refine lv_iload_n hx hb dX5_tellMan_27 rfl (lv_at hl 2 rfl) ?_
      refine lv_iconst (v := (2 : Int32)) hx hb dX5_tellMan_28 (by decide) ?_
      refine lv_iadd hx hb dX5_tellMan_29 ?_
      refine kv_callVi (wr := [(a_p2, .inr (0, [.int d_p2_bags, .int p2_men, .ref a_p2_bagKinds, .ref a_p2_manKinds, .ref a_p2_cells])), (a_p2_manKinds, .inl (cI, 5, .inl p2_manKinds)), (a_p2_cells, .inl (cI, 23, .inl p2_cells))]) (wn := (fun (u : Unit) => [(a_t, .inr (4, [.ref a_t_letters, .int t_length])), (a_t_letters, .inl (cI, 60, .inl t_letters)), (a_p2, .inr (0, [.int d_p2_bags, .int p2_men, .ref a_p2_bagKinds, .ref a_p2_manKinds, .ref a_p2_cells])), (a_p2_manKinds, .inl (cI, 5, .inl p2_manKinds)), (a_p2_cells, .inl (cI, 23, .inl p2_cells))])) (As := [.int (x1 + (2 : Int32))]) (rest := []) ⟨hx, hb, hml, hown, hts⟩ hK hX hA hP hD hS (mtX5_figureAt l dC dI cI cZ a_t a_t_letters H.size t_length t_letters (x1 + (2 : Int32)) _ hw) (cwV 1 hts gX5_tellMan_X5_figureAt rfl rfl rfl (by decide +kernel) ⟨Nat.le_of_ble_eq_true rfl, Nat.le_of_ble_eq_true rfl⟩) 4 0 rfl rfl rfl [0, 1] [2, 3, 4] [3, 4, 0, 1, 2] rfl rfl rfl rfl (by decide) (fun _ => rfl) rfl rfl hl.1 rfl (Nat.le_of_ble_eq_true rfl) ⟨Nat.zero_le _, Nat.zero_le _⟩ dX5_tellMan_30 (fun r_4 u H locs hw hP hD hS => ?_)
      refine lv_istore (lv' := [(4, .int r_4), (3, .int r_2), (0, .ref a_t), (1, .int x1), (2, .ref a_p2)]) hx hb dX5_tellMan_33 hl (by decide) rfl (fun ls hl => ?_)
      refine lv_iload hx hb dX5_tellMan_35 (lv_at hl 0 rfl) ?_
      refine lv_if_lt (tgt := 46) hx hb dX5_tellMan_37 (by decide) (fun c_5 => ?_) (fun c_5 => ?_)
      · have hw := hw.1 c_5
        exact B46 p2_men p2_manKinds p2_cells H _ ls hw hP hD hS (lv_sub hl [3] rfl)
      · have hw := hw.2 c_5
        refine lv_iload hx hb dX5_tellMan_40 (lv_at hl 0 rfl) ?_
        refine lv_iconst (v := (3 : Int32)) hx hb dX5_tellMan_42 (by decide) ?_
        refine lv_icmp_le (tgt := 50) hx hb dX5_tellMan_43 (by decide) (fun c_6 => ?_) (fun c_6 => ?_)
        · have hw := hw.1 c_6
          refine lv_aload_n hx hb dX5_tellMan_50 rfl (lv_at hl 4 rfl) ?_
          refine lv_iload_n hx hb dX5_tellMan_51 rfl (lv_at hl 1 rfl) ?_
          refine lv_iload hx hb dX5_tellMan_52 (lv_at hl 0 rfl) ?_
          refine kv_callVv (wr := [(a_t, .inr (4, [.ref a_t_letters, .int t_length])), (a_t_letters, .inl (cI, 60, .inl t_letters))]) (wn := (fun (u : Int32 × (Nat → Int32) × (Nat → Int32)) => [(a_t, .inr (4, [.ref a_t_letters, .int t_length])), (a_t_letters, .inl (cI, 60, .inl t_letters)), (a_p2, .inr (0, [.int d_p2_bags, .int u.1, .ref a_p2_bagKinds, .ref a_p2_manKinds, .ref a_p2_cells])), (a_p2_manKinds, .inl (cI, 5, .inl u.2.1)), (a_p2_cells, .inl (cI, 23, .inl u.2.2))])) (As := [.int r_2, .int r_4]) (rest := []) ⟨hx, hb, hml, hown, hts⟩ hK hX hA hP hD hS (mtX0_addMan l dC dI cI cZ a_p2 a_p2_bagKinds a_p2_manKinds a_p2_cells H.size d_p2_bags p2_men p2_manKinds p2_cells r_2 r_4 _ hw) (cwV 2 hts gX5_tellMan_X0_addMan rfl rfl rfl (by decide +kernel) ⟨Nat.le_of_ble_eq_true rfl, Nat.le_of_ble_eq_true rfl⟩) 0 2 rfl rfl rfl [2, 3, 4] [0, 1] [0, 1, 2, 3, 4] rfl rfl rfl rfl (by decide) (fun _ => rfl) rfl rfl hl.1 rfl (Nat.le_of_ble_eq_true rfl) ⟨Nat.zero_le _, Nat.zero_le _⟩ dX5_tellMan_54 (fun u H locs hw hP hD hS => ?_)
          obtain ⟨p2_men_7, p2_manKinds_8, p2_cells_9⟩ := u
          have hP : va_P (dC, dI) vwCl [(a_t, .inr (4, [.ref a_t_letters, .int t_length])), (a_t_letters, .inl (cI, 60, .inl t_letters)), (a_p2, .inr (0, [.int d_p2_bags, .int p2_men_7, .ref a_p2_bagKinds, .ref a_p2_manKinds, .ref a_p2_cells])), (a_p2_manKinds, .inl (cI, 5, .inl p2_manKinds_8)), (a_p2_cells, .inl (cI, 23, .inl p2_cells_9))] H := hP
          have hD : va_D A [(a_t, .inr (4, [.ref a_t_letters, .int t_length])), (a_t_letters, .inl (cI, 60, .inl t_letters)), (a_p2, .inr (0, [.int d_p2_bags, .int p2_men_7, .ref a_p2_bagKinds, .ref a_p2_manKinds, .ref a_p2_cells])), (a_p2_manKinds, .inl (cI, 5, .inl p2_manKinds_8)), (a_p2_cells, .inl (cI, 23, .inl p2_cells_9))] := hD
          refine lv_bipush (v := (-9 : Int32)) hx hb dX5_tellMan_57 (by decide) ?_
          exact hret (-9 : Int32) (p2_men_7, p2_manKinds_8, p2_cells_9) H _ _ ls hw hP hD hS dX5_tellMan_59
        · have hw := hw.2 c_6
          exact B46 p2_men p2_manKinds p2_cells H _ ls hw hP hD hS (lv_sub hl [3] rfl)
    · have hw := hw.2 c_3
      refine lv_iload_n hx hb dX5_tellMan_22 rfl (lv_at hl 2 rfl) ?_
      refine lv_iconst (v := (1 : Int32)) hx hb dX5_tellMan_23 (by decide) ?_
      refine lv_iadd hx hb dX5_tellMan_24 ?_
      exact hret (x1 + (1 : Int32)) (p2_men, p2_manKinds, p2_cells) H _ _ ls hw hP hD hS dX5_tellMan_25
  · have hw := hw.2 c_1
    refine lv_iload_n hx hb dX5_tellMan_8 rfl (lv_at hl 1 rfl) ?_
    exact hret x1 (p2_men, p2_manKinds, p2_cells) s.heap _ _ ls hw hP hD hS dX5_tellMan_9

def wpX5_tellBag_J27 (t_letters : Nat → Int32) (t_length : Int32) (x1 : Int32) (post : Int32 → Int32 → (Nat → Int32) → Prop) (p2_bags_27 : Int32) (p2_bagKinds_27 : Nat → Int32) : Prop := post (x1 + (1 : Int32)) p2_bags_27 p2_bagKinds_27
def wpX5_tellBag (t_letters : Nat → Int32) (t_length : Int32) (p2_bags : Int32) (p2_bagKinds : Nat → Int32) (x1 : Int32) (post : Int32 → Int32 → (Nat → Int32) → Prop) : Prop := ((p2_bags < (3 : Int32) → wpX5_figureAt t_letters t_length (x1 + (1 : Int32)) (fun r_2 => ((r_2 < 0 → wpX5_tellBag_J27 t_letters t_length x1 post p2_bags p2_bagKinds) ∧ (¬ r_2 < 0 → ((r_2 ≤ (3 : Int32) → wpX0_addBag p2_bags p2_bagKinds r_2 (fun p2_bags_5 p2_bagKinds_6 => post (-9 : Int32) p2_bags_5 p2_bagKinds_6)) ∧ (¬ r_2 ≤ (3 : Int32) → wpX5_tellBag_J27 t_letters t_length x1 post p2_bags p2_bagKinds)))))) ∧ (¬ p2_bags < (3 : Int32) → post x1 p2_bags p2_bagKinds))
abbrev rmX5_tellBag : Room := { frames := 2, cells := 0, slots := 0, locals := 43 }
set_option maxHeartbeats 4000000 in
set_option maxRecDepth 100000 in
theorem mtX5_tellBag (l : Launch) (dC : Nat → ClassId) (dI : Nat → Nat → Nat) (cI cZ : ClassId) (a_t : Nat) (a_t_letters : Nat) (a_p2 : Nat) (a_p2_bagKinds : Nat) (a_p2_manKinds : Nat) (a_p2_cells : Nat) (sz : Nat) (t_length : Int32) (t_letters : Nat → Int32) (p2_bags : Int32) (d_p2_men : Int32) (p2_bagKinds : Nat → Int32) (x1 : Int32) (post : Int32 → Int32 → (Nat → Int32) → Prop) (hw : wpX5_tellBag t_letters t_length p2_bags p2_bagKinds x1 post) : Met l yX5_tellBag wsX5_tellBag rmX5_tellBag (va_Pc [.ref a_t, .int x1, .ref a_p2] (kvPre (dC, dI) cI cZ sz [(a_t, .inr (4, [.ref a_t_letters, .int t_length])), (a_t_letters, .inl (cI, 60, .inl t_letters)), (a_p2, .inr (0, [.int p2_bags, .int d_p2_men, .ref a_p2_bagKinds, .ref a_p2_manKinds, .ref a_p2_cells])), (a_p2_bagKinds, .inl (cI, 3, .inl p2_bagKinds))])) (va_Qi (fun (r : Int32) (u : Int32 × (Nat → Int32)) => post r u.1 u.2) (kvB (dC, dI) (va_A [(a_t, .inr (4, [.ref a_t_letters, .int t_length])), (a_t_letters, .inl (cI, 60, .inl t_letters)), (a_p2, .inr (0, [.int p2_bags, .int d_p2_men, .ref a_p2_bagKinds, .ref a_p2_manKinds, .ref a_p2_cells])), (a_p2_bagKinds, .inl (cI, 3, .inl p2_bagKinds))] sz) (fun (u : Int32 × (Nat → Int32)) => [(a_t, .inr (4, [.ref a_t_letters, .int t_length])), (a_t_letters, .inl (cI, 60, .inl t_letters)), (a_p2, .inr (0, [.int u.1, .int d_p2_men, .ref a_p2_bagKinds, .ref a_p2_manKinds, .ref a_p2_cells])), (a_p2_bagKinds, .inl (cI, 3, .inl u.2))])) (va_A [(a_t, .inr (4, [.ref a_t_letters, .int t_length])), (a_t_letters, .inl (cI, 60, .inl t_letters)), (a_p2, .inr (0, [.int p2_bags, .int d_p2_men, .ref a_p2_bagKinds, .ref a_p2_manKinds, .ref a_p2_cells])), (a_p2_bagKinds, .inl (cI, 3, .inl p2_bagKinds))] sz)) 0 0 (va_A [(a_t, .inr (4, [.ref a_t_letters, .int t_length])), (a_t_letters, .inl (cI, 60, .inl t_letters)), (a_p2, .inr (0, [.int p2_bags, .int d_p2_men, .ref a_p2_bagKinds, .ref a_p2_manKinds, .ref a_p2_cells])), (a_p2_bagKinds, .inl (cI, 3, .inl p2_bagKinds))] sz) := by
  refine kv_metI (y := yX5_tellBag) (ws := wsX5_tellBag) (rm := rmX5_tellBag) (av := [.ref a_t, .int x1, .ref a_p2]) (sz := sz) (w := [(a_t, .inr (4, [.ref a_t_letters, .int t_length])), (a_t_letters, .inl (cI, 60, .inl t_letters)), (a_p2, .inr (0, [.int p2_bags, .int d_p2_men, .ref a_p2_bagKinds, .ref a_p2_manKinds, .ref a_p2_cells])), (a_p2_bagKinds, .inl (cI, 3, .inl p2_bagKinds))]) (cc := cX5_tellBag) (maxL := 4) (own := RX5) (post := (fun (r : Int32) (u : Int32 × (Nat → Int32)) => post r u.1 u.2)) (w1 := (fun (u : Int32 × (Nat → Int32)) => [(a_t, .inr (4, [.ref a_t_letters, .int t_length])), (a_t_letters, .inl (cI, 60, .inl t_letters)), (a_p2, .inr (0, [.int u.1, .int d_p2_men, .ref a_p2_bagKinds, .ref a_p2_manKinds, .ref a_p2_cells])), (a_p2_bagKinds, .inl (cI, 3, .inl u.2))])) (by decide) rfl rfl (Nat.le_of_ble_eq_true rfl) ?_
  intro p e s m below meth c A Q hx hb hml hown hts hK hX hA hP hD hsz hret ls hl
  have hS : va_S A s.heap s.heap [] := va_S.rf
  have hl : lv_has ls 4 [(0, .ref a_t), (1, .int x1), (2, .ref a_p2)] := hl
  have inX0 : ∀ w ∈ u_ws RX0 TX0 5, w ∈ wsX5_tellBag := by decide +kernel
  have B27 : ∀ (p2_bags_27 : Int32) (p2_bagKinds_27 : Nat → Int32) (H : Heap) (locs : List Loc) (ls : Array Slot), wpX5_tellBag_J27 t_letters t_length x1 post p2_bags_27 p2_bagKinds_27 → va_P (dC, dI) vwCl [(a_t, .inr (4, [.ref a_t_letters, .int t_length])), (a_t_letters, .inl (cI, 60, .inl t_letters)), (a_p2, .inr (0, [.int p2_bags_27, .int d_p2_men, .ref a_p2_bagKinds, .ref a_p2_manKinds, .ref a_p2_cells])), (a_p2_bagKinds, .inl (cI, 3, .inl p2_bagKinds_27))] H → va_D A [(a_t, .inr (4, [.ref a_t_letters, .int t_length])), (a_t_letters, .inl (cI, 60, .inl t_letters)), (a_p2, .inr (0, [.int p2_bags_27, .int d_p2_men, .ref a_p2_bagKinds, .ref a_p2_manKinds, .ref a_p2_cells])), (a_p2_bagKinds, .inl (cI, 3, .inl p2_bagKinds_27))] → va_S A s.heap H locs → lv_has ls 4 [(1, .int x1)] → W p l e rmX5_tellBag s m [.ref a_t, .int x1, .ref a_p2].toArray below meth c H locs 0 0 Q (F0 m 27 ls []) := by
    intro p2_bags_27 p2_bagKinds_27 H locs ls hw hP hD hS hl
    refine lv_iload_n hx hb dX5_tellBag_27 rfl (lv_at hl 0 rfl) ?_
    refine lv_iconst (v := (1 : Int32)) hx hb dX5_tellBag_28 (by decide) ?_
    refine lv_iadd hx hb dX5_tellBag_29 ?_
    exact hret (x1 + (1 : Int32)) (p2_bags_27, p2_bagKinds_27) H _ _ ls hw hP hD hS dX5_tellBag_30
  refine lv_aload_n hx hb dX5_tellBag_0 rfl (lv_at hl 2 rfl) ?_
  refine va_getN (D := (dC, dI)) (ci := 0) (v := .int p2_bags) (C := RX0) (T := TX0) (N := 5) hx hb hts inX0 hown hK hP 2 rfl rfl 0 (by decide) (va_Nw.use rfl hX.1.2.2.2.1) (fun _ h9 => h9) rfl dX5_tellBag_1 ?_
  refine lv_iconst (v := (3 : Int32)) hx hb dX5_tellBag_4 (by decide) ?_
  refine lv_icmp_lt (tgt := 10) hx hb dX5_tellBag_5 (by decide) (fun c_1 => ?_) (fun c_1 => ?_)
  · have hw := hw.1 c_1
    refine lv_aload_n hx hb dX5_tellBag_10 rfl (lv_at hl 0 rfl) ?_
    refine lv_iload_n hx hb dX5_tellBag_11 rfl (lv_at hl 1 rfl) ?_
    refine lv_iconst (v := (1 : Int32)) hx hb dX5_tellBag_12 (by decide) ?_
    refine lv_iadd hx hb dX5_tellBag_13 ?_
    refine kv_callVi (wr := [(a_p2, .inr (0, [.int p2_bags, .int d_p2_men, .ref a_p2_bagKinds, .ref a_p2_manKinds, .ref a_p2_cells])), (a_p2_bagKinds, .inl (cI, 3, .inl p2_bagKinds))]) (wn := (fun (u : Unit) => [(a_t, .inr (4, [.ref a_t_letters, .int t_length])), (a_t_letters, .inl (cI, 60, .inl t_letters)), (a_p2, .inr (0, [.int p2_bags, .int d_p2_men, .ref a_p2_bagKinds, .ref a_p2_manKinds, .ref a_p2_cells])), (a_p2_bagKinds, .inl (cI, 3, .inl p2_bagKinds))])) (As := [.int (x1 + (1 : Int32))]) (rest := []) ⟨hx, hb, hml, hown, hts⟩ hK hX hA hP hD hS (mtX5_figureAt l dC dI cI cZ a_t a_t_letters s.heap.size t_length t_letters (x1 + (1 : Int32)) _ hw) (cwV 1 hts gX5_tellBag_X5_figureAt rfl rfl rfl (by decide +kernel) ⟨Nat.le_of_ble_eq_true rfl, Nat.le_of_ble_eq_true rfl⟩) 4 0 rfl rfl rfl [0, 1] [2, 3] [2, 3, 0, 1] rfl rfl rfl rfl (by decide) (fun _ => rfl) rfl rfl hl.1 rfl (Nat.le_of_ble_eq_true rfl) ⟨Nat.zero_le _, Nat.zero_le _⟩ dX5_tellBag_14 (fun r_2 u H locs hw hP hD hS => ?_)
    refine lv_istore_n (lv' := [(3, .int r_2), (0, .ref a_t), (1, .int x1), (2, .ref a_p2)]) hx hb dX5_tellBag_17 rfl hl (by decide) rfl (fun ls hl => ?_)
    refine lv_iload_n hx hb dX5_tellBag_18 rfl (lv_at hl 0 rfl) ?_
    refine lv_if_lt (tgt := 27) hx hb dX5_tellBag_19 (by decide) (fun c_3 => ?_) (fun c_3 => ?_)
    · have hw := hw.1 c_3
      exact B27 p2_bags p2_bagKinds H _ ls hw hP hD hS (lv_sub hl [2] rfl)
    · have hw := hw.2 c_3
      refine lv_iload_n hx hb dX5_tellBag_22 rfl (lv_at hl 0 rfl) ?_
      refine lv_iconst (v := (3 : Int32)) hx hb dX5_tellBag_23 (by decide) ?_
      refine lv_icmp_le (tgt := 31) hx hb dX5_tellBag_24 (by decide) (fun c_4 => ?_) (fun c_4 => ?_)
      · have hw := hw.1 c_4
        refine lv_aload_n hx hb dX5_tellBag_31 rfl (lv_at hl 3 rfl) ?_
        refine lv_iload_n hx hb dX5_tellBag_32 rfl (lv_at hl 0 rfl) ?_
        refine kv_callVv (wr := [(a_t, .inr (4, [.ref a_t_letters, .int t_length])), (a_t_letters, .inl (cI, 60, .inl t_letters))]) (wn := (fun (u : Int32 × (Nat → Int32)) => [(a_t, .inr (4, [.ref a_t_letters, .int t_length])), (a_t_letters, .inl (cI, 60, .inl t_letters)), (a_p2, .inr (0, [.int u.1, .int d_p2_men, .ref a_p2_bagKinds, .ref a_p2_manKinds, .ref a_p2_cells])), (a_p2_bagKinds, .inl (cI, 3, .inl u.2))])) (As := [.int r_2]) (rest := []) ⟨hx, hb, hml, hown, hts⟩ hK hX hA hP hD hS (mtX0_addBag l dC dI cI cZ a_p2 a_p2_bagKinds a_p2_manKinds a_p2_cells H.size p2_bags d_p2_men p2_bagKinds r_2 _ hw) (cwV 1 hts gX5_tellBag_X0_addBag rfl rfl rfl (by decide +kernel) ⟨Nat.le_of_ble_eq_true rfl, Nat.le_of_ble_eq_true rfl⟩) 0 2 rfl rfl rfl [2, 3] [0, 1] [0, 1, 2, 3] rfl rfl rfl rfl (by decide) (fun _ => rfl) rfl rfl hl.1 rfl (Nat.le_of_ble_eq_true rfl) ⟨Nat.zero_le _, Nat.zero_le _⟩ dX5_tellBag_33 (fun u H locs hw hP hD hS => ?_)
        obtain ⟨p2_bags_5, p2_bagKinds_6⟩ := u
        have hP : va_P (dC, dI) vwCl [(a_t, .inr (4, [.ref a_t_letters, .int t_length])), (a_t_letters, .inl (cI, 60, .inl t_letters)), (a_p2, .inr (0, [.int p2_bags_5, .int d_p2_men, .ref a_p2_bagKinds, .ref a_p2_manKinds, .ref a_p2_cells])), (a_p2_bagKinds, .inl (cI, 3, .inl p2_bagKinds_6))] H := hP
        have hD : va_D A [(a_t, .inr (4, [.ref a_t_letters, .int t_length])), (a_t_letters, .inl (cI, 60, .inl t_letters)), (a_p2, .inr (0, [.int p2_bags_5, .int d_p2_men, .ref a_p2_bagKinds, .ref a_p2_manKinds, .ref a_p2_cells])), (a_p2_bagKinds, .inl (cI, 3, .inl p2_bagKinds_6))] := hD
        refine lv_bipush (v := (-9 : Int32)) hx hb dX5_tellBag_36 (by decide) ?_
        exact hret (-9 : Int32) (p2_bags_5, p2_bagKinds_6) H _ _ ls hw hP hD hS dX5_tellBag_38
      · have hw := hw.2 c_4
        exact B27 p2_bags p2_bagKinds H _ ls hw hP hD hS (lv_sub hl [2] rfl)
  · have hw := hw.2 c_1
    refine lv_iload_n hx hb dX5_tellBag_8 rfl (lv_at hl 1 rfl) ?_
    exact hret x1 (p2_bags, p2_bagKinds) s.heap _ _ ls hw hP hD hS dX5_tellBag_9

def wpX5_tellThing (t_letters : Nat → Int32) (t_length : Int32) (p2_bags : Int32) (p2_men : Int32) (p2_bagKinds : Nat → Int32) (p2_manKinds : Nat → Int32) (p2_cells : Nat → Int32) (x1 : Int32) (post : Int32 → Int32 → Int32 → (Nat → Int32) → (Nat → Int32) → (Nat → Int32) → Prop) : Prop := wpX5_letterAt t_letters t_length x1 (fun r_1 => ((r_1 = (71 : Int32) → wpX5_tellBag t_letters t_length p2_bags p2_bagKinds x1 (fun r_7 p2_bags_5 p2_bagKinds_6 => post r_7 p2_bags_5 p2_men p2_bagKinds_6 p2_manKinds p2_cells)) ∧ (¬ r_1 = (71 : Int32) → (r_1 = (77 : Int32) → wpX5_tellMan t_letters t_length p2_men p2_manKinds p2_cells x1 (fun r_11 p2_men_8 p2_manKinds_9 p2_cells_10 => post r_11 p2_bags p2_men_8 p2_bagKinds p2_manKinds_9 p2_cells_10)) ∧ (¬ r_1 = (77 : Int32) → (r_1 = (80 : Int32) → wpX5_tellBreath t_letters t_length p2_bags p2_men p2_cells x1 (fun r_13 p2_cells_12 => post r_13 p2_bags p2_men p2_bagKinds p2_manKinds p2_cells_12)) ∧ (¬ r_1 = (80 : Int32) → post x1 p2_bags p2_men p2_bagKinds p2_manKinds p2_cells)))))
abbrev rmX5_tellThing : Room := { frames := 4, cells := 0, slots := 0, locals := 90 }
set_option maxHeartbeats 4000000 in
set_option maxRecDepth 100000 in
theorem mtX5_tellThing (l : Launch) (dC : Nat → ClassId) (dI : Nat → Nat → Nat) (cI cZ : ClassId) (a_t : Nat) (a_t_letters : Nat) (a_p2 : Nat) (a_p2_bagKinds : Nat) (a_p2_manKinds : Nat) (a_p2_cells : Nat) (sz : Nat) (t_length : Int32) (t_letters : Nat → Int32) (p2_bags : Int32) (p2_men : Int32) (p2_bagKinds : Nat → Int32) (p2_manKinds : Nat → Int32) (p2_cells : Nat → Int32) (x1 : Int32) (post : Int32 → Int32 → Int32 → (Nat → Int32) → (Nat → Int32) → (Nat → Int32) → Prop) (hw : wpX5_tellThing t_letters t_length p2_bags p2_men p2_bagKinds p2_manKinds p2_cells x1 post) : Met l yX5_tellThing wsX5_tellThing rmX5_tellThing (va_Pc [.ref a_t, .int x1, .ref a_p2] (kvPre (dC, dI) cI cZ sz [(a_t, .inr (4, [.ref a_t_letters, .int t_length])), (a_t_letters, .inl (cI, 60, .inl t_letters)), (a_p2, .inr (0, [.int p2_bags, .int p2_men, .ref a_p2_bagKinds, .ref a_p2_manKinds, .ref a_p2_cells])), (a_p2_bagKinds, .inl (cI, 3, .inl p2_bagKinds)), (a_p2_manKinds, .inl (cI, 5, .inl p2_manKinds)), (a_p2_cells, .inl (cI, 23, .inl p2_cells))])) (va_Qi (fun (r : Int32) (u : Int32 × Int32 × (Nat → Int32) × (Nat → Int32) × (Nat → Int32)) => post r u.1 u.2.1 u.2.2.1 u.2.2.2.1 u.2.2.2.2) (kvB (dC, dI) (va_A [(a_t, .inr (4, [.ref a_t_letters, .int t_length])), (a_t_letters, .inl (cI, 60, .inl t_letters)), (a_p2, .inr (0, [.int p2_bags, .int p2_men, .ref a_p2_bagKinds, .ref a_p2_manKinds, .ref a_p2_cells])), (a_p2_bagKinds, .inl (cI, 3, .inl p2_bagKinds)), (a_p2_manKinds, .inl (cI, 5, .inl p2_manKinds)), (a_p2_cells, .inl (cI, 23, .inl p2_cells))] sz) (fun (u : Int32 × Int32 × (Nat → Int32) × (Nat → Int32) × (Nat → Int32)) => [(a_t, .inr (4, [.ref a_t_letters, .int t_length])), (a_t_letters, .inl (cI, 60, .inl t_letters)), (a_p2, .inr (0, [.int u.1, .int u.2.1, .ref a_p2_bagKinds, .ref a_p2_manKinds, .ref a_p2_cells])), (a_p2_bagKinds, .inl (cI, 3, .inl u.2.2.1)), (a_p2_manKinds, .inl (cI, 5, .inl u.2.2.2.1)), (a_p2_cells, .inl (cI, 23, .inl u.2.2.2.2))])) (va_A [(a_t, .inr (4, [.ref a_t_letters, .int t_length])), (a_t_letters, .inl (cI, 60, .inl t_letters)), (a_p2, .inr (0, [.int p2_bags, .int p2_men, .ref a_p2_bagKinds, .ref a_p2_manKinds, .ref a_p2_cells])), (a_p2_bagKinds, .inl (cI, 3, .inl p2_bagKinds)), (a_p2_manKinds, .inl (cI, 5, .inl p2_manKinds)), (a_p2_cells, .inl (cI, 23, .inl p2_cells))] sz)) 0 0 (va_A [(a_t, .inr (4, [.ref a_t_letters, .int t_length])), (a_t_letters, .inl (cI, 60, .inl t_letters)), (a_p2, .inr (0, [.int p2_bags, .int p2_men, .ref a_p2_bagKinds, .ref a_p2_manKinds, .ref a_p2_cells])), (a_p2_bagKinds, .inl (cI, 3, .inl p2_bagKinds)), (a_p2_manKinds, .inl (cI, 5, .inl p2_manKinds)), (a_p2_cells, .inl (cI, 23, .inl p2_cells))] sz) := by
  refine kv_metI (y := yX5_tellThing) (ws := wsX5_tellThing) (rm := rmX5_tellThing) (av := [.ref a_t, .int x1, .ref a_p2]) (sz := sz) (w := [(a_t, .inr (4, [.ref a_t_letters, .int t_length])), (a_t_letters, .inl (cI, 60, .inl t_letters)), (a_p2, .inr (0, [.int p2_bags, .int p2_men, .ref a_p2_bagKinds, .ref a_p2_manKinds, .ref a_p2_cells])), (a_p2_bagKinds, .inl (cI, 3, .inl p2_bagKinds)), (a_p2_manKinds, .inl (cI, 5, .inl p2_manKinds)), (a_p2_cells, .inl (cI, 23, .inl p2_cells))]) (cc := cX5_tellThing) (maxL := 3) (own := RX5) (post := (fun (r : Int32) (u : Int32 × Int32 × (Nat → Int32) × (Nat → Int32) × (Nat → Int32)) => post r u.1 u.2.1 u.2.2.1 u.2.2.2.1 u.2.2.2.2)) (w1 := (fun (u : Int32 × Int32 × (Nat → Int32) × (Nat → Int32) × (Nat → Int32)) => [(a_t, .inr (4, [.ref a_t_letters, .int t_length])), (a_t_letters, .inl (cI, 60, .inl t_letters)), (a_p2, .inr (0, [.int u.1, .int u.2.1, .ref a_p2_bagKinds, .ref a_p2_manKinds, .ref a_p2_cells])), (a_p2_bagKinds, .inl (cI, 3, .inl u.2.2.1)), (a_p2_manKinds, .inl (cI, 5, .inl u.2.2.2.1)), (a_p2_cells, .inl (cI, 23, .inl u.2.2.2.2))])) (by decide) rfl rfl (Nat.le_of_ble_eq_true rfl) ?_
  intro p e s m below meth c A Q hx hb hml hown hts hK hX hA hP hD hsz hret ls hl
  have hS : va_S A s.heap s.heap [] := va_S.rf
  have hl : lv_has ls 3 [(0, .ref a_t), (1, .int x1), (2, .ref a_p2)] := hl
  refine lv_aload_n hx hb dX5_tellThing_0 rfl (lv_at hl 0 rfl) ?_
  refine lv_iload_n hx hb dX5_tellThing_1 rfl (lv_at hl 1 rfl) ?_
  refine kv_callVi (wr := [(a_p2, .inr (0, [.int p2_bags, .int p2_men, .ref a_p2_bagKinds, .ref a_p2_manKinds, .ref a_p2_cells])), (a_p2_bagKinds, .inl (cI, 3, .inl p2_bagKinds)), (a_p2_manKinds, .inl (cI, 5, .inl p2_manKinds)), (a_p2_cells, .inl (cI, 23, .inl p2_cells))]) (wn := (fun (u : Unit) => [(a_t, .inr (4, [.ref a_t_letters, .int t_length])), (a_t_letters, .inl (cI, 60, .inl t_letters)), (a_p2, .inr (0, [.int p2_bags, .int p2_men, .ref a_p2_bagKinds, .ref a_p2_manKinds, .ref a_p2_cells])), (a_p2_bagKinds, .inl (cI, 3, .inl p2_bagKinds)), (a_p2_manKinds, .inl (cI, 5, .inl p2_manKinds)), (a_p2_cells, .inl (cI, 23, .inl p2_cells))])) (As := [.int x1]) (rest := []) ⟨hx, hb, hml, hown, hts⟩ hK hX hA hP hD hS (mtX5_letterAt l dC dI cI cZ a_t a_t_letters s.heap.size t_length t_letters x1 _ hw) (cwV 1 hts gX5_tellThing_X5_letterAt rfl rfl rfl (by decide +kernel) ⟨Nat.le_of_ble_eq_true rfl, Nat.le_of_ble_eq_true rfl⟩) 4 0 rfl rfl rfl [0, 1] [2, 3, 4, 5] [4, 5, 0, 1, 2, 3] rfl rfl rfl rfl (by decide) (fun _ => rfl) rfl rfl hl.1 rfl (Nat.le_of_ble_eq_true rfl) ⟨Nat.zero_le _, Nat.zero_le _⟩ dX5_tellThing_2 (fun r_1 u H locs hw hP hD hS => ?_)
  by_cases c_2 : r_1 = (71 : Int32)
  · have hw := hw.1 c_2
    refine lv_lookup (tgt := 40) (off := 35) hx hb dX5_tellThing_5 (by decide) (by rw [c_2]; first | done | rfl) (by decide) ?_
    refine lv_aload_n hx hb dX5_tellThing_40 rfl (lv_at hl 0 rfl) ?_
    refine lv_iload_n hx hb dX5_tellThing_41 rfl (lv_at hl 1 rfl) ?_
    refine lv_aload_n hx hb dX5_tellThing_42 rfl (lv_at hl 2 rfl) ?_
    refine kv_callVi (wr := [(a_p2_manKinds, .inl (cI, 5, .inl p2_manKinds)), (a_p2_cells, .inl (cI, 23, .inl p2_cells))]) (wn := (fun (u : Int32 × (Nat → Int32)) => [(a_t, .inr (4, [.ref a_t_letters, .int t_length])), (a_t_letters, .inl (cI, 60, .inl t_letters)), (a_p2, .inr (0, [.int u.1, .int p2_men, .ref a_p2_bagKinds, .ref a_p2_manKinds, .ref a_p2_cells])), (a_p2_bagKinds, .inl (cI, 3, .inl u.2)), (a_p2_manKinds, .inl (cI, 5, .inl p2_manKinds)), (a_p2_cells, .inl (cI, 23, .inl p2_cells))])) (As := [.int x1, .ref a_p2]) (rest := []) ⟨hx, hb, hml, hown, hts⟩ hK hX hA hP hD hS (mtX5_tellBag l dC dI cI cZ a_t a_t_letters a_p2 a_p2_bagKinds a_p2_manKinds a_p2_cells H.size t_length t_letters p2_bags p2_men p2_bagKinds x1 _ hw) (cwV 2 hts gX5_tellThing_X5_tellBag rfl rfl rfl (by decide +kernel) ⟨Nat.le_of_ble_eq_true rfl, Nat.le_of_ble_eq_true rfl⟩) 4 0 rfl rfl rfl [0, 1, 2, 3] [4, 5] [2, 3, 4, 5, 0, 1] rfl rfl rfl rfl (by decide) (fun _ => rfl) rfl rfl hl.1 rfl (Nat.le_of_ble_eq_true rfl) ⟨Nat.zero_le _, Nat.zero_le _⟩ dX5_tellThing_43 (fun r_7 u H locs hw hP hD hS => ?_)
    obtain ⟨p2_bags_5, p2_bagKinds_6⟩ := u
    have hP : va_P (dC, dI) vwCl [(a_t, .inr (4, [.ref a_t_letters, .int t_length])), (a_t_letters, .inl (cI, 60, .inl t_letters)), (a_p2, .inr (0, [.int p2_bags_5, .int p2_men, .ref a_p2_bagKinds, .ref a_p2_manKinds, .ref a_p2_cells])), (a_p2_bagKinds, .inl (cI, 3, .inl p2_bagKinds_6)), (a_p2_manKinds, .inl (cI, 5, .inl p2_manKinds)), (a_p2_cells, .inl (cI, 23, .inl p2_cells))] H := hP
    have hD : va_D A [(a_t, .inr (4, [.ref a_t_letters, .int t_length])), (a_t_letters, .inl (cI, 60, .inl t_letters)), (a_p2, .inr (0, [.int p2_bags_5, .int p2_men, .ref a_p2_bagKinds, .ref a_p2_manKinds, .ref a_p2_cells])), (a_p2_bagKinds, .inl (cI, 3, .inl p2_bagKinds_6)), (a_p2_manKinds, .inl (cI, 5, .inl p2_manKinds)), (a_p2_cells, .inl (cI, 23, .inl p2_cells))] := hD
    exact hret r_7 (p2_bags_5, p2_men, p2_bagKinds_6, p2_manKinds, p2_cells) H _ _ ls hw hP hD hS dX5_tellThing_46
  · have hw := hw.2 c_2
    by_cases c_3 : r_1 = (77 : Int32)
    · have hw := hw.1 c_3
      refine lv_lookup (tgt := 47) (off := 42) hx hb dX5_tellThing_5 (by decide) (by rw [c_3]; first | done | rfl) (by decide) ?_
      refine lv_aload_n hx hb dX5_tellThing_47 rfl (lv_at hl 0 rfl) ?_
      refine lv_iload_n hx hb dX5_tellThing_48 rfl (lv_at hl 1 rfl) ?_
      refine lv_aload_n hx hb dX5_tellThing_49 rfl (lv_at hl 2 rfl) ?_
      refine kv_callVi (wr := [(a_p2_bagKinds, .inl (cI, 3, .inl p2_bagKinds))]) (wn := (fun (u : Int32 × (Nat → Int32) × (Nat → Int32)) => [(a_t, .inr (4, [.ref a_t_letters, .int t_length])), (a_t_letters, .inl (cI, 60, .inl t_letters)), (a_p2, .inr (0, [.int p2_bags, .int u.1, .ref a_p2_bagKinds, .ref a_p2_manKinds, .ref a_p2_cells])), (a_p2_bagKinds, .inl (cI, 3, .inl p2_bagKinds)), (a_p2_manKinds, .inl (cI, 5, .inl u.2.1)), (a_p2_cells, .inl (cI, 23, .inl u.2.2))])) (As := [.int x1, .ref a_p2]) (rest := []) ⟨hx, hb, hml, hown, hts⟩ hK hX hA hP hD hS (mtX5_tellMan l dC dI cI cZ a_t a_t_letters a_p2 a_p2_bagKinds a_p2_manKinds a_p2_cells H.size t_length t_letters p2_bags p2_men p2_manKinds p2_cells x1 _ hw) (cwV 2 hts gX5_tellThing_X5_tellMan rfl rfl rfl (by decide +kernel) ⟨Nat.le_of_ble_eq_true rfl, Nat.le_of_ble_eq_true rfl⟩) 4 0 rfl rfl rfl [0, 1, 2, 4, 5] [3] [1, 2, 3, 0, 4, 5] rfl rfl rfl rfl (by decide) (fun _ => rfl) rfl rfl hl.1 rfl (Nat.le_of_ble_eq_true rfl) ⟨Nat.zero_le _, Nat.zero_le _⟩ dX5_tellThing_50 (fun r_11 u H locs hw hP hD hS => ?_)
      obtain ⟨p2_men_8, p2_manKinds_9, p2_cells_10⟩ := u
      have hP : va_P (dC, dI) vwCl [(a_t, .inr (4, [.ref a_t_letters, .int t_length])), (a_t_letters, .inl (cI, 60, .inl t_letters)), (a_p2, .inr (0, [.int p2_bags, .int p2_men_8, .ref a_p2_bagKinds, .ref a_p2_manKinds, .ref a_p2_cells])), (a_p2_bagKinds, .inl (cI, 3, .inl p2_bagKinds)), (a_p2_manKinds, .inl (cI, 5, .inl p2_manKinds_9)), (a_p2_cells, .inl (cI, 23, .inl p2_cells_10))] H := hP
      have hD : va_D A [(a_t, .inr (4, [.ref a_t_letters, .int t_length])), (a_t_letters, .inl (cI, 60, .inl t_letters)), (a_p2, .inr (0, [.int p2_bags, .int p2_men_8, .ref a_p2_bagKinds, .ref a_p2_manKinds, .ref a_p2_cells])), (a_p2_bagKinds, .inl (cI, 3, .inl p2_bagKinds)), (a_p2_manKinds, .inl (cI, 5, .inl p2_manKinds_9)), (a_p2_cells, .inl (cI, 23, .inl p2_cells_10))] := hD
      exact hret r_11 (p2_bags, p2_men_8, p2_bagKinds, p2_manKinds_9, p2_cells_10) H _ _ ls hw hP hD hS dX5_tellThing_53
    · have hw := hw.2 c_3
      by_cases c_4 : r_1 = (80 : Int32)
      · have hw := hw.1 c_4
        refine lv_lookup (tgt := 54) (off := 49) hx hb dX5_tellThing_5 (by decide) (by rw [c_4]; first | done | rfl) (by decide) ?_
        refine lv_aload_n hx hb dX5_tellThing_54 rfl (lv_at hl 0 rfl) ?_
        refine lv_iload_n hx hb dX5_tellThing_55 rfl (lv_at hl 1 rfl) ?_
        refine lv_aload_n hx hb dX5_tellThing_56 rfl (lv_at hl 2 rfl) ?_
        refine kv_callVi (wr := [(a_p2_bagKinds, .inl (cI, 3, .inl p2_bagKinds)), (a_p2_manKinds, .inl (cI, 5, .inl p2_manKinds))]) (wn := (fun (u : (Nat → Int32)) => [(a_t, .inr (4, [.ref a_t_letters, .int t_length])), (a_t_letters, .inl (cI, 60, .inl t_letters)), (a_p2, .inr (0, [.int p2_bags, .int p2_men, .ref a_p2_bagKinds, .ref a_p2_manKinds, .ref a_p2_cells])), (a_p2_bagKinds, .inl (cI, 3, .inl p2_bagKinds)), (a_p2_manKinds, .inl (cI, 5, .inl p2_manKinds)), (a_p2_cells, .inl (cI, 23, .inl u))])) (As := [.int x1, .ref a_p2]) (rest := []) ⟨hx, hb, hml, hown, hts⟩ hK hX hA hP hD hS (mtX5_tellBreath l dC dI cI cZ a_t a_t_letters a_p2 a_p2_bagKinds a_p2_manKinds a_p2_cells H.size t_length t_letters p2_bags p2_men p2_cells x1 _ hw) (cwV 2 hts gX5_tellThing_X5_tellBreath rfl rfl rfl (by decide +kernel) ⟨Nat.le_of_ble_eq_true rfl, Nat.le_of_ble_eq_true rfl⟩) 4 0 rfl rfl rfl [0, 1, 2, 5] [3, 4] [2, 3, 4, 0, 1, 5] rfl rfl rfl rfl (by decide) (fun _ => rfl) rfl rfl hl.1 rfl (Nat.le_of_ble_eq_true rfl) ⟨Nat.zero_le _, Nat.zero_le _⟩ dX5_tellThing_57 (fun r_13 u H locs hw hP hD hS => ?_)
        obtain ⟨p2_cells_12, rfl⟩ : ∃ z, z = u := ⟨_, rfl⟩
        have hP : va_P (dC, dI) vwCl [(a_t, .inr (4, [.ref a_t_letters, .int t_length])), (a_t_letters, .inl (cI, 60, .inl t_letters)), (a_p2, .inr (0, [.int p2_bags, .int p2_men, .ref a_p2_bagKinds, .ref a_p2_manKinds, .ref a_p2_cells])), (a_p2_bagKinds, .inl (cI, 3, .inl p2_bagKinds)), (a_p2_manKinds, .inl (cI, 5, .inl p2_manKinds)), (a_p2_cells, .inl (cI, 23, .inl p2_cells_12))] H := hP
        have hD : va_D A [(a_t, .inr (4, [.ref a_t_letters, .int t_length])), (a_t_letters, .inl (cI, 60, .inl t_letters)), (a_p2, .inr (0, [.int p2_bags, .int p2_men, .ref a_p2_bagKinds, .ref a_p2_manKinds, .ref a_p2_cells])), (a_p2_bagKinds, .inl (cI, 3, .inl p2_bagKinds)), (a_p2_manKinds, .inl (cI, 5, .inl p2_manKinds)), (a_p2_cells, .inl (cI, 23, .inl p2_cells_12))] := hD
        exact hret r_13 (p2_bags, p2_men, p2_bagKinds, p2_manKinds, p2_cells_12) H _ _ ls hw hP hD hS dX5_tellThing_60
      · have hw := hw.2 c_4
        refine lv_lookup (tgt := 61) (off := 56) hx hb dX5_tellThing_5 (by decide) (by refine (lv_osw (k := (71 : Int32)) c_2 (by decide)).trans ?_; refine (lv_osw (k := (77 : Int32)) c_3 (by decide)).trans ?_; refine (lv_osw (k := (80 : Int32)) c_4 (by decide)).trans ?_; rfl) (by decide) ?_
        refine lv_iload_n hx hb dX5_tellThing_61 rfl (lv_at hl 1 rfl) ?_
        exact hret x1 (p2_bags, p2_men, p2_bagKinds, p2_manKinds, p2_cells) H _ _ ls hw hP hD hS dX5_tellThing_62

def wpX5_tellTo_J57 (t_letters : Nat → Int32) (t_length : Int32) (kL18 : Int32 → Int32 → (Nat → Int32) → (Nat → Int32) → (Nat → Int32) → Int32 → Prop) (post : Int32 → Int32 → Int32 → (Nat → Int32) → (Nat → Int32) → (Nat → Int32) → Prop) (p1_bags_57 : Int32) (p1_men_57 : Int32) (p1_bagKinds_57 : Nat → Int32) (p1_manKinds_57 : Nat → Int32) (p1_cells_57 : Nat → Int32) (k0_57 : Int32) (k1_57 : Int32) : Prop := ∀ y_1 : Int32, y_1 = (k1_57 + k0_57) → kL18 p1_bags_57 p1_men_57 p1_bagKinds_57 p1_manKinds_57 p1_cells_57 y_1
def wpX5_tellTo_L18 (t_letters : Nat → Int32) (t_length : Int32) (post : Int32 → Int32 → Int32 → (Nat → Int32) → (Nat → Int32) → (Nat → Int32) → Prop) : Nat → Int32 → Int32 → (Nat → Int32) → (Nat → Int32) → (Nat → Int32) → Int32 → Prop
  | 0, _, _, _, _, _, _ => False
  | n + 1, p1_bags_18, p1_men_18, p1_bagKinds_18, p1_manKinds_18, p1_cells_18, x2_18 => ((t_length ≤ x2_18 → post (-9 : Int32) p1_bags_18 p1_men_18 p1_bagKinds_18 p1_manKinds_18 p1_cells_18) ∧ (¬ t_length ≤ x2_18 → wpX5_tellThing t_letters t_length p1_bags_18 p1_men_18 p1_bagKinds_18 p1_manKinds_18 p1_cells_18 x2_18 (fun r_8 p1_bags_3 p1_men_4 p1_bagKinds_5 p1_manKinds_6 p1_cells_7 => ((r_8 = (-9 : Int32) → wpX5_letterAt t_letters t_length x2_18 (fun r_10 => ((¬ r_10 = (71 : Int32) → wpX5_tellTo_J57 t_letters t_length (wpX5_tellTo_L18 t_letters t_length post n) post p1_bags_3 p1_men_4 p1_bagKinds_5 p1_manKinds_6 p1_cells_7 (3 : Int32) x2_18) ∧ (r_10 = (71 : Int32) → wpX5_tellTo_J57 t_letters t_length (wpX5_tellTo_L18 t_letters t_length post n) post p1_bags_3 p1_men_4 p1_bagKinds_5 p1_manKinds_6 p1_cells_7 (2 : Int32) x2_18)))) ∧ (¬ r_8 = (-9 : Int32) → post r_8 p1_bags_3 p1_men_4 p1_bagKinds_5 p1_manKinds_6 p1_cells_7)))))
def wpX5_tellTo_E18 (t_letters : Nat → Int32) (t_length : Int32) (post : Int32 → Int32 → Int32 → (Nat → Int32) → (Nat → Int32) → (Nat → Int32) → Prop) (p1_bags_18 : Int32) (p1_men_18 : Int32) (p1_bagKinds_18 : Nat → Int32) (p1_manKinds_18 : Nat → Int32) (p1_cells_18 : Nat → Int32) (x2_18 : Int32) : Prop := ∃ n : Nat, wpX5_tellTo_L18 t_letters t_length post n p1_bags_18 p1_men_18 p1_bagKinds_18 p1_manKinds_18 p1_cells_18 x2_18
def wpX5_tellTo (t_letters : Nat → Int32) (t_length : Int32) (p1_bags : Int32) (p1_men : Int32) (p1_bagKinds : Nat → Int32) (p1_manKinds : Nat → Int32) (p1_cells : Nat → Int32) (post : Int32 → Int32 → Int32 → (Nat → Int32) → (Nat → Int32) → (Nat → Int32) → Prop) : Prop := wpX0_empty p1_bags p1_men p1_cells (fun p1_bags_12 p1_men_13 p1_cells_14 => wpX5_letterAt t_letters t_length (0 : Int32) (fun r_15 => ((r_15 = (66 : Int32) → wpX5_tellTo_E18 t_letters t_length post p1_bags_12 p1_men_13 p1_bagKinds p1_manKinds p1_cells_14 (1 : Int32)) ∧ (¬ r_15 = (66 : Int32) → post (0 : Int32) p1_bags_12 p1_men_13 p1_bagKinds p1_manKinds p1_cells_14))))
abbrev rmX5_tellTo : Room := { frames := 5, cells := 0, slots := 0, locals := 112 }
set_option maxHeartbeats 4000000 in
set_option maxRecDepth 100000 in
theorem mtX5_tellTo (l : Launch) (dC : Nat → ClassId) (dI : Nat → Nat → Nat) (cI cZ : ClassId) (a_t : Nat) (a_t_letters : Nat) (a_p1 : Nat) (a_p1_bagKinds : Nat) (a_p1_manKinds : Nat) (a_p1_cells : Nat) (sz : Nat) (t_length : Int32) (t_letters : Nat → Int32) (p1_bags : Int32) (p1_men : Int32) (p1_bagKinds : Nat → Int32) (p1_manKinds : Nat → Int32) (p1_cells : Nat → Int32) (post : Int32 → Int32 → Int32 → (Nat → Int32) → (Nat → Int32) → (Nat → Int32) → Prop) (hw : wpX5_tellTo t_letters t_length p1_bags p1_men p1_bagKinds p1_manKinds p1_cells post) : Met l yX5_tellTo wsX5_tellTo rmX5_tellTo (va_Pc [.ref a_t, .ref a_p1] (kvPre (dC, dI) cI cZ sz [(a_t, .inr (4, [.ref a_t_letters, .int t_length])), (a_t_letters, .inl (cI, 60, .inl t_letters)), (a_p1, .inr (0, [.int p1_bags, .int p1_men, .ref a_p1_bagKinds, .ref a_p1_manKinds, .ref a_p1_cells])), (a_p1_bagKinds, .inl (cI, 3, .inl p1_bagKinds)), (a_p1_manKinds, .inl (cI, 5, .inl p1_manKinds)), (a_p1_cells, .inl (cI, 23, .inl p1_cells))])) (va_Qi (fun (r : Int32) (u : Int32 × Int32 × (Nat → Int32) × (Nat → Int32) × (Nat → Int32)) => post r u.1 u.2.1 u.2.2.1 u.2.2.2.1 u.2.2.2.2) (kvB (dC, dI) (va_A [(a_t, .inr (4, [.ref a_t_letters, .int t_length])), (a_t_letters, .inl (cI, 60, .inl t_letters)), (a_p1, .inr (0, [.int p1_bags, .int p1_men, .ref a_p1_bagKinds, .ref a_p1_manKinds, .ref a_p1_cells])), (a_p1_bagKinds, .inl (cI, 3, .inl p1_bagKinds)), (a_p1_manKinds, .inl (cI, 5, .inl p1_manKinds)), (a_p1_cells, .inl (cI, 23, .inl p1_cells))] sz) (fun (u : Int32 × Int32 × (Nat → Int32) × (Nat → Int32) × (Nat → Int32)) => [(a_t, .inr (4, [.ref a_t_letters, .int t_length])), (a_t_letters, .inl (cI, 60, .inl t_letters)), (a_p1, .inr (0, [.int u.1, .int u.2.1, .ref a_p1_bagKinds, .ref a_p1_manKinds, .ref a_p1_cells])), (a_p1_bagKinds, .inl (cI, 3, .inl u.2.2.1)), (a_p1_manKinds, .inl (cI, 5, .inl u.2.2.2.1)), (a_p1_cells, .inl (cI, 23, .inl u.2.2.2.2))])) (va_A [(a_t, .inr (4, [.ref a_t_letters, .int t_length])), (a_t_letters, .inl (cI, 60, .inl t_letters)), (a_p1, .inr (0, [.int p1_bags, .int p1_men, .ref a_p1_bagKinds, .ref a_p1_manKinds, .ref a_p1_cells])), (a_p1_bagKinds, .inl (cI, 3, .inl p1_bagKinds)), (a_p1_manKinds, .inl (cI, 5, .inl p1_manKinds)), (a_p1_cells, .inl (cI, 23, .inl p1_cells))] sz)) 0 0 (va_A [(a_t, .inr (4, [.ref a_t_letters, .int t_length])), (a_t_letters, .inl (cI, 60, .inl t_letters)), (a_p1, .inr (0, [.int p1_bags, .int p1_men, .ref a_p1_bagKinds, .ref a_p1_manKinds, .ref a_p1_cells])), (a_p1_bagKinds, .inl (cI, 3, .inl p1_bagKinds)), (a_p1_manKinds, .inl (cI, 5, .inl p1_manKinds)), (a_p1_cells, .inl (cI, 23, .inl p1_cells))] sz) := by
  refine kv_metI (y := yX5_tellTo) (ws := wsX5_tellTo) (rm := rmX5_tellTo) (av := [.ref a_t, .ref a_p1]) (sz := sz) (w := [(a_t, .inr (4, [.ref a_t_letters, .int t_length])), (a_t_letters, .inl (cI, 60, .inl t_letters)), (a_p1, .inr (0, [.int p1_bags, .int p1_men, .ref a_p1_bagKinds, .ref a_p1_manKinds, .ref a_p1_cells])), (a_p1_bagKinds, .inl (cI, 3, .inl p1_bagKinds)), (a_p1_manKinds, .inl (cI, 5, .inl p1_manKinds)), (a_p1_cells, .inl (cI, 23, .inl p1_cells))]) (cc := cX5_tellTo) (maxL := 4) (own := RX5) (post := (fun (r : Int32) (u : Int32 × Int32 × (Nat → Int32) × (Nat → Int32) × (Nat → Int32)) => post r u.1 u.2.1 u.2.2.1 u.2.2.2.1 u.2.2.2.2)) (w1 := (fun (u : Int32 × Int32 × (Nat → Int32) × (Nat → Int32) × (Nat → Int32)) => [(a_t, .inr (4, [.ref a_t_letters, .int t_length])), (a_t_letters, .inl (cI, 60, .inl t_letters)), (a_p1, .inr (0, [.int u.1, .int u.2.1, .ref a_p1_bagKinds, .ref a_p1_manKinds, .ref a_p1_cells])), (a_p1_bagKinds, .inl (cI, 3, .inl u.2.2.1)), (a_p1_manKinds, .inl (cI, 5, .inl u.2.2.2.1)), (a_p1_cells, .inl (cI, 23, .inl u.2.2.2.2))])) (by decide) rfl rfl (Nat.le_of_ble_eq_true rfl) ?_
  intro p e s m below meth c A Q hx hb hml hown hts hK hX hA hP hD hsz hret ls hl
  have hS : va_S A s.heap s.heap [] := va_S.rf
  have hl : lv_has ls 4 [(0, .ref a_t), (1, .ref a_p1)] := hl
  have inX5 : ∀ w ∈ u_ws RX5 TX5 2, w ∈ wsX5_tellTo := by decide +kernel
  have fl15 := hts (.fieldLink RX5 15 "BreathBags$Text" "length" "I") (by decide +kernel)
  have L18 : ∀  (n18 : Nat) (p1_bags_18 : Int32) (p1_men_18 : Int32) (p1_bagKinds_18 : Nat → Int32) (p1_manKinds_18 : Nat → Int32) (p1_cells_18 : Nat → Int32) (x2_18 : Int32) (H : Heap) (locs : List Loc) (ls : Array Slot), wpX5_tellTo_L18 t_letters t_length post n18 p1_bags_18 p1_men_18 p1_bagKinds_18 p1_manKinds_18 p1_cells_18 x2_18 → va_P (dC, dI) vwCl [(a_t, .inr (4, [.ref a_t_letters, .int t_length])), (a_t_letters, .inl (cI, 60, .inl t_letters)), (a_p1, .inr (0, [.int p1_bags_18, .int p1_men_18, .ref a_p1_bagKinds, .ref a_p1_manKinds, .ref a_p1_cells])), (a_p1_bagKinds, .inl (cI, 3, .inl p1_bagKinds_18)), (a_p1_manKinds, .inl (cI, 5, .inl p1_manKinds_18)), (a_p1_cells, .inl (cI, 23, .inl p1_cells_18))] H → va_D A [(a_t, .inr (4, [.ref a_t_letters, .int t_length])), (a_t_letters, .inl (cI, 60, .inl t_letters)), (a_p1, .inr (0, [.int p1_bags_18, .int p1_men_18, .ref a_p1_bagKinds, .ref a_p1_manKinds, .ref a_p1_cells])), (a_p1_bagKinds, .inl (cI, 3, .inl p1_bagKinds_18)), (a_p1_manKinds, .inl (cI, 5, .inl p1_manKinds_18)), (a_p1_cells, .inl (cI, 23, .inl p1_cells_18))] → va_S A s.heap H locs → lv_has ls 4 [(0, .ref a_t), (1, .ref a_p1), (2, .int x2_18)] → W p l e rmX5_tellTo s m [.ref a_t, .ref a_p1].toArray below meth c H locs 0 0 Q (F0 m 18 ls []) := by
    intro  n18
    induction n18 with
    | zero => intro p1_bags_18 p1_men_18 p1_bagKinds_18 p1_manKinds_18 p1_cells_18 x2_18 H locs ls hw hP hD hS hl; exact hw.elim
    | succ n18 ih18 =>
      have B57 : ∀ (p1_bags_57 : Int32) (p1_men_57 : Int32) (p1_bagKinds_57 : Nat → Int32) (p1_manKinds_57 : Nat → Int32) (p1_cells_57 : Nat → Int32) (k0_57 : Int32) (k1_57 : Int32) (H : Heap) (locs : List Loc) (ls : Array Slot), wpX5_tellTo_J57 t_letters t_length (wpX5_tellTo_L18 t_letters t_length post n18) post p1_bags_57 p1_men_57 p1_bagKinds_57 p1_manKinds_57 p1_cells_57 k0_57 k1_57 → va_P (dC, dI) vwCl [(a_t, .inr (4, [.ref a_t_letters, .int t_length])), (a_t_letters, .inl (cI, 60, .inl t_letters)), (a_p1, .inr (0, [.int p1_bags_57, .int p1_men_57, .ref a_p1_bagKinds, .ref a_p1_manKinds, .ref a_p1_cells])), (a_p1_bagKinds, .inl (cI, 3, .inl p1_bagKinds_57)), (a_p1_manKinds, .inl (cI, 5, .inl p1_manKinds_57)), (a_p1_cells, .inl (cI, 23, .inl p1_cells_57))] H → va_D A [(a_t, .inr (4, [.ref a_t_letters, .int t_length])), (a_t_letters, .inl (cI, 60, .inl t_letters)), (a_p1, .inr (0, [.int p1_bags_57, .int p1_men_57, .ref a_p1_bagKinds, .ref a_p1_manKinds, .ref a_p1_cells])), (a_p1_bagKinds, .inl (cI, 3, .inl p1_bagKinds_57)), (a_p1_manKinds, .inl (cI, 5, .inl p1_manKinds_57)), (a_p1_cells, .inl (cI, 23, .inl p1_cells_57))] → va_S A s.heap H locs → lv_has ls 4 [(0, .ref a_t), (1, .ref a_p1)] → W p l e rmX5_tellTo s m [.ref a_t, .ref a_p1].toArray below meth c H locs 0 0 Q (F0 m 57 ls [.int k0_57, .int k1_57]) := by
        intro p1_bags_57 p1_men_57 p1_bagKinds_57 p1_manKinds_57 p1_cells_57 k0_57 k1_57 H locs ls hw hP hD hS hl
        refine lv_iadd hx hb dX5_tellTo_57 ?_
        refine lv_topi (fun y_1 ey_1 => ?_)
        have hw := hw y_1 ey_1
        refine lv_istore_n (lv' := [(2, .int y_1), (0, .ref a_t), (1, .ref a_p1)]) hx hb dX5_tellTo_58 rfl hl (by decide) rfl (fun ls hl => ?_)
        refine lv_goto (tgt := 18) hx hb dX5_tellTo_59 (by decide) ?_
        exact ih18 p1_bags_57 p1_men_57 p1_bagKinds_57 p1_manKinds_57 p1_cells_57 y_1 H _ ls hw hP hD hS (lv_sub hl [1, 2, 0] rfl)
      intro p1_bags_18 p1_men_18 p1_bagKinds_18 p1_manKinds_18 p1_cells_18 x2_18 H locs ls hw hP hD hS hl
      refine lv_iload_n hx hb dX5_tellTo_18 rfl (lv_at hl 2 rfl) ?_
      refine lv_aload_n hx hb dX5_tellTo_19 rfl (lv_at hl 0 rfl) ?_
      refine va_get (D := (dC, dI)) (ci := 4) (v := .int t_length) (C := RX5) (T := TX5) (N := 2) hx hb hts inX5 hown hK hP 0 rfl rfl 1 (by decide) fl15 (fun _ h9 => h9) rfl dX5_tellTo_20 ?_
      refine lv_icmp_ge (tgt := 62) hx hb dX5_tellTo_23 (by decide) (fun c_2 => ?_) (fun c_2 => ?_)
      · have hw := hw.1 c_2
        refine lv_bipush (v := (-9 : Int32)) hx hb dX5_tellTo_62 (by decide) ?_
        exact hret (-9 : Int32) (p1_bags_18, p1_men_18, p1_bagKinds_18, p1_manKinds_18, p1_cells_18) H _ _ ls hw hP hD hS dX5_tellTo_64
      · have hw := hw.2 c_2
        refine lv_aload_n hx hb dX5_tellTo_26 rfl (lv_at hl 0 rfl) ?_
        refine lv_iload_n hx hb dX5_tellTo_27 rfl (lv_at hl 2 rfl) ?_
        refine lv_aload_n hx hb dX5_tellTo_28 rfl (lv_at hl 1 rfl) ?_
        refine kv_callVi (wr := []) (wn := (fun (u : Int32 × Int32 × (Nat → Int32) × (Nat → Int32) × (Nat → Int32)) => [(a_t, .inr (4, [.ref a_t_letters, .int t_length])), (a_t_letters, .inl (cI, 60, .inl t_letters)), (a_p1, .inr (0, [.int u.1, .int u.2.1, .ref a_p1_bagKinds, .ref a_p1_manKinds, .ref a_p1_cells])), (a_p1_bagKinds, .inl (cI, 3, .inl u.2.2.1)), (a_p1_manKinds, .inl (cI, 5, .inl u.2.2.2.1)), (a_p1_cells, .inl (cI, 23, .inl u.2.2.2.2))])) (As := [.int x2_18, .ref a_p1]) (rest := []) ⟨hx, hb, hml, hown, hts⟩ hK hX hA hP hD hS (mtX5_tellThing l dC dI cI cZ a_t a_t_letters a_p1 a_p1_bagKinds a_p1_manKinds a_p1_cells H.size t_length t_letters p1_bags_18 p1_men_18 p1_bagKinds_18 p1_manKinds_18 p1_cells_18 x2_18 _ hw) (cwV 2 hts gX5_tellTo_X5_tellThing rfl rfl rfl (by decide +kernel) ⟨Nat.le_of_ble_eq_true rfl, Nat.le_of_ble_eq_true rfl⟩) 4 0 rfl rfl rfl [0, 1, 2, 3, 4, 5] [] [0, 1, 2, 3, 4, 5] rfl rfl rfl rfl (by decide) (fun _ => rfl) rfl rfl hl.1 rfl (Nat.le_of_ble_eq_true rfl) ⟨Nat.zero_le _, Nat.zero_le _⟩ dX5_tellTo_29 (fun r_8 u H locs hw hP hD hS => ?_)
        obtain ⟨p1_bags_3, p1_men_4, p1_bagKinds_5, p1_manKinds_6, p1_cells_7⟩ := u
        have hP : va_P (dC, dI) vwCl [(a_t, .inr (4, [.ref a_t_letters, .int t_length])), (a_t_letters, .inl (cI, 60, .inl t_letters)), (a_p1, .inr (0, [.int p1_bags_3, .int p1_men_4, .ref a_p1_bagKinds, .ref a_p1_manKinds, .ref a_p1_cells])), (a_p1_bagKinds, .inl (cI, 3, .inl p1_bagKinds_5)), (a_p1_manKinds, .inl (cI, 5, .inl p1_manKinds_6)), (a_p1_cells, .inl (cI, 23, .inl p1_cells_7))] H := hP
        have hD : va_D A [(a_t, .inr (4, [.ref a_t_letters, .int t_length])), (a_t_letters, .inl (cI, 60, .inl t_letters)), (a_p1, .inr (0, [.int p1_bags_3, .int p1_men_4, .ref a_p1_bagKinds, .ref a_p1_manKinds, .ref a_p1_cells])), (a_p1_bagKinds, .inl (cI, 3, .inl p1_bagKinds_5)), (a_p1_manKinds, .inl (cI, 5, .inl p1_manKinds_6)), (a_p1_cells, .inl (cI, 23, .inl p1_cells_7))] := hD
        refine lv_istore_n (lv' := [(3, .int r_8), (0, .ref a_t), (1, .ref a_p1), (2, .int x2_18)]) hx hb dX5_tellTo_32 rfl hl (by decide) rfl (fun ls hl => ?_)
        refine lv_iload_n hx hb dX5_tellTo_33 rfl (lv_at hl 0 rfl) ?_
        refine lv_bipush (v := (-9 : Int32)) hx hb dX5_tellTo_34 (by decide) ?_
        refine lv_icmp_eq (tgt := 41) hx hb dX5_tellTo_36 (by decide) (fun c_9 => ?_) (fun c_9 => ?_)
        · have hw := hw.1 c_9
          refine lv_iload_n hx hb dX5_tellTo_41 rfl (lv_at hl 3 rfl) ?_
          refine lv_aload_n hx hb dX5_tellTo_42 rfl (lv_at hl 1 rfl) ?_
          refine lv_iload_n hx hb dX5_tellTo_43 rfl (lv_at hl 3 rfl) ?_
          refine kv_callVi (wr := [(a_p1, .inr (0, [.int p1_bags_3, .int p1_men_4, .ref a_p1_bagKinds, .ref a_p1_manKinds, .ref a_p1_cells])), (a_p1_bagKinds, .inl (cI, 3, .inl p1_bagKinds_5)), (a_p1_manKinds, .inl (cI, 5, .inl p1_manKinds_6)), (a_p1_cells, .inl (cI, 23, .inl p1_cells_7))]) (wn := (fun (u : Unit) => [(a_t, .inr (4, [.ref a_t_letters, .int t_length])), (a_t_letters, .inl (cI, 60, .inl t_letters)), (a_p1, .inr (0, [.int p1_bags_3, .int p1_men_4, .ref a_p1_bagKinds, .ref a_p1_manKinds, .ref a_p1_cells])), (a_p1_bagKinds, .inl (cI, 3, .inl p1_bagKinds_5)), (a_p1_manKinds, .inl (cI, 5, .inl p1_manKinds_6)), (a_p1_cells, .inl (cI, 23, .inl p1_cells_7))])) (As := [.int x2_18]) (rest := [.int x2_18]) ⟨hx, hb, hml, hown, hts⟩ hK hX hA hP hD hS (mtX5_letterAt l dC dI cI cZ a_t a_t_letters H.size t_length t_letters x2_18 _ hw) (cwV 1 hts gX5_tellTo_X5_letterAt rfl rfl rfl (by decide +kernel) ⟨Nat.le_of_ble_eq_true rfl, Nat.le_of_ble_eq_true rfl⟩) 4 0 rfl rfl rfl [0, 1] [2, 3, 4, 5] [4, 5, 0, 1, 2, 3] rfl rfl rfl rfl (by decide) (fun _ => rfl) rfl rfl hl.1 rfl (Nat.le_of_ble_eq_true rfl) ⟨Nat.zero_le _, Nat.zero_le _⟩ dX5_tellTo_44 (fun r_10 u H locs hw hP hD hS => ?_)
          refine lv_bipush (v := (71 : Int32)) hx hb dX5_tellTo_47 (by decide) ?_
          refine lv_icmp_ne (tgt := 56) hx hb dX5_tellTo_49 (by decide) (fun c_11 => ?_) (fun c_11 => ?_)
          · have hw := hw.1 c_11
            refine lv_iconst (v := (3 : Int32)) hx hb dX5_tellTo_56 (by decide) ?_
            exact B57 p1_bags_3 p1_men_4 p1_bagKinds_5 p1_manKinds_6 p1_cells_7 (3 : Int32) x2_18 H _ ls hw hP hD hS (lv_sub hl [1, 2] rfl)
          · have hw := hw.2 c_11
            refine lv_iconst (v := (2 : Int32)) hx hb dX5_tellTo_52 (by decide) ?_
            refine lv_goto (tgt := 57) hx hb dX5_tellTo_53 (by decide) ?_
            exact B57 p1_bags_3 p1_men_4 p1_bagKinds_5 p1_manKinds_6 p1_cells_7 (2 : Int32) x2_18 H _ ls hw hP hD hS (lv_sub hl [1, 2] rfl)
        · have hw := hw.2 c_9
          refine lv_iload_n hx hb dX5_tellTo_39 rfl (lv_at hl 0 rfl) ?_
          exact hret r_8 (p1_bags_3, p1_men_4, p1_bagKinds_5, p1_manKinds_6, p1_cells_7) H _ _ ls hw hP hD hS dX5_tellTo_40
  have E18 : ∀ (p1_bags_18 : Int32) (p1_men_18 : Int32) (p1_bagKinds_18 : Nat → Int32) (p1_manKinds_18 : Nat → Int32) (p1_cells_18 : Nat → Int32) (x2_18 : Int32) (H : Heap) (locs : List Loc) (ls : Array Slot), wpX5_tellTo_E18 t_letters t_length post p1_bags_18 p1_men_18 p1_bagKinds_18 p1_manKinds_18 p1_cells_18 x2_18 → va_P (dC, dI) vwCl [(a_t, .inr (4, [.ref a_t_letters, .int t_length])), (a_t_letters, .inl (cI, 60, .inl t_letters)), (a_p1, .inr (0, [.int p1_bags_18, .int p1_men_18, .ref a_p1_bagKinds, .ref a_p1_manKinds, .ref a_p1_cells])), (a_p1_bagKinds, .inl (cI, 3, .inl p1_bagKinds_18)), (a_p1_manKinds, .inl (cI, 5, .inl p1_manKinds_18)), (a_p1_cells, .inl (cI, 23, .inl p1_cells_18))] H → va_D A [(a_t, .inr (4, [.ref a_t_letters, .int t_length])), (a_t_letters, .inl (cI, 60, .inl t_letters)), (a_p1, .inr (0, [.int p1_bags_18, .int p1_men_18, .ref a_p1_bagKinds, .ref a_p1_manKinds, .ref a_p1_cells])), (a_p1_bagKinds, .inl (cI, 3, .inl p1_bagKinds_18)), (a_p1_manKinds, .inl (cI, 5, .inl p1_manKinds_18)), (a_p1_cells, .inl (cI, 23, .inl p1_cells_18))] → va_S A s.heap H locs → lv_has ls 4 [(0, .ref a_t), (1, .ref a_p1), (2, .int x2_18)] → W p l e rmX5_tellTo s m [.ref a_t, .ref a_p1].toArray below meth c H locs 0 0 Q (F0 m 18 ls []) := by
    intro p1_bags_18 p1_men_18 p1_bagKinds_18 p1_manKinds_18 p1_cells_18 x2_18 H locs ls hw hP hD hS hl
    obtain ⟨n, hw⟩ := hw
    exact L18  n p1_bags_18 p1_men_18 p1_bagKinds_18 p1_manKinds_18 p1_cells_18 x2_18 H locs ls hw hP hD hS hl
  refine lv_aload_n hx hb dX5_tellTo_0 rfl (lv_at hl 1 rfl) ?_
  refine kv_callVv (wr := [(a_t, .inr (4, [.ref a_t_letters, .int t_length])), (a_t_letters, .inl (cI, 60, .inl t_letters)), (a_p1_bagKinds, .inl (cI, 3, .inl p1_bagKinds)), (a_p1_manKinds, .inl (cI, 5, .inl p1_manKinds))]) (wn := (fun (u : Int32 × Int32 × (Nat → Int32)) => [(a_t, .inr (4, [.ref a_t_letters, .int t_length])), (a_t_letters, .inl (cI, 60, .inl t_letters)), (a_p1, .inr (0, [.int u.1, .int u.2.1, .ref a_p1_bagKinds, .ref a_p1_manKinds, .ref a_p1_cells])), (a_p1_bagKinds, .inl (cI, 3, .inl p1_bagKinds)), (a_p1_manKinds, .inl (cI, 5, .inl p1_manKinds)), (a_p1_cells, .inl (cI, 23, .inl u.2.2))])) (As := []) (rest := []) ⟨hx, hb, hml, hown, hts⟩ hK hX hA hP hD hS (mtX0_empty l dC dI cI cZ a_p1 a_p1_bagKinds a_p1_manKinds a_p1_cells s.heap.size p1_bags p1_men p1_cells _ hw) (cwV 0 hts gX5_tellTo_X0_empty rfl rfl rfl (by decide +kernel) ⟨Nat.le_of_ble_eq_true rfl, Nat.le_of_ble_eq_true rfl⟩) 0 2 rfl rfl rfl [2, 5] [0, 1, 3, 4] [0, 1, 4, 2, 3, 5] rfl rfl rfl rfl (by decide) (fun _ => rfl) rfl rfl hl.1 rfl (Nat.le_of_ble_eq_true rfl) ⟨Nat.zero_le _, Nat.zero_le _⟩ dX5_tellTo_1 (fun u H locs hw hP hD hS => ?_)
  obtain ⟨p1_bags_12, p1_men_13, p1_cells_14⟩ := u
  have hP : va_P (dC, dI) vwCl [(a_t, .inr (4, [.ref a_t_letters, .int t_length])), (a_t_letters, .inl (cI, 60, .inl t_letters)), (a_p1, .inr (0, [.int p1_bags_12, .int p1_men_13, .ref a_p1_bagKinds, .ref a_p1_manKinds, .ref a_p1_cells])), (a_p1_bagKinds, .inl (cI, 3, .inl p1_bagKinds)), (a_p1_manKinds, .inl (cI, 5, .inl p1_manKinds)), (a_p1_cells, .inl (cI, 23, .inl p1_cells_14))] H := hP
  have hD : va_D A [(a_t, .inr (4, [.ref a_t_letters, .int t_length])), (a_t_letters, .inl (cI, 60, .inl t_letters)), (a_p1, .inr (0, [.int p1_bags_12, .int p1_men_13, .ref a_p1_bagKinds, .ref a_p1_manKinds, .ref a_p1_cells])), (a_p1_bagKinds, .inl (cI, 3, .inl p1_bagKinds)), (a_p1_manKinds, .inl (cI, 5, .inl p1_manKinds)), (a_p1_cells, .inl (cI, 23, .inl p1_cells_14))] := hD
  refine lv_aload_n hx hb dX5_tellTo_4 rfl (lv_at hl 0 rfl) ?_
  refine lv_iconst (v := (0 : Int32)) hx hb dX5_tellTo_5 (by decide) ?_
  refine kv_callVi (wr := [(a_p1, .inr (0, [.int p1_bags_12, .int p1_men_13, .ref a_p1_bagKinds, .ref a_p1_manKinds, .ref a_p1_cells])), (a_p1_bagKinds, .inl (cI, 3, .inl p1_bagKinds)), (a_p1_manKinds, .inl (cI, 5, .inl p1_manKinds)), (a_p1_cells, .inl (cI, 23, .inl p1_cells_14))]) (wn := (fun (u : Unit) => [(a_t, .inr (4, [.ref a_t_letters, .int t_length])), (a_t_letters, .inl (cI, 60, .inl t_letters)), (a_p1, .inr (0, [.int p1_bags_12, .int p1_men_13, .ref a_p1_bagKinds, .ref a_p1_manKinds, .ref a_p1_cells])), (a_p1_bagKinds, .inl (cI, 3, .inl p1_bagKinds)), (a_p1_manKinds, .inl (cI, 5, .inl p1_manKinds)), (a_p1_cells, .inl (cI, 23, .inl p1_cells_14))])) (As := [.int (0 : Int32)]) (rest := []) ⟨hx, hb, hml, hown, hts⟩ hK hX hA hP hD hS (mtX5_letterAt l dC dI cI cZ a_t a_t_letters H.size t_length t_letters (0 : Int32) _ hw) (cwV 1 hts gX5_tellTo_X5_letterAt rfl rfl rfl (by decide +kernel) ⟨Nat.le_of_ble_eq_true rfl, Nat.le_of_ble_eq_true rfl⟩) 4 0 rfl rfl rfl [0, 1] [2, 3, 4, 5] [4, 5, 0, 1, 2, 3] rfl rfl rfl rfl (by decide) (fun _ => rfl) rfl rfl hl.1 rfl (Nat.le_of_ble_eq_true rfl) ⟨Nat.zero_le _, Nat.zero_le _⟩ dX5_tellTo_6 (fun r_15 u H locs hw hP hD hS => ?_)
  refine lv_bipush (v := (66 : Int32)) hx hb dX5_tellTo_9 (by decide) ?_
  refine lv_icmp_eq (tgt := 16) hx hb dX5_tellTo_11 (by decide) (fun c_16 => ?_) (fun c_16 => ?_)
  · have hw := hw.1 c_16
    refine lv_iconst (v := (1 : Int32)) hx hb dX5_tellTo_16 (by decide) ?_
    refine lv_istore_n (lv' := [(2, .int (1 : Int32)), (0, .ref a_t), (1, .ref a_p1)]) hx hb dX5_tellTo_17 rfl hl (by decide) rfl (fun ls hl => ?_)
    exact E18 p1_bags_12 p1_men_13 p1_bagKinds p1_manKinds p1_cells_14 (1 : Int32) H _ ls hw hP hD hS (lv_sub hl [1, 2, 0] rfl)
  · have hw := hw.2 c_16
    refine lv_iconst (v := (0 : Int32)) hx hb dX5_tellTo_14 (by decide) ?_
    exact hret (0 : Int32) (p1_bags_12, p1_men_13, p1_bagKinds, p1_manKinds, p1_cells_14) H _ _ ls hw hP hD hS dX5_tellTo_15
