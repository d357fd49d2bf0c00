section OB
variable {c_text_letters : Nat → Int32} {c_text_length : Int32} {c_now_bags : Int32} {c_now_men : Int32} {c_now_bagKinds : Nat → Int32} {c_now_manKinds : Nat → Int32} {c_now_cells : Nat → Int32} {c_trial_bags : Int32} {c_trial_men : Int32} {c_trial_bagKinds : Nat → Int32} {c_trial_manKinds : Nat → Int32} {c_trial_cells : Nat → Int32} {c_past_rows : Nat → Int32} {c_past_next : Int32} {c_past_count : Int32} {c_slots_rows : Nat → Int32} {c_slots_keptBits : Int32} {c_felt_men : Nat → Int32} {c_felt_bags : Nat → Int32} {c_felt_lengths : Nat → Int32} {c_felt_played : Nat → Int32} {c_felt_count : Int32} {c_chance : Int64} {m_thrown : Int32} {m_text : Nat → Int32} {m_textSize : Int32} {m_place : Int32} {m_bags : Int32} {m_sort : Nat → Int32} {m_men : Int32} {m_kind : Nat → Int32} {m_readBags : Int32} {m_readSort : Nat → Int32} {m_readMen : Int32} {m_readMan : Nat → Int32} {m_readPage : Nat → Int32} {m_page : Nat → Int32} {m_trial : Nat → Int32} {m_book : Nat → Int32} {m_acts : Int32} {m_kept : Nat → Int32} {m_isKept : Nat → Int32} {m_felt : Int32} {m_feltMan : Nat → Int32} {m_feltBag : Nat → Int32} {m_feltMany : Nat → Int32} {m_feltIs : Nat → Int32} {m_seed : Int64} {m_routeFew : Int32} {m_routeWay : Int32} {m_whichMany : Int32} {m_whichFirst : Int32} {m_restMany : Int32} {m_restFirst : Int32} {m_gains : Nat → Int32} {m_value : Nat → Int32}
set_option maxRecDepth 20000 in
set_option maxHeartbeats 2000000 in
theorem O_years (hR : Rel c_text_letters c_text_length c_now_bags c_now_men c_now_bagKinds c_now_manKinds c_now_cells c_trial_bags c_trial_men c_trial_bagKinds c_trial_manKinds c_trial_cells c_past_rows c_past_next c_past_count c_slots_rows c_slots_keptBits c_felt_men c_felt_bags c_felt_lengths c_felt_played c_felt_count c_chance m_thrown m_text m_textSize m_place m_bags m_sort m_men m_kind m_readBags m_readSort m_readMen m_readMan m_readPage m_page m_trial m_book m_acts m_kept m_isKept m_felt m_feltMan m_feltBag m_feltMany m_feltIs m_seed m_routeFew m_routeWay m_whichMany m_whichFirst m_restMany m_restFirst m_gains m_value) (x1 : Int32) : wpX6_years c_now_bags c_now_men c_now_bagKinds c_now_manKinds c_now_cells c_trial_bags c_trial_men c_trial_bagKinds c_trial_manKinds c_trial_cells c_chance x1 (fun r c_trial_bags' c_trial_men' c_trial_bagKinds' c_trial_manKinds' c_trial_cells' c_chance' => wpX7_years m_thrown m_bags m_sort m_men m_kind m_page m_trial m_seed x1 (fun r' m_thrown' m_trial' m_seed' => r = r' ∧ Rel c_text_letters c_text_length c_now_bags c_now_men c_now_bagKinds c_now_manKinds c_now_cells c_trial_bags' c_trial_men' c_trial_bagKinds' c_trial_manKinds' c_trial_cells' c_past_rows c_past_next c_past_count c_slots_rows c_slots_keptBits c_felt_men c_felt_bags c_felt_lengths c_felt_played c_felt_count c_chance' m_thrown' m_text m_textSize m_place m_bags m_sort m_men m_kind m_readBags m_readSort m_readMen m_readMan m_readPage m_page m_trial' m_book m_acts m_kept m_isKept m_felt m_feltMan m_feltBag m_feltMany m_feltIs m_seed' m_routeFew m_routeWay m_whichMany m_whichFirst m_restMany m_restFirst m_gains m_value)) := by
  obtain ⟨B, M, kb, km, d, h, kp, fe, fn, tx, tn, ⟨hW, rfl, rfl, hbk, hmk, hC, rfl, rfl, hso, hki, hM⟩, ⟨hh, hcp, hmp⟩, hS, hF, hT, hE⟩ := id hR
  have hB3 := hW.1
  have hM5 := hW.2.1
  subst hE
  cases h1 : rg 1 30 x1 with
  | none => exact rgn_le (lo := 1) (hi := 30) (by omega) (by omega) h1 (M_in_n (lo := 1) (hi := 30) rfl rfl (by omega) (by omega) h1 ⟨fun q => absurd rfl q, fun _ => ⟨rfl, ⟨B, M, kb, km, d, h, kp, fe, fn, tx, tn, ⟨hW, rfl, rfl, hbk, hmk, hC, rfl, rfl, hso, hki, hM⟩, ⟨hh, hcp, hmp⟩, hS, hF, hT, rfl⟩⟩⟩)
  | some n =>
    obtain ⟨n1, n2, rfl⟩ := rg_some h1
    refine rgs_le (lo := 1) (hi := 30) (by omega) (by omega) h1 (C_becomeAll (fun bk mk c e1 e2 e3 => ?_))
    have hbk' : SK B kb bk := fun b hb => by rw [e1 b (by omega)]; exact hbk b hb
    have hmk' : SK M km mk := fun b hb => by rw [e2 b (by omega)]; exact hmk b hb
    have fin : ∀ tb tm tbk tmk tc v sd, (v, sd) = yrun kb km B M n c_chance d 0 → wpX7_years m_thrown (nI B) m_sort (nI M) m_kind m_page m_trial c_chance (nI n) (fun r' m_thrown' m_trial' m_seed' => v = r' ∧ Rel c_text_letters c_text_length (nI B) (nI M) c_now_bagKinds c_now_manKinds c_now_cells tb tm tbk tmk tc c_past_rows c_past_next c_past_count c_slots_rows c_slots_keptBits c_felt_men c_felt_bags c_felt_lengths c_felt_played c_felt_count sd m_thrown' m_text m_textSize m_place (nI B) m_sort (nI M) m_kind m_readBags m_readSort m_readMen m_readMan m_readPage m_page m_trial' m_book m_acts m_kept m_isKept m_felt m_feltMan m_feltBag m_feltMany m_feltIs m_seed' m_routeFew m_routeWay m_whichMany m_whichFirst m_restMany m_restFirst m_gains m_value) := by
      intro tb tm tbk tmk tc v sd ev
      refine M_in_s (lo := 1) (hi := 30) rfl rfl (by omega) (by omega) h1 ⟨fun _ => M_begin (fun t' ht' => ?_), fun q => absurd q (by decide)⟩
      have key : ∀ (k i : Nat) (D : Dy) (e : Nat → Int32) (s : Int64) (u : Int32), i + k = n → WF B M D → RM D e → (v, sd) = yrun kb km B M k s D u → wpX7_years_L28 (nI B) m_sort (nI M) m_kind m_page (nI n) 0 (fun r' m_thrown' m_trial' m_seed' => v = r' ∧ Rel c_text_letters c_text_length (nI B) (nI M) c_now_bagKinds c_now_manKinds c_now_cells tb tm tbk tmk tc c_past_rows c_past_next c_past_count c_slots_rows c_slots_keptBits c_felt_men c_felt_bags c_felt_lengths c_felt_played c_felt_count sd m_thrown' m_text m_textSize m_place (nI B) m_sort (nI M) m_kind m_readBags m_readSort m_readMen m_readMan m_readPage m_page m_trial' m_book m_acts m_kept m_isKept m_felt m_feltMan m_feltBag m_feltMany m_feltIs m_seed' m_routeFew m_routeWay m_whichMany m_whichFirst m_restMany m_restFirst m_gains m_value) (k + 1) e s u (nI i) := by
        intro k
        induction k with
        | zero =>
          intro i D e s u hi w he hv
          rw [yrun] at hv
          obtain ⟨rfl, rfl⟩ := Prod.mk.inj hv
          exact ⟨fun _ => ⟨rfl, ⟨B, M, kb, km, d, h, kp, fe, fn, tx, tn, ⟨hW, rfl, rfl, hbk, hmk, hC, rfl, rfl, hso, hki, hM⟩, ⟨hh, hcp, hmp⟩, hS, hF, hT, rfl⟩⟩, fun q => absurd (nI_le (by omega) (by omega)) q⟩
        | succ k ih =>
          intro i D e s u hi w he hv
          refine ⟨fun q => absurd q (nI_ge (by omega) (by omega)), fun _ => ?_⟩
          rintro y rfl
          rw [yrun] at hv
          obtain ⟨x, hx, ex⟩ := lotOf_lt (s * 6364136223846793005 + 1442695040888963407)
          rintro z ez
          have ez2 : z = nI x := ez.trans ex
          subst ez2
          rw [ex, nI_toInt (by omega), show ((x : Int)).toNat = x from rfl] at hv
          have step : ∀ t, t = lotT x → wpX7_years_J138 (nI B) m_sort (nI M) m_kind m_page (nI n) 0 (wpX7_years_L28 (nI B) m_sort (nI M) m_kind m_page (nI n) 0 (fun r' m_thrown' m_trial' m_seed' => v = r' ∧ Rel c_text_letters c_text_length (nI B) (nI M) c_now_bagKinds c_now_manKinds c_now_cells tb tm tbk tmk tc c_past_rows c_past_next c_past_count c_slots_rows c_slots_keptBits c_felt_men c_felt_bags c_felt_lengths c_felt_played c_felt_count sd m_thrown' m_text m_textSize m_place (nI B) m_sort (nI M) m_kind m_readBags m_readSort m_readMen m_readMan m_readPage m_page m_trial' m_book m_acts m_kept m_isKept m_felt m_feltMan m_feltBag m_feltMany m_feltIs m_seed' m_routeFew m_routeWay m_whichMany m_whichFirst m_restMany m_restFirst m_gains m_value) (k + 1)) (fun r' m_thrown' m_trial' m_seed' => v = r' ∧ Rel c_text_letters c_text_length (nI B) (nI M) c_now_bagKinds c_now_manKinds c_now_cells tb tm tbk tmk tc c_past_rows c_past_next c_past_count c_slots_rows c_slots_keptBits c_felt_men c_felt_bags c_felt_lengths c_felt_played c_felt_count sd m_thrown' m_text m_textSize m_place (nI B) m_sort (nI M) m_kind m_readBags m_readSort m_readMen m_readMan m_readPage m_page m_trial' m_book m_acts m_kept m_isKept m_felt m_feltMan m_feltBag m_feltMany m_feltIs m_seed' m_routeFew m_routeWay m_whichMany m_whichFirst m_restMany m_restFirst m_gains m_value) e (s * 6364136223846793005 + 1442695040888963407) u (nI i) (nI t) := by
            intro t et
            have ht : t < 1000 := by rw [et]; unfold lotT; split <;> (try split) <;> (try split) <;> omega
            rw [← et] at hv
            refine M_does w he hso hki ht (fun e0 p' hp => ?_) (fun d' e0 p' hp => ?_)
            · rw [e0] at hv
              refine M_inAll w hp ?_
              rintro _ rfl _ rfl
              rw [show nI i + (1 : Int32) = nI (i + 1) from nI_1 i]
              exact ih (i + 1) D p' _ _ (by omega) w hp hv
            · rw [e0] at hv
              have w2 := wf_doing w e0
              refine M_inAll w2 hp ?_
              rintro _ rfl _ rfl
              rw [show nI i + (1 : Int32) = nI (i + 1) from nI_1 i]
              exact ih (i + 1) d' p' _ _ (by omega) w2 hp hv
          refine pk_le 15 x (fun q1 => pk_le 30 x (fun q2 => pk_le 33 x (fun q3 => step 0 ?_) (fun q3 => ?_)) (fun q2 => ?_)) (fun q1 => ?_)
          · unfold lotT; rw [if_neg (by omega), if_neg (by omega), if_neg (by omega)]
          · rw [show nI x - (30 : Int32) = nI (x - 30) from pk_sub (b := 30) (by omega), show (10 : Int32) * nI (x - 30) = nI (10 * (x - 30)) from pk_mul 10 _, show (201 : Int32) + nI (10 * (x - 30)) = nI (201 + 10 * (x - 30)) from nI_add 201 _]
            exact step _ (by unfold lotT; rw [if_neg (by omega), if_neg (by omega), if_pos (by omega)])
          · rw [show nI x - nI x / (3 : Int32) * (3 : Int32) = nI (x % 3) from pk_rem (d := 3) (by omega) (by omega) (by omega), show nI x / (3 : Int32) = nI (x / 3) from pk_div (d := 3) (by omega) (by omega) (by omega), show (10 : Int32) * nI (x / 3) = nI (10 * (x / 3)) from pk_mul 10 _, show (250 : Int32) + nI (10 * (x / 3)) = nI (250 + 10 * (x / 3)) from nI_add 250 _, nI_add]
            exact step _ (by unfold lotT; rw [if_neg (by omega), if_pos (by omega)])
          · rw [show nI x - nI x / (3 : Int32) * (3 : Int32) = nI (x % 3) from pk_rem (d := 3) (by omega) (by omega) (by omega), show nI x / (3 : Int32) = nI (x / 3) from pk_div (d := 3) (by omega) (by omega) (by omega), show (10 : Int32) * nI (x / 3) = nI (10 * (x / 3)) from pk_mul 10 _, show (100 : Int32) + nI (10 * (x / 3)) = nI (100 + 10 * (x / 3)) from nI_add 100 _, nI_add]
            exact step _ (by unfold lotT; rw [if_pos (by omega)])
      exact ⟨_, key n 0 d t' c_chance 0 (by omega) hW (hM.kept (fun q => hW.2.2.1 q) ht') ev⟩
    refine (show ∃ f, wpX6_years_L29 (nI B) (nI M) c_now_bagKinds c_now_manKinds c_now_cells (nI n) (nI B) (nI M) bk mk (fun r tb tm tbk tmk tc sd => wpX7_years m_thrown (nI B) m_sort (nI M) m_kind m_page m_trial c_chance (nI n) (fun r' m_thrown' m_trial' m_seed' => r = r' ∧ Rel c_text_letters c_text_length (nI B) (nI M) c_now_bagKinds c_now_manKinds c_now_cells tb tm tbk tmk tc c_past_rows c_past_next c_past_count c_slots_rows c_slots_keptBits c_felt_men c_felt_bags c_felt_lengths c_felt_played c_felt_count sd m_thrown' m_text m_textSize m_place (nI B) m_sort (nI M) m_kind m_readBags m_readSort m_readMen m_readMan m_readPage m_page m_trial' m_book m_acts m_kept m_isKept m_felt m_feltMan m_feltBag m_feltMany m_feltIs m_seed' m_routeFew m_routeWay m_whichMany m_whichFirst m_restMany m_restFirst m_gains m_value)) f c c_chance 0 0 from ?_)
    have key : ∀ (k i : Nat) (D : Dy) (e : Nat → Int32) (s : Int64) (u : Int32), i + k = n → WF B M D → RC D e → yrun kb km B M n c_chance d 0 = yrun kb km B M k s D u → wpX6_years_L29 (nI B) (nI M) c_now_bagKinds c_now_manKinds c_now_cells (nI n) (nI B) (nI M) bk mk (fun r tb tm tbk tmk tc sd => wpX7_years m_thrown (nI B) m_sort (nI M) m_kind m_page m_trial c_chance (nI n) (fun r' m_thrown' m_trial' m_seed' => r = r' ∧ Rel c_text_letters c_text_length (nI B) (nI M) c_now_bagKinds c_now_manKinds c_now_cells tb tm tbk tmk tc c_past_rows c_past_next c_past_count c_slots_rows c_slots_keptBits c_felt_men c_felt_bags c_felt_lengths c_felt_played c_felt_count sd m_thrown' m_text m_textSize m_place (nI B) m_sort (nI M) m_kind m_readBags m_readSort m_readMen m_readMan m_readPage m_page m_trial' m_book m_acts m_kept m_isKept m_felt m_feltMan m_feltBag m_feltMany m_feltIs m_seed' m_routeFew m_routeWay m_whichMany m_whichFirst m_restMany m_restFirst m_gains m_value)) (k + 1) e s u (nI i) := by
      intro k
      induction k with
      | zero =>
        intro i D e s u hi w he hv
        rw [yrun] at hv
        exact ⟨fun _ => fin _ _ _ _ _ u s hv.symm, fun q => absurd (nI_le (by omega) (by omega)) q⟩
      | succ k ih =>
        intro i D e s u hi w he hv
        refine ⟨fun q => absurd q (nI_ge (by omega) (by omega)), fun _ => ?_⟩
        rintro y rfl
        rw [yrun] at hv
        obtain ⟨x, hx, ex⟩ := lotOf_lt (s * 6364136223846793005 + 1442695040888963407)
        rw [ex, nI_toInt (by omega), show ((x : Int)).toNat = x from rfl] at hv
        have ex2 := ex
        unfold lotOf at ex2
        rw [ex2]
        refine C_tryLot w he hbk' hmk' hx (fun c' hc => ?_)
        have w2 : WF B M ((doing kb km B M D (lotT x)).getD D) := wf_doing2 w
        refine C_breathsInAll w2 hc ?_
        rintro _ rfl _ rfl
        rw [show nI i + (1 : Int32) = nI (i + 1) from nI_1 i]
        exact ih (i + 1) _ c' _ _ (by omega) w2 hc hv
    exact ⟨_, key n 0 d c c_chance 0 (by omega) hW (hC.kept e3) rfl⟩
end OB
