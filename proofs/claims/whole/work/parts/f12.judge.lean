section OB
variable {c_text_letters : Nat → Int32} {c_text_length : Int32} {c_now_bags : Int32} {c_now_men : Int32} {c_now_bagKinds : Nat → Int32} {c_now_manKinds : Nat → Int32} {c_now_cells : Nat → Int32} {c_trial_bags : Int32} {c_trial_men : Int32} {c_trial_bagKinds : Nat → Int32} {c_trial_manKinds : Nat → Int32} {c_trial_cells : Nat → Int32} {c_past_rows : Nat → Int32} {c_past_next : Int32} {c_past_count : Int32} {c_slots_rows : Nat → Int32} {c_slots_keptBits : Int32} {c_felt_men : Nat → Int32} {c_felt_bags : Nat → Int32} {c_felt_lengths : Nat → Int32} {c_felt_played : Nat → Int32} {c_felt_count : Int32} {c_chance : Int64} {m_thrown : Int32} {m_text : Nat → Int32} {m_textSize : Int32} {m_place : Int32} {m_bags : Int32} {m_sort : Nat → Int32} {m_men : Int32} {m_kind : Nat → Int32} {m_readBags : Int32} {m_readSort : Nat → Int32} {m_readMen : Int32} {m_readMan : Nat → Int32} {m_readPage : Nat → Int32} {m_page : Nat → Int32} {m_trial : Nat → Int32} {m_book : Nat → Int32} {m_acts : Int32} {m_kept : Nat → Int32} {m_isKept : Nat → Int32} {m_felt : Int32} {m_feltMan : Nat → Int32} {m_feltBag : Nat → Int32} {m_feltMany : Nat → Int32} {m_feltIs : Nat → Int32} {m_seed : Int64} {m_routeFew : Int32} {m_routeWay : Int32} {m_whichMany : Int32} {m_whichFirst : Int32} {m_restMany : Int32} {m_restFirst : Int32} {m_gains : Nat → Int32} {m_value : Nat → Int32}
set_option maxRecDepth 20000 in
set_option maxHeartbeats 2000000 in
theorem O_judge (hR : Rel c_text_letters c_text_length c_now_bags c_now_men c_now_bagKinds c_now_manKinds c_now_cells c_trial_bags c_trial_men c_trial_bagKinds c_trial_manKinds c_trial_cells c_past_rows c_past_next c_past_count c_slots_rows c_slots_keptBits c_felt_men c_felt_bags c_felt_lengths c_felt_played c_felt_count c_chance m_thrown m_text m_textSize m_place m_bags m_sort m_men m_kind m_readBags m_readSort m_readMen m_readMan m_readPage m_page m_trial m_book m_acts m_kept m_isKept m_felt m_feltMan m_feltBag m_feltMany m_feltIs m_seed m_routeFew m_routeWay m_whichMany m_whichFirst m_restMany m_restFirst m_gains m_value) (x1 : Int32) (x2 : Int64) : wpX6_judge c_now_bags c_now_men c_now_bagKinds c_now_manKinds c_now_cells c_trial_bags c_trial_men c_trial_bagKinds c_trial_manKinds c_trial_cells x1 x2 (fun r c_trial_bags' c_trial_men' c_trial_bagKinds' c_trial_manKinds' c_trial_cells' => wpX7_judge m_thrown m_bags m_sort m_men m_kind m_page m_trial x1 x2 (fun r' m_thrown' m_trial' => r = r' ∧ Rel c_text_letters c_text_length c_now_bags c_now_men c_now_bagKinds c_now_manKinds c_now_cells c_trial_bags' c_trial_men' c_trial_bagKinds' c_trial_manKinds' c_trial_cells' c_past_rows c_past_next c_past_count c_slots_rows c_slots_keptBits c_felt_men c_felt_bags c_felt_lengths c_felt_played c_felt_count c_chance m_thrown' m_text m_textSize m_place m_bags m_sort m_men m_kind m_readBags m_readSort m_readMen m_readMan m_readPage m_page m_trial' m_book m_acts m_kept m_isKept m_felt m_feltMan m_feltBag m_feltMany m_feltIs m_seed m_routeFew m_routeWay m_whichMany m_whichFirst m_restMany m_restFirst m_gains m_value)) := by
  obtain ⟨B, M, kb, km, d, h, kp, fe, fn, tx, tn, ⟨hW, rfl, rfl, hbk, hmk, hC, rfl, rfl, hso, hki, hM⟩, ⟨hh, hcp, hmp⟩, hS, hF, hT, hE⟩ := id hR
  have hB3 := hW.1
  have hM5 := hW.2.1
  cases h1 : rg 1 4 x1 with
  | none => exact rgn_lt (lo := 1) (hi := 4) (by omega) (by omega) h1 (M_in_n (lo := 1) (hi := 4) rfl rfl (by omega) (by omega) h1 ⟨fun _ => ⟨rfl, ⟨B, M, kb, km, d, h, kp, fe, fn, tx, tn, ⟨hW, rfl, rfl, hbk, hmk, hC, rfl, rfl, hso, hki, hM⟩, ⟨hh, hcp, hmp⟩, hS, hF, hT, hE⟩⟩, fun q => absurd rfl q⟩)
  | some n =>
    obtain ⟨n1, n2, rfl⟩ := rg_some h1
    have hp4 : 1000 ^ n ≤ 1000 ^ 4 := Nat.pow_le_pow_right (by omega) n2
    have hp0 : 0 < 1000 ^ n := Nat.pow_pos (by omega)
    refine rgs_lt (lo := 1) (hi := 4) (by omega) (by omega) h1 ?_
    have eb : lN (1000 ^ n) - (1 : Int64) = lN (1000 ^ n - 1) := lN_sub (b := 1) (by omega)
    by_cases hneg : x2 < 0
    · refine ⟨fun q => ?_, fun _ => ?_⟩
      · exact absurd ((lgc_lt _ _).mpr hneg) (Int32.not_lt.mpr q)
      · refine M_in_s (lo := 1) (hi := 4) rfl rfl (by omega) (by omega) h1 ⟨fun q => absurd q (by decide), fun _ => M_longPower n2 (M_in_f (Or.inl hneg) ⟨fun q => absurd rfl q, fun _ => ⟨rfl, ⟨B, M, kb, km, d, h, kp, fe, fn, tx, tn, ⟨hW, rfl, rfl, hbk, hmk, hC, rfl, rfl, hso, hki, hM⟩, ⟨hh, hcp, hmp⟩, hS, hF, hT, hE⟩⟩⟩)⟩
    · obtain ⟨r0, hr, rfl⟩ := pk_lOf hneg
      refine ⟨fun _ => ?_, fun q => absurd (Int32.not_lt.mp (fun z => hneg ((lgc_lt _ _).mp z))) q⟩
      refine for_up (P := fun f i => wpX6_judge_L25 (nI B) (nI M) c_now_bagKinds c_now_manKinds c_now_cells (nI n) (lN r0) c_trial_bags c_trial_men c_trial_bagKinds c_trial_manKinds c_trial_cells (wpX6_judge_J45 (nI B) (nI M) c_now_bagKinds c_now_manKinds c_now_cells (nI n) (lN r0) _) _ f (lN (1000 ^ i)) (nI i)) n ?_ ?_ 0 (by omega)
      · intro f
        refine ⟨fun _ => ?_, fun q => absurd (Int32.le_refl _) q⟩
        by_cases hbig : 1000 ^ n ≤ r0
        · refine ⟨fun q => ?_, fun _ => ?_⟩
          · rw [lgc_lt, pk_lLT (by omega) (by omega)] at q; omega
          · refine M_in_s (lo := 1) (hi := 4) rfl rfl (by omega) (by omega) h1 ⟨fun q => absurd q (by decide), fun _ => M_longPower n2 (M_in_f (Or.inr ?_) ⟨fun q => absurd rfl q, fun _ => ⟨rfl, ⟨B, M, kb, km, d, h, kp, fe, fn, tx, tn, ⟨hW, rfl, rfl, hbk, hmk, hC, rfl, rfl, hso, hki, hM⟩, ⟨hh, hcp, hmp⟩, hS, hF, hT, hE⟩⟩⟩)⟩
            rw [eb, pk_lLT (by omega) (by omega)]; omega
        · refine ⟨fun _ => C_becomeAll (fun bk mk c e1 e2 e3 => ?_), fun q => absurd ((lgc_lt _ _).mpr ((pk_lLT (by omega) (by omega)).mpr (by omega))) q⟩
          have hbk' : SK B kb bk := fun b hb => by rw [e1 b (by omega)]; exact hbk b hb
          have hmk' : SK M km mk := fun b hb => by rw [e2 b (by omega)]; exact hmk b hb
          have digit : ∀ i, i < n → ∃ t, t = r0 / 1000 ^ (n - 1 - i) % 1000 ∧ t < 1000 ∧ (lN r0 / lN (1000 ^ (n - 1 - i)) - lN r0 / lN (1000 ^ (n - 1 - i)) / (1000 : Int64) * (1000 : Int64)).toInt32 = nI t := by
            intro i hi
            have q4 : 1000 ^ (n - 1 - i) ≤ 1000 ^ 4 := Nat.pow_le_pow_right (by omega) (by omega)
            have q0 : 0 < 1000 ^ (n - 1 - i) := Nat.pow_pos (by omega)
            have qd : r0 / 1000 ^ (n - 1 - i) ≤ r0 := Nat.div_le_self _ _
            refine ⟨_, rfl, by omega, ?_⟩
            rw [pk_lDiv hr q0 (by omega), show lN (r0 / 1000 ^ (n - 1 - i)) - lN (r0 / 1000 ^ (n - 1 - i)) / (1000 : Int64) * (1000 : Int64) = lN (r0 / 1000 ^ (n - 1 - i) % 1000) from pk_lRem (b := 1000) (by omega) (by omega) (by omega), lN_i]
          have fin : ∀ tb tm tbk tmk tc v, v = jrun (doing kb km B M) (fun i => r0 / 1000 ^ (n - 1 - i) % 1000) n 0 d → wpX7_judge m_thrown (nI B) m_sort (nI M) m_kind m_page m_trial (nI n) (lN r0) (fun r' m_thrown' m_trial' => v = r' ∧ Rel c_text_letters c_text_length (nI B) (nI M) c_now_bagKinds c_now_manKinds c_now_cells tb tm tbk tmk tc c_past_rows c_past_next c_past_count c_slots_rows c_slots_keptBits c_felt_men c_felt_bags c_felt_lengths c_felt_played c_felt_count c_chance m_thrown' m_text m_textSize m_place (nI B) m_sort (nI M) m_kind m_readBags m_readSort m_readMen m_readMan m_readPage m_page m_trial' m_book m_acts m_kept m_isKept m_felt m_feltMan m_feltBag m_feltMany m_feltIs m_seed m_routeFew m_routeWay m_whichMany m_whichFirst m_restMany m_restFirst m_gains m_value) := by
            intro tb tm tbk tmk tc v ev
            refine M_in_s (lo := 1) (hi := 4) rfl rfl (by omega) (by omega) h1 ⟨fun q => absurd q (by decide), fun _ => M_longPower n2 (M_in_t ?_ ?_ ⟨fun _ => M_begin (fun t' ht' => ?_), fun q => absurd q (by decide)⟩)⟩
            · rw [show (0 : Int64) = lN 0 from rfl, pk_lLT (by omega) (by omega)]; omega
            · rw [eb, pk_lLT (by omega) (by omega)]; omega
            have key : ∀ (k i : Nat) (D : Dy) (e : Nat → Int32), i + k = n → WF B M D → RM D e → v = jrun (doing kb km B M) (fun i => r0 / 1000 ^ (n - 1 - i) % 1000) k i D → wpX7_judge_L44 (nI B) m_sort (nI M) m_kind m_page (nI n) (lN r0) 0 (fun r' m_thrown' m_trial' => v = r' ∧ Rel c_text_letters c_text_length (nI B) (nI M) c_now_bagKinds c_now_manKinds c_now_cells tb tm tbk tmk tc c_past_rows c_past_next c_past_count c_slots_rows c_slots_keptBits c_felt_men c_felt_bags c_felt_lengths c_felt_played c_felt_count c_chance m_thrown' m_text m_textSize m_place (nI B) m_sort (nI M) m_kind m_readBags m_readSort m_readMen m_readMan m_readPage m_page m_trial' m_book m_acts m_kept m_isKept m_felt m_feltMan m_feltBag m_feltMany m_feltIs m_seed m_routeFew m_routeWay m_whichMany m_whichFirst m_restMany m_restFirst m_gains m_value) (k + 1) e (nI i) := by
              intro k
              induction k with
              | zero =>
                intro i D e hi w he hv
                exact ⟨fun _ => ⟨hv, ⟨B, M, kb, km, d, h, kp, fe, fn, tx, tn, ⟨hW, rfl, rfl, hbk, hmk, hC, rfl, rfl, hso, hki, hM⟩, ⟨hh, hcp, hmp⟩, hS, hF, hT, hE⟩⟩, fun q => absurd (nI_le (by omega) (by omega)) q⟩
              | succ k ih =>
                intro i D e hi w he hv
                refine ⟨fun q => absurd q (nI_ge (by omega) (by omega)), fun _ => ?_⟩
                obtain ⟨t, et, tl, dt⟩ := digit i (by omega)
                have q4 : 1000 ^ (n - 1 - i) ≤ 1000 ^ 4 := Nat.pow_le_pow_right (by omega) (by omega)
                have q0 : 0 < 1000 ^ (n - 1 - i) := Nat.pow_pos (by omega)
                rw [nI_s1 (by omega), pk_sub (by omega)]
                refine M_longPower (by omega) ⟨fun z => ?_, ?_⟩
                · have := (pk_lEQ (b := 0) (by omega) (by omega)).mp z
                  omega
                · rw [dt]
                  have hv2 : v = (match doing kb km B M D t with | none => nI i | some d' => jrun (doing kb km B M) (fun i => r0 / 1000 ^ (n - 1 - i) % 1000) k (i + 1) d') := by rw [hv, jrun, et]; rfl
                  refine M_does w he hso hki tl (fun e0 p' hp => ⟨fun q => absurd rfl q, fun _ => ⟨?_, ⟨B, M, kb, km, d, h, kp, fe, fn, tx, tn, ⟨hW, rfl, rfl, hbk, hmk, hC, rfl, rfl, hso, hki, hM⟩, ⟨hh, hcp, hmp⟩, hS, hF, hT, hE⟩⟩⟩) (fun d' e0 p' hp => ⟨fun _ => ?_, fun q => absurd q (by decide)⟩)
                  · rw [hv2, e0]
                  · rintro _ rfl
                    rw [show nI i + (1 : Int32) = nI (i + 1) from nI_1 i]
                    refine ih (i + 1) d' p' (by omega) (wf_doing w e0) hp ?_
                    rw [hv2, e0]
            exact ⟨_, key n 0 d t' (by omega) hW (hM.kept (fun q => hW.2.2.1 q) ht') ev⟩
          have key : ∀ (k i : Nat) (D : Dy) (e : Nat → Int32) (sc : Nat), i + k = n → WF B M D → RC D e → sc = 1000 ^ (n - i) → jrun (doing kb km B M) (fun i => r0 / 1000 ^ (n - 1 - i) % 1000) n 0 d = jrun (doing kb km B M) (fun i => r0 / 1000 ^ (n - 1 - i) % 1000) k i D → wpX6_judge_L69 (nI B) (nI M) c_now_bagKinds c_now_manKinds c_now_cells (nI n) (lN r0) (nI B) (nI M) bk mk (fun r c_trial_bags' c_trial_men' c_trial_bagKinds' c_trial_manKinds' c_trial_cells' => wpX7_judge m_thrown (nI B) m_sort (nI M) m_kind m_page m_trial (nI n) (lN r0) (fun r' m_thrown' m_trial' => r = r' ∧ Rel c_text_letters c_text_length (nI B) (nI M) c_now_bagKinds c_now_manKinds c_now_cells c_trial_bags' c_trial_men' c_trial_bagKinds' c_trial_manKinds' c_trial_cells' c_past_rows c_past_next c_past_count c_slots_rows c_slots_keptBits c_felt_men c_felt_bags c_felt_lengths c_felt_played c_felt_count c_chance m_thrown' m_text m_textSize m_place (nI B) m_sort (nI M) m_kind m_readBags m_readSort m_readMen m_readMan m_readPage m_page m_trial' m_book m_acts m_kept m_isKept m_felt m_feltMan m_feltBag m_feltMany m_feltIs m_seed m_routeFew m_routeWay m_whichMany m_whichFirst m_restMany m_restFirst m_gains m_value)) (k + 1) e (lN sc) (nI i) := by
            intro k
            induction k with
            | zero =>
              intro i D e sc hi w he hsc hv
              exact ⟨fun _ => fin (nI B) (nI M) bk mk e (-9) hv.symm, fun q => absurd (nI_le (by omega) (by omega)) q⟩
            | succ k ih =>
              intro i D e sc hi w he hsc hv
              refine ⟨fun q => absurd q (nI_ge (by omega) (by omega)), fun _ => ?_⟩
              obtain ⟨t, et, tl, dt⟩ := digit i (by omega)
              have q4 : 1000 ^ (n - 1 - i) ≤ 1000 ^ 4 := Nat.pow_le_pow_right (by omega) (by omega)
              have q0 : 0 < 1000 ^ (n - 1 - i) := Nat.pow_pos (by omega)
              have es : sc = 1000 ^ (n - 1 - i) * 1000 := by rw [hsc, ← Nat.pow_succ]; congr 1; omega
              rw [show lN sc / (1000 : Int64) = lN (sc / 1000) from pk_lDiv (b := 1000) (by omega) (by omega) (by omega), show sc / 1000 = 1000 ^ (n - 1 - i) by omega]
              rintro _ rfl
              have hv2 : jrun (doing kb km B M) (fun i => r0 / 1000 ^ (n - 1 - i) % 1000) n 0 d = (match doing kb km B M D t with | none => nI i | some d' => jrun (doing kb km B M) (fun i => r0 / 1000 ^ (n - 1 - i) % 1000) k (i + 1) d') := by rw [hv, jrun, et]; rfl
              refine ⟨fun q => ?_, fun _ => ⟨fun z => ?_, ?_⟩⟩
              · exact absurd ((lgc_gt _ _).mpr ((pk_lLT (a := 0) (by omega) (by omega)).mpr q0)) (Int32.not_lt.mpr q)
              · have := (pk_lEQ (b := 0) (by omega) (by omega)).mp z
                omega
              · rw [dt]
                unfold wpX6_judge_J103
                rw [show nI t / (100 : Int32) = nI (t / 100) from pk_div (d := 100) (by omega) (by omega) (by omega), show nI t / (10 : Int32) = nI (t / 10) from pk_div (d := 10) (by omega) (by omega) (by omega), show nI (t / 10) - nI (t / 10) / (10 : Int32) * (10 : Int32) = nI (t / 10 % 10) from pk_rem (d := 10) (by omega) (by omega) (by omega)]
                have er : nI t - nI (t / 10) * (10 : Int32) = nI (t % 10) := by
                  rw [show nI (t / 10) * (10 : Int32) = nI (t / 10 * 10) from pk_mul _ 10, pk_sub (by omega)]
                  congr 1; omega
                rw [er]
                refine C_canDo w he hbk' hmk' tl (fun e0 c' hc => ⟨fun q => absurd rfl q, fun _ => fin (nI B) (nI M) bk mk c' (nI i) ?_⟩) (fun d' e0 c' hc => ⟨fun _ => ?_, fun q => absurd q (by decide)⟩)
                · rw [hv2, e0]
                · rintro _ rfl
                  rw [show nI i + (1 : Int32) = nI (i + 1) from nI_1 i]
                  refine ih (i + 1) d' c' _ (by omega) (wf_doing w e0) hc (by congr 1; omega) ?_
                  rw [hv2, e0]
          exact ⟨_, key n 0 d c _ (by omega) hW (hC.kept e3) (by rw [Nat.sub_zero]) rfl⟩
      · intro f i hi kk
        refine ⟨fun q => absurd q (nI_ge hi (by omega)), fun _ => ?_⟩
        rw [show lN (1000 ^ i) * (1000 : Int64) = lN (1000 ^ i * 1000) from lN_mul _ 1000, ← Nat.pow_succ, show nI i + (1 : Int32) = nI (i + 1) from nI_1 i]
        rintro _ rfl _ rfl
        exact kk
end OB
