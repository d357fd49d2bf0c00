/-! further obligations -/
theorem rgn_lt {lo hi : Nat} {x : Int32} {A B : Prop} (hl : lo < 2 ^ 31) (hh : hi < 2 ^ 31) (h : rg lo hi x = none) (a : A) : (x < nI lo → A) ∧ (¬ x < nI lo → ((nI hi < x → A) ∧ (¬ nI hi < x → B))) := rg_lt hl hh (fun k hk => by rw [h] at hk; cases hk) (fun _ => a)
theorem rgs_lt {lo hi k : Nat} {x : Int32} {A B : Prop} (hl : lo < 2 ^ 31) (hh : hi < 2 ^ 31) (h : rg lo hi x = some k) (b : B) : (x < nI lo → A) ∧ (¬ x < nI lo → ((nI hi < x → A) ∧ (¬ nI hi < x → B))) := rg_lt hl hh (fun _ _ => b) (fun hk => by rw [h] at hk; cases hk)
theorem rgn_le {lo hi : Nat} {x : Int32} {A B : Prop} (hl : lo < 2 ^ 31) (hh : hi < 2 ^ 31) (h : rg lo hi x = none) (a : A) : (x < nI lo → A) ∧ (¬ x < nI lo → ((x ≤ nI hi → B) ∧ (¬ x ≤ nI hi → A))) := rg_le hl hh (fun k hk => by rw [h] at hk; cases hk) (fun _ => a)
theorem rgs_le {lo hi k : Nat} {x : Int32} {A B : Prop} (hl : lo < 2 ^ 31) (hh : hi < 2 ^ 31) (h : rg lo hi x = some k) (b : B) : (x < nI lo → A) ∧ (¬ x < nI lo → ((x ≤ nI hi → B) ∧ (¬ x ≤ nI hi → A))) := rg_le hl hh (fun _ _ => b) (fun hk => by rw [h] at hk; cases hk)
theorem M_in_n {lo hi : Nat} {x : Int32} {a b : Int64} {post : Int32 → Prop} (ha : a = (nI lo).toInt64) (hb : b = (nI hi).toInt64) (hl : lo < 2 ^ 31) (hh : hi < 2 ^ 31) (h : rg lo hi x = none) (p : post 0) : wpX7_in x.toInt64 a b post := M_in lo hi ha hb hl hh (fun k hk => by rw [h] at hk; cases hk) (fun _ => p)
theorem M_in_s {lo hi k : Nat} {x : Int32} {a b : Int64} {post : Int32 → Prop} (ha : a = (nI lo).toInt64) (hb : b = (nI hi).toInt64) (hl : lo < 2 ^ 31) (hh : hi < 2 ^ 31) (h : rg lo hi x = some k) (p : post 1) : wpX7_in x.toInt64 a b post := M_in lo hi ha hb hl hh (fun _ _ => p) (fun hk => by rw [h] at hk; cases hk)
theorem rgn_ge {hi : Nat} {x : Int32} {A B : Prop} (hh : hi + 1 < 2 ^ 31) (h : rg 0 hi x = none) (a : A) : (x < (0 : Int32) → A) ∧ (¬ x < (0 : Int32) → ((nI (hi + 1) ≤ x → A) ∧ (¬ nI (hi + 1) ≤ x → B))) := by
  rcases rg_none (by omega) (by omega) h with q | q
  · exact ⟨fun _ => a, fun z => absurd q z⟩
  · refine ⟨fun _ => a, fun _ => ⟨fun _ => a, fun z => absurd ?_ z⟩⟩
    rw [Int32.lt_iff_toInt_lt, nI_toInt (by omega)] at q
    rw [Int32.le_iff_toInt_le, nI_toInt hh]
    omega
theorem rgs_ge {hi k : Nat} {x : Int32} {A B : Prop} (hh : hi + 1 < 2 ^ 31) (h : rg 0 hi x = some k) (b : B) : (x < (0 : Int32) → A) ∧ (¬ x < (0 : Int32) → ((nI (hi + 1) ≤ x → A) ∧ (¬ nI (hi + 1) ≤ x → B))) := by
  obtain ⟨k1, k2, rfl⟩ := rg_some h
  exact ⟨fun q => absurd q (nI_pos (by omega)), fun _ => ⟨fun q => absurd q (nI_ge (by omega) hh), fun _ => b⟩⟩
theorem bits4 : ∀ f, f < 4 → ∀ k, k < 2 → f ||| 2 ^ k < 4 ∧ ∀ i, i < 2 → bitN (f ||| 2 ^ k) i = if i = k then 1 else bitN f i := by decide
theorem M_has2 {f m : Nat} {post : Int32 → Prop} (hf : f < 2 ^ 31) (hm : m < 32) (h : post (nI (bitN f m))) : wpX3_isKept (nI f) (nI m) post := M_has hf hm h
theorem C_waits {B M : Nat} {d : Dy} {kb : Nat → Nat} {bk c : Nat → Int32} (hW : WF B M d) (hR : RC d c) (hK : SK B kb bk) {m b : Nat} (hm : m < M) (hb : b < B) {post : Int32 → Prop} (h : post (nI (wt (fun k => (dpl d b).getD (plc (kb b) (dpl d b).length k) 0) m (dpl d b).length))) : wpX6_waits_E29 (nI B) (nI M) bk c (nI m) (nI b) post 0 0 := by
  have h9 := hW.2.2.1 b
  have hB := hW.1
  have hM := hW.2.1
  refine for_up (P := fun n i => wpX6_waits_L29 (nI B) (nI M) bk c (nI m) (nI b) post n (nI (wt (fun k => (dpl d b).getD (plc (kb b) (dpl d b).length k) 0) m i)) (nI i)) (dpl d b).length ?_ ?_ 0 (by omega)
  · intro n; exact C_breathsIn hW hR (by omega) ⟨fun _ => h, fun q => absurd (Int32.le_refl _) q⟩
  · intro n i hi k
    have hp := plc_lt (kind := kb b) hi
    have ho := hW.own hp
    rw [wt] at k
    refine C_breathsIn hW hR (by omega) ⟨fun q => absurd q (nI_ge hi (by omega)), fun _ => C_placePlayed hW hR hK hi (C_owner hW hR hp ⟨fun q => ?_, fun q => ?_⟩)⟩
    · rw [if_neg (fun z => q (by rw [z]))] at k
      rintro _ rfl
      rw [show nI i + (1 : Int32) = nI (i + 1) from nI_1 i]; exact k
    · rw [if_pos ((nI_eq (by omega) (by omega)).mp q)] at k
      rintro _ rfl _ rfl
      rw [show nI i + (1 : Int32) = nI (i + 1) from nI_1 i]; exact k
theorem M_waits {B M : Nat} {d : Dy} {kb : Nat → Nat} {sort p : Nat → Int32} (hW : WF B M d) (hR : RM d p) (hK : SK B kb sort) {m b : Nat} (hm : m < M) (hb : b < B) {th : Int32} {post : Int32 → Int32 → Prop} (h : post (nI (wt (fun k => (dpl d b).getD (plc (kb b) (dpl d b).length k) 0) m (dpl d b).length)) th) : wpX7_waits_E28 (nI B) sort (nI M) p (nI m) (nI b) post th 0 0 := by
  have h9 := hW.2.2.1 b
  have hB := hW.1
  have hM := hW.2.1
  have h3 := (hK b hb).2
  refine for_up (P := fun n i => wpX7_waits_L28 (nI B) sort (nI M) p (nI m) (nI b) th post n (nI (wt (fun k => (dpl d b).getD (plc (kb b) (dpl d b).length k) 0) m i)) (nI i)) (dpl d b).length ?_ ?_ 0 (by omega)
  · intro n
    unfold wpX7_waits_L28
    rw [nI_clamp (by omega), hR.2.2.2.2.2.1 b (by omega)]
    exact ⟨vin (by omega) (by omega), fun _ => h, fun q => absurd (Int32.le_refl _) q⟩
  · intro n i hi k
    have hp := plc_lt (kind := kb b) hi
    have ho := hW.own hp
    rw [wt] at k
    unfold wpX7_waits_L28
    rw [nI_clamp (by omega), hR.2.2.2.2.2.1 b (by omega), (hK b hb).1]
    refine ⟨vin (by omega) (by omega), fun q => absurd q (nI_ge hi (by omega)), fun _ => ⟨vin (by omega) (by omega), vin (by omega) (by omega), M_placeOf (by omega) hi (M_breath hW hR hp ⟨fun q => ?_, fun q => ?_⟩)⟩⟩
    · rw [if_neg (fun z => q (by rw [z]))] at k
      rintro _ rfl
      rw [show nI i + (1 : Int32) = nI (i + 1) from nI_1 i]; exact k
    · rw [if_pos ((nI_eq (by omega) (by omega)).mp q)] at k
      rintro _ rfl
      rw [show nI i + (1 : Int32) = nI (i + 1) from nI_1 i]; exact k
section OB
variable {c_text_letters : Nat → Int32} {c_text_length : Int32} {c_now_bags : Int32} {c_now_men : Int32} {c_now_bagKinds : Nat → Int32} {c_now_manKinds : Nat → Int32} {c_now_cells : Nat → Int32} {c_trial_bags : Int32} {c_trial_men : Int32} {c_trial_bagKinds : Nat → Int32} {c_trial_manKinds : Nat → Int32} {c_trial_cells : Nat → Int32} {c_past_rows : Nat → Int32} {c_past_next : Int32} {c_past_count : Int32} {c_slots_rows : Nat → Int32} {c_slots_keptBits : Int32} {c_felt_men : Nat → Int32} {c_felt_bags : Nat → Int32} {c_felt_lengths : Nat → Int32} {c_felt_played : Nat → Int32} {c_felt_count : Int32} {c_chance : Int64} {m_thrown : Int32} {m_text : Nat → Int32} {m_textSize : Int32} {m_place : Int32} {m_bags : Int32} {m_sort : Nat → Int32} {m_men : Int32} {m_kind : Nat → Int32} {m_readBags : Int32} {m_readSort : Nat → Int32} {m_readMen : Int32} {m_readMan : Nat → Int32} {m_readPage : Nat → Int32} {m_page : Nat → Int32} {m_trial : Nat → Int32} {m_book : Nat → Int32} {m_acts : Int32} {m_kept : Nat → Int32} {m_isKept : Nat → Int32} {m_felt : Int32} {m_feltMan : Nat → Int32} {m_feltBag : Nat → Int32} {m_feltMany : Nat → Int32} {m_feltIs : Nat → Int32} {m_seed : Int64} {m_routeFew : Int32} {m_routeWay : Int32} {m_whichMany : Int32} {m_whichFirst : Int32} {m_restMany : Int32} {m_restFirst : Int32} {m_gains : Nat → Int32} {m_value : Nat → Int32}
set_option maxRecDepth 20000 in
set_option maxHeartbeats 1000000 in
theorem O_write (hR : Rel c_text_letters c_text_length c_now_bags c_now_men c_now_bagKinds c_now_manKinds c_now_cells c_trial_bags c_trial_men c_trial_bagKinds c_trial_manKinds c_trial_cells c_past_rows c_past_next c_past_count c_slots_rows c_slots_keptBits c_felt_men c_felt_bags c_felt_lengths c_felt_played c_felt_count c_chance m_thrown m_text m_textSize m_place m_bags m_sort m_men m_kind m_readBags m_readSort m_readMen m_readMan m_readPage m_page m_trial m_book m_acts m_kept m_isKept m_felt m_feltMan m_feltBag m_feltMany m_feltIs m_seed m_routeFew m_routeWay m_whichMany m_whichFirst m_restMany m_restFirst m_gains m_value) (x1 : Int32) : wpX6_write c_text_letters c_text_length x1 (fun r c_text_letters' c_text_length' => wpX7_write m_thrown m_text m_textSize x1 (fun r' m_thrown' m_text' m_textSize' => r = r' ∧ Rel c_text_letters' c_text_length' c_now_bags c_now_men c_now_bagKinds c_now_manKinds c_now_cells c_trial_bags c_trial_men c_trial_bagKinds c_trial_manKinds c_trial_cells c_past_rows c_past_next c_past_count c_slots_rows c_slots_keptBits c_felt_men c_felt_bags c_felt_lengths c_felt_played c_felt_count c_chance m_thrown' m_text' m_textSize' m_place m_bags m_sort m_men m_kind m_readBags m_readSort m_readMen m_readMan m_readPage m_page m_trial m_book m_acts m_kept m_isKept m_felt m_feltMan m_feltBag m_feltMany m_feltIs m_seed m_routeFew m_routeWay m_whichMany m_whichFirst m_restMany m_restFirst m_gains m_value)) := by
  obtain ⟨B, M, kb, km, d, h, kp, fe, fn, tx, tn, ⟨hW, rfl, rfl, hbk, hmk, hC, rfl, rfl, hso, hki, hM⟩, ⟨hh, hcp, hmp⟩, hS, hF, hT, hE⟩ := id hR
  have hB3 := hW.1
  have hM5 := hW.2.1
  obtain ⟨t1, rfl, rfl, t4⟩ := id hT
  cases hx : rg 0 255 x1 with
  | none => exact rgn_le (lo := 0) (hi := 255) (by omega) (by omega) hx (M_in_n (lo := 0) (hi := 255) rfl rfl (by omega) (by omega) hx ⟨fun q => absurd rfl q, fun _ => ⟨rfl, ⟨B, M, kb, km, d, h, kp, fe, fn, tx, tn, ⟨hW, rfl, rfl, hbk, hmk, hC, rfl, rfl, hso, hki, hM⟩, ⟨hh, hcp, hmp⟩, hS, hF, hT, hE⟩⟩⟩)
  | some k =>
    obtain ⟨k1, k2, rfl⟩ := rg_some hx
    refine rgs_le (lo := 0) (hi := 255) (by omega) (by omega) hx ⟨fun q => absurd q (nI_pos (by omega)), fun _ => ?_⟩
    refine pk_lt tn 60 (fun z => ?_) (fun z => ?_)
    · rw [nI_clamp (by omega), show nI tn + (1 : Int32) = nI (tn + 1) from nI_1 tn]
      refine ⟨vin (by omega) (by omega), ?_⟩
      rintro _ rfl _ rfl
      refine M_in_s (lo := 0) (hi := 255) rfl rfl (by omega) (by omega) hx ⟨fun _ => ⟨fun _ => ?_, fun q => ?_⟩, fun q => absurd q (by decide)⟩
      · rw [nI_clamp (by omega), show nI tn + (1 : Int32) = nI (tn + 1) from nI_1 tn]
        refine ⟨vin (by omega) (by omega), ?_⟩
        rintro _ rfl _ rfl
        refine ⟨rfl, B, M, kb, km, d, h, kp, fe, fn, va_up tx tn k, tn + 1, ⟨hW, rfl, rfl, hbk, hmk, hC, rfl, rfl, hso, hki, hM⟩, ⟨hh, hcp, hmp⟩, hS, hF, ⟨by omega, rfl, rfl, fun i hi => ?_⟩, hE⟩
        by_cases e : i = tn
        · subst e; rw [up_s, pk_us, pk_us]; exact ⟨by omega, rfl, rfl⟩
        · rw [up_n _ _ e, pk_un e, pk_un e]; exact t4 i (by omega)
      · have : tn = 60 := (nI_eq (b := 60) (by omega) (by omega)).mp q
        omega
    · have e60 : tn = 60 := by omega
      refine M_in_s (lo := 0) (hi := 255) rfl rfl (by omega) (by omega) hx ⟨fun _ => ⟨fun q => absurd (by rw [e60]; rfl) q, fun _ => ⟨rfl, ⟨B, M, kb, km, d, h, kp, fe, fn, tx, tn, ⟨hW, rfl, rfl, hbk, hmk, hC, rfl, rfl, hso, hki, hM⟩, ⟨hh, hcp, hmp⟩, hS, hF, hT, hE⟩⟩⟩, fun q => absurd q (by decide)⟩

set_option maxRecDepth 20000 in
set_option maxHeartbeats 1000000 in
theorem O_wipe (hR : Rel c_text_letters c_text_length c_now_bags c_now_men c_now_bagKinds c_now_manKinds c_now_cells c_trial_bags c_trial_men c_trial_bagKinds c_trial_manKinds c_trial_cells c_past_rows c_past_next c_past_count c_slots_rows c_slots_keptBits c_felt_men c_felt_bags c_felt_lengths c_felt_played c_felt_count c_chance m_thrown m_text m_textSize m_place m_bags m_sort m_men m_kind m_readBags m_readSort m_readMen m_readMan m_readPage m_page m_trial m_book m_acts m_kept m_isKept m_felt m_feltMan m_feltBag m_feltMany m_feltIs m_seed m_routeFew m_routeWay m_whichMany m_whichFirst m_restMany m_restFirst m_gains m_value) : wpX6_wipe c_text_length (fun r c_text_length' => wpX7_wipe m_thrown m_textSize (fun r' m_thrown' m_textSize' => r = r' ∧ Rel c_text_letters c_text_length' c_now_bags c_now_men c_now_bagKinds c_now_manKinds c_now_cells c_trial_bags c_trial_men c_trial_bagKinds c_trial_manKinds c_trial_cells c_past_rows c_past_next c_past_count c_slots_rows c_slots_keptBits c_felt_men c_felt_bags c_felt_lengths c_felt_played c_felt_count c_chance m_thrown' m_text m_textSize' m_place m_bags m_sort m_men m_kind m_readBags m_readSort m_readMen m_readMan m_readPage m_page m_trial m_book m_acts m_kept m_isKept m_felt m_feltMan m_feltBag m_feltMany m_feltIs m_seed m_routeFew m_routeWay m_whichMany m_whichFirst m_restMany m_restFirst m_gains m_value)) := by
  obtain ⟨B, M, kb, km, d, h, kp, fe, fn, tx, tn, ⟨hW, rfl, rfl, hbk, hmk, hC, rfl, rfl, hso, hki, hM⟩, ⟨hh, hcp, hmp⟩, hS, hF, hT, hE⟩ := id hR
  have hB3 := hW.1
  have hM5 := hW.2.1
  exact ⟨hT.2.1.trans hT.2.2.1.symm, B, M, kb, km, d, h, kp, fe, fn, tx, 0, ⟨hW, rfl, rfl, hbk, hmk, hC, rfl, rfl, hso, hki, hM⟩, ⟨hh, hcp, hmp⟩, hS, hF, ⟨by omega, rfl, rfl, fun i hi => absurd hi (Nat.not_lt_zero i)⟩, hE⟩

set_option maxRecDepth 20000 in
set_option maxHeartbeats 1000000 in
theorem O_unfeel (hR : Rel c_text_letters c_text_length c_now_bags c_now_men c_now_bagKinds c_now_manKinds c_now_cells c_trial_bags c_trial_men c_trial_bagKinds c_trial_manKinds c_trial_cells c_past_rows c_past_next c_past_count c_slots_rows c_slots_keptBits c_felt_men c_felt_bags c_felt_lengths c_felt_played c_felt_count c_chance m_thrown m_text m_textSize m_place m_bags m_sort m_men m_kind m_readBags m_readSort m_readMen m_readMan m_readPage m_page m_trial m_book m_acts m_kept m_isKept m_felt m_feltMan m_feltBag m_feltMany m_feltIs m_seed m_routeFew m_routeWay m_whichMany m_whichFirst m_restMany m_restFirst m_gains m_value) : wpX6_unfeel c_felt_count (fun r c_felt_count' => wpX7_unfeel m_thrown m_felt (fun r' m_thrown' m_felt' => r = r' ∧ Rel c_text_letters c_text_length c_now_bags c_now_men c_now_bagKinds c_now_manKinds c_now_cells c_trial_bags c_trial_men c_trial_bagKinds c_trial_manKinds c_trial_cells c_past_rows c_past_next c_past_count c_slots_rows c_slots_keptBits c_felt_men c_felt_bags c_felt_lengths c_felt_played c_felt_count' c_chance m_thrown' m_text m_textSize m_place m_bags m_sort m_men m_kind m_readBags m_readSort m_readMen m_readMan m_readPage m_page m_trial m_book m_acts m_kept m_isKept m_felt' m_feltMan m_feltBag m_feltMany m_feltIs m_seed m_routeFew m_routeWay m_whichMany m_whichFirst m_restMany m_restFirst m_gains m_value)) := by
  obtain ⟨B, M, kb, km, d, h, kp, fe, fn, tx, tn, ⟨hW, rfl, rfl, hbk, hmk, hC, rfl, rfl, hso, hki, hM⟩, ⟨hh, hcp, hmp⟩, hS, hF, hT, hE⟩ := id hR
  have hB3 := hW.1
  have hM5 := hW.2.1
  exact ⟨hF.2.1.trans hF.2.2.1.symm, B, M, kb, km, d, h, kp, fe, 0, tx, tn, ⟨hW, rfl, rfl, hbk, hmk, hC, rfl, rfl, hso, hki, hM⟩, ⟨hh, hcp, hmp⟩, hS, ⟨by omega, rfl, rfl, fun i hi => absurd hi (Nat.not_lt_zero i)⟩, hT, hE⟩

set_option maxRecDepth 20000 in
set_option maxHeartbeats 1000000 in
theorem O_feel (hR : Rel c_text_letters c_text_length c_now_bags c_now_men c_now_bagKinds c_now_manKinds c_now_cells c_trial_bags c_trial_men c_trial_bagKinds c_trial_manKinds c_trial_cells c_past_rows c_past_next c_past_count c_slots_rows c_slots_keptBits c_felt_men c_felt_bags c_felt_lengths c_felt_played c_felt_count c_chance m_thrown m_text m_textSize m_place m_bags m_sort m_men m_kind m_readBags m_readSort m_readMen m_readMan m_readPage m_page m_trial m_book m_acts m_kept m_isKept m_felt m_feltMan m_feltBag m_feltMany m_feltIs m_seed m_routeFew m_routeWay m_whichMany m_whichFirst m_restMany m_restFirst m_gains m_value) (x1 : Int32) (x2 : Int32) (x3 : Int32) (x4 : Int32) : wpX6_feel c_now_bags c_now_men c_felt_men c_felt_bags c_felt_lengths c_felt_played c_felt_count x1 x2 x3 x4 (fun r c_felt_men' c_felt_bags' c_felt_lengths' c_felt_played' c_felt_count' => wpX7_feel m_thrown m_bags m_men m_felt m_feltMan m_feltBag m_feltMany m_feltIs x1 x2 x3 x4 (fun r' m_thrown' m_felt' m_feltMan' m_feltBag' m_feltMany' m_feltIs' => r = r' ∧ Rel c_text_letters c_text_length c_now_bags c_now_men c_now_bagKinds c_now_manKinds c_now_cells c_trial_bags c_trial_men c_trial_bagKinds c_trial_manKinds c_trial_cells c_past_rows c_past_next c_past_count c_slots_rows c_slots_keptBits c_felt_men' c_felt_bags' c_felt_lengths' c_felt_played' c_felt_count' c_chance m_thrown' m_text m_textSize m_place m_bags m_sort m_men m_kind m_readBags m_readSort m_readMen m_readMan m_readPage m_page m_trial m_book m_acts m_kept m_isKept m_felt' m_feltMan' m_feltBag' m_feltMany' m_feltIs' m_seed m_routeFew m_routeWay m_whichMany m_whichFirst m_restMany m_restFirst m_gains m_value)) := by
  obtain ⟨B, M, kb, km, d, h, kp, fe, fn, tx, tn, ⟨hW, rfl, rfl, hbk, hmk, hC, rfl, rfl, hso, hki, hM⟩, ⟨hh, hcp, hmp⟩, hS, hF, hT, hE⟩ := id hR
  have hB3 := hW.1
  have hM5 := hW.2.1
  obtain ⟨f1, rfl, rfl, f4⟩ := id hF
  cases hm : ix M x1 with
  | none => exact C_isMan_f (by omega) (ix_none (by omega) hm) ⟨fun _ => M_noM_f (by omega) (ix_none (by omega) hm) ⟨fun _ => ⟨rfl, ⟨B, M, kb, km, d, h, kp, fe, fn, tx, tn, ⟨hW, rfl, rfl, hbk, hmk, hC, rfl, rfl, hso, hki, hM⟩, ⟨hh, hcp, hmp⟩, hS, hF, hT, hE⟩⟩, fun q => absurd q (by decide)⟩, fun q => absurd rfl q⟩
  | some m =>
    obtain ⟨m1, rfl⟩ := ix_some hm
    refine C_isMan_t m1 (by omega) ⟨fun q => absurd q (by decide), fun _ => ?_⟩
    cases hb : ix B x2 with
    | none => exact C_isBag_f (by omega) (ix_none (by omega) hb) ⟨fun q => absurd rfl q, fun _ => M_noM_t m1 (by omega) ⟨fun q => absurd rfl q, fun _ => M_no_f (by omega) (ix_none (by omega) hb) ⟨fun q => absurd q (by decide), fun _ => ⟨rfl, ⟨B, M, kb, km, d, h, kp, fe, fn, tx, tn, ⟨hW, rfl, rfl, hbk, hmk, hC, rfl, rfl, hso, hki, hM⟩, ⟨hh, hcp, hmp⟩, hS, hF, hT, hE⟩⟩⟩⟩⟩
    | some b =>
      obtain ⟨b1, rfl⟩ := ix_some hb
      refine C_isBag_t b1 (by omega) ⟨fun _ => ?_, fun q => absurd q (by decide)⟩
      cases h3 : rg 1 9 x3 with
      | none => exact rgn_lt (lo := 1) (hi := 9) (by omega) (by omega) h3 (M_noM_t m1 (by omega) ⟨fun q => absurd rfl q, fun _ => M_no_t b1 (by omega) ⟨fun _ => M_in_n (lo := 1) (hi := 9) rfl rfl (by omega) (by omega) h3 ⟨fun _ => ⟨rfl, ⟨B, M, kb, km, d, h, kp, fe, fn, tx, tn, ⟨hW, rfl, rfl, hbk, hmk, hC, rfl, rfl, hso, hki, hM⟩, ⟨hh, hcp, hmp⟩, hS, hF, hT, hE⟩⟩, fun q => absurd rfl q⟩, fun q => absurd rfl q⟩⟩)
      | some n =>
        obtain ⟨n1, n2, rfl⟩ := rg_some h3
        refine rgs_lt (lo := 1) (hi := 9) (by omega) (by omega) h3 ?_
        cases h4 : rg 0 1 x4 with
        | none => exact rgn_le (lo := 0) (hi := 1) (by omega) (by omega) h4 (M_noM_t m1 (by omega) ⟨fun q => absurd rfl q, fun _ => M_no_t b1 (by omega) ⟨fun _ => M_in_s (lo := 1) (hi := 9) rfl rfl (by omega) (by omega) h3 ⟨fun q => absurd q (by decide), fun _ => M_in_n (lo := 0) (hi := 1) rfl rfl (by omega) (by omega) h4 ⟨fun q => absurd rfl q, fun _ => ⟨rfl, ⟨B, M, kb, km, d, h, kp, fe, fn, tx, tn, ⟨hW, rfl, rfl, hbk, hmk, hC, rfl, rfl, hso, hki, hM⟩, ⟨hh, hcp, hmp⟩, hS, hF, hT, hE⟩⟩⟩⟩, fun q => absurd rfl q⟩⟩)
        | some w =>
          obtain ⟨w1, w2, rfl⟩ := rg_some h4
          refine rgs_le (lo := 0) (hi := 1) (by omega) (by omega) h4 ⟨fun q => absurd q (nI_pos (by omega)), fun _ => ?_⟩
          refine pk_lt fn 6 (fun z => ?_) (fun z => ?_)
          · rw [nI_clamp (by omega), show nI fn + (1 : Int32) = nI (fn + 1) from nI_1 fn]
            refine ⟨vin (by omega) (by omega), ?_⟩
            rintro _ rfl
            refine ⟨vin (by omega) (by omega), ?_⟩
            rintro _ rfl
            refine ⟨vin (by omega) (by omega), ?_⟩
            rintro _ rfl
            refine ⟨vin (by omega) (by omega), ?_⟩
            rintro _ rfl _ rfl
            refine M_noM_t m1 (by omega) ⟨fun q => absurd rfl q, fun _ => M_no_t b1 (by omega) ⟨fun _ => M_in_s (lo := 1) (hi := 9) rfl rfl (by omega) (by omega) h3 ⟨fun q => absurd q (by decide), fun _ => M_in_s (lo := 0) (hi := 1) rfl rfl (by omega) (by omega) h4 ⟨fun _ => ⟨fun _ => ?_, fun q => ?_⟩, fun q => absurd q (by decide)⟩⟩, fun q => absurd rfl q⟩⟩
            · rw [nI_clamp (by omega), show nI fn + (1 : Int32) = nI (fn + 1) from nI_1 fn]
              refine ⟨vin (by omega) (by omega), ?_⟩
              rintro _ rfl
              refine ⟨vin (by omega) (by omega), ?_⟩
              rintro _ rfl
              refine ⟨vin (by omega) (by omega), ?_⟩
              rintro _ rfl
              refine ⟨vin (by omega) (by omega), ?_⟩
              rintro _ rfl _ rfl
              refine ⟨rfl, B, M, kb, km, d, h, kp, va_up fe fn (m, b, n, w), fn + 1, tx, tn, ⟨hW, rfl, rfl, hbk, hmk, hC, rfl, rfl, hso, hki, hM⟩, ⟨hh, hcp, hmp⟩, hS, ⟨by omega, rfl, rfl, fun i hi => ?_⟩, hT, hE⟩
              by_cases e : i = fn
              · subst e
                simp only [up_s, pk_us]
                exact ⟨show m < 5 by omega, show b < 3 by omega, n1, n2, w2, rfl, rfl, rfl, rfl, rfl, rfl, rfl, rfl⟩
              · rw [up_n _ _ e]
                simp only [pk_un e]
                exact f4 i (by omega)
            · have : fn = 6 := (nI_eq (b := 6) (by omega) (by omega)).mp q
              omega
          · have e6 : fn = 6 := by omega
            exact M_noM_t m1 (by omega) ⟨fun q => absurd rfl q, fun _ => M_no_t b1 (by omega) ⟨fun _ => M_in_s (lo := 1) (hi := 9) rfl rfl (by omega) (by omega) h3 ⟨fun q => absurd q (by decide), fun _ => M_in_s (lo := 0) (hi := 1) rfl rfl (by omega) (by omega) h4 ⟨fun _ => ⟨fun q => absurd (by rw [e6]; rfl) q, fun _ => ⟨rfl, ⟨B, M, kb, km, d, h, kp, fe, fn, tx, tn, ⟨hW, rfl, rfl, hbk, hmk, hC, rfl, rfl, hso, hki, hM⟩, ⟨hh, hcp, hmp⟩, hS, hF, hT, hE⟩⟩⟩, fun q => absurd q (by decide)⟩⟩, fun q => absurd rfl q⟩⟩

set_option maxRecDepth 20000 in
set_option maxHeartbeats 1000000 in
theorem O_keep (hR : Rel c_text_letters c_text_length c_now_bags c_now_men c_now_bagKinds c_now_manKinds c_now_cells c_trial_bags c_trial_men c_trial_bagKinds c_trial_manKinds c_trial_cells c_past_rows c_past_next c_past_count c_slots_rows c_slots_keptBits c_felt_men c_felt_bags c_felt_lengths c_felt_played c_felt_count c_chance m_thrown m_text m_textSize m_place m_bags m_sort m_men m_kind m_readBags m_readSort m_readMen m_readMan m_readPage m_page m_trial m_book m_acts m_kept m_isKept m_felt m_feltMan m_feltBag m_feltMany m_feltIs m_seed m_routeFew m_routeWay m_whichMany m_whichFirst m_restMany m_restFirst m_gains m_value) (x1 : Int32) : wpX6_keep c_now_cells c_slots_rows c_slots_keptBits x1 (fun r c_slots_rows' c_slots_keptBits' => wpX7_keep m_thrown m_page m_kept m_isKept x1 (fun r' m_thrown' m_kept' m_isKept' => r = r' ∧ Rel c_text_letters c_text_length c_now_bags c_now_men c_now_bagKinds c_now_manKinds c_now_cells c_trial_bags c_trial_men c_trial_bagKinds c_trial_manKinds c_trial_cells c_past_rows c_past_next c_past_count c_slots_rows' c_slots_keptBits' c_felt_men c_felt_bags c_felt_lengths c_felt_played c_felt_count c_chance m_thrown' m_text m_textSize m_place m_bags m_sort m_men m_kind m_readBags m_readSort m_readMen m_readMan m_readPage m_page m_trial m_book m_acts m_kept' m_isKept' m_felt m_feltMan m_feltBag m_feltMany m_feltIs m_seed m_routeFew m_routeWay m_whichMany m_whichFirst m_restMany m_restFirst m_gains m_value)) := by
  obtain ⟨B, M, kb, km, d, h, kp, fe, fn, tx, tn, ⟨hW, rfl, rfl, hbk, hmk, hC, rfl, rfl, hso, hki, hM⟩, ⟨hh, hcp, hmp⟩, hS, hF, hT, hE⟩ := id hR
  have hB3 := hW.1
  have hM5 := hW.2.1
  cases hx : rg 0 1 x1 with
  | none => exact rgn_ge (hi := 1) (by omega) hx ⟨fun q => absurd rfl q, fun _ => M_in_n (lo := 0) (hi := 1) rfl rfl (by omega) (by omega) hx ⟨fun q => absurd rfl q, fun _ => ⟨rfl, ⟨B, M, kb, km, d, h, kp, fe, fn, tx, tn, ⟨hW, rfl, rfl, hbk, hmk, hC, rfl, rfl, hso, hki, hM⟩, ⟨hh, hcp, hmp⟩, hS, hF, hT, hE⟩⟩⟩⟩
  | some k =>
    obtain ⟨k1, k2, rfl⟩ := rg_some hx
    obtain ⟨bits, rfl, s2, s3⟩ := id hS
    refine rgs_ge (hi := 1) (by omega) hx ⟨fun _ => ?_, fun q => absurd q (by decide)⟩
    refine C_copyTo (by omega) (by omega) (fun g g1 g2 => ?_)
    have h2 : 2 ^ k ≤ 2 ^ 1 := Nat.pow_le_pow_right (by omega) (by omega)
    rw [show (1 : Int32) <<< (nI k &&& 31) = nI (1 * 2 ^ k) from nI_shl (n := 1) (by omega) (by omega), Nat.one_mul, nI_or]
    rintro _ rfl
    refine C_today hC (M_in_s (lo := 0) (hi := 1) rfl rfl (by omega) (by omega) hx ⟨fun _ => ?_, fun q => absurd q (by decide)⟩)
    rw [nI_clamp (by omega)]
    refine ⟨vin (by omega) (by omega), ?_⟩
    rintro _ rfl
    obtain ⟨b4, b5⟩ := bits4 bits s2 k (by omega)
    refine pk_loop (fun f i e => wpX7_keep_L26 m_page (nI k) 0 (upd m_isKept k 1) (wpX7_keep_J55 m_page (nI k) _) _ f e (nI i)) (fun i e => (∀ j, j < i → e (47 * k + j) = m_page j) ∧ ∀ j, ¬ (47 * k ≤ j ∧ j < 47 * k + i) → e j = m_kept j) 47 0 m_kept (by omega) ⟨fun j hj => absurd hj (Nat.not_lt_zero j), fun _ _ => rfl⟩ ?_ ?_
    · intro f e he
      refine ⟨fun _ => ⟨hM.1.symm, B, M, kb, km, d, h, va_up kp k (some d), fe, fn, tx, tn, ⟨hW, rfl, rfl, hbk, hmk, hC, rfl, rfl, hso, hki, hM⟩, ⟨hh, hcp, hmp⟩, ⟨_, rfl, b4, fun i hi => ?_⟩, hF, hT, hE⟩, fun q => absurd (Int32.le_refl _) q⟩
      have b6 := b5 i hi
      by_cases z : i = k
      · subst z
        rw [up_s]
        rw [if_pos rfl] at b6
        exact ⟨b6, pk_us, hW, hC.kept (fun j hj => g1 j hj), hM.kept (fun q => hW.2.2.1 q) (fun j hj => he.1 j hj)⟩
      · rw [up_n _ _ z]
        rw [if_neg z] at b6
        have s4 := s3 i hi
        cases hk : kp i with
        | none =>
          rw [hk] at s4
          exact ⟨b6.trans s4.1, (pk_un z).trans s4.2⟩
        | some e0 =>
          rw [hk] at s4
          obtain ⟨a1, a2, a3, a4, a5⟩ := s4
          exact ⟨b6.trans a1, (pk_un z).trans a2, a3, a4.kept (fun j hj => g2 _ (by omega)), a5.kept (fun q => a3.2.2.1 q) (fun j hj => he.2 _ (by omega))⟩
    · intro f i e hi he kk
      refine ⟨fun q => absurd q (nI_ge (b := 47) hi (by omega)), fun _ => ?_⟩
      rw [show (47 : Int32) * nI k = nI (47 * k) from pk_mul 47 k, nI_add, nI_clamp (by omega), nI_clamp (by omega), show nI i + (1 : Int32) = nI (i + 1) from nI_1 i]
      refine ⟨vin hi (by omega), vin (by omega) (by omega), ?_⟩
      rintro _ rfl _ rfl
      refine kk _ ⟨fun j hj => ?_, fun j hj => ?_⟩
      · by_cases e2 : j = i
        · subst e2; exact pk_us
        · rw [pk_un (by omega)]; exact he.1 j (by omega)
      · rw [pk_un (by omega)]; exact he.2 j (by omega)

set_option maxRecDepth 20000 in
set_option maxHeartbeats 1000000 in
theorem O_again (hR : Rel c_text_letters c_text_length c_now_bags c_now_men c_now_bagKinds c_now_manKinds c_now_cells c_trial_bags c_trial_men c_trial_bagKinds c_trial_manKinds c_trial_cells c_past_rows c_past_next c_past_count c_slots_rows c_slots_keptBits c_felt_men c_felt_bags c_felt_lengths c_felt_played c_felt_count c_chance m_thrown m_text m_textSize m_place m_bags m_sort m_men m_kind m_readBags m_readSort m_readMen m_readMan m_readPage m_page m_trial m_book m_acts m_kept m_isKept m_felt m_feltMan m_feltBag m_feltMany m_feltIs m_seed m_routeFew m_routeWay m_whichMany m_whichFirst m_restMany m_restFirst m_gains m_value) (x1 : Int32) : wpX6_again c_now_cells c_past_next c_past_count c_slots_rows c_slots_keptBits x1 (fun r c_now_cells' c_past_next' c_past_count' => wpX7_again m_thrown m_page m_acts m_kept m_isKept x1 (fun r' m_thrown' m_page' m_acts' => r = r' ∧ Rel c_text_letters c_text_length c_now_bags c_now_men c_now_bagKinds c_now_manKinds c_now_cells' c_trial_bags c_trial_men c_trial_bagKinds c_trial_manKinds c_trial_cells c_past_rows c_past_next' c_past_count' c_slots_rows c_slots_keptBits c_felt_men c_felt_bags c_felt_lengths c_felt_played c_felt_count c_chance m_thrown' m_text m_textSize m_place m_bags m_sort m_men m_kind m_readBags m_readSort m_readMen m_readMan m_readPage m_page' m_trial m_book m_acts' m_kept m_isKept m_felt m_feltMan m_feltBag m_feltMany m_feltIs m_seed m_routeFew m_routeWay m_whichMany m_whichFirst m_restMany m_restFirst m_gains m_value)) := by
  obtain ⟨B, M, kb, km, d, h, kp, fe, fn, tx, tn, ⟨hW, rfl, rfl, hbk, hmk, hC, rfl, rfl, hso, hki, hM⟩, ⟨hh, hcp, hmp⟩, hS, hF, hT, hE⟩ := id hR
  have hB3 := hW.1
  have hM5 := hW.2.1
  cases hx : rg 0 1 x1 with
  | none => exact rgn_ge (hi := 1) (by omega) hx ⟨fun q => absurd rfl q, fun _ => M_in_n (lo := 0) (hi := 1) rfl rfl (by omega) (by omega) hx ⟨fun q => absurd rfl q, fun _ => ⟨rfl, ⟨B, M, kb, km, d, h, kp, fe, fn, tx, tn, ⟨hW, rfl, rfl, hbk, hmk, hC, rfl, rfl, hso, hki, hM⟩, ⟨hh, hcp, hmp⟩, hS, hF, hT, hE⟩⟩⟩⟩
  | some k =>
    obtain ⟨k1, k2, rfl⟩ := rg_some hx
    obtain ⟨bits, rfl, s2, s3⟩ := id hS
    refine rgs_ge (hi := 1) (by omega) hx ⟨fun _ => ?_, fun q => absurd q (by decide)⟩
    refine M_has2 (by omega) (by omega) ?_
    have s4 := s3 k (by omega)
    cases hk : kp k with
    | none =>
      rw [hk] at s4
      rw [s4.1]
      refine ⟨fun q => absurd rfl q, fun _ => M_in_s (lo := 0) (hi := 1) rfl rfl (by omega) (by omega) hx ⟨fun _ => ?_, fun q => absurd q (by decide)⟩⟩
      rw [nI_clamp (by omega), s4.2]
      exact ⟨vin (by omega) (by omega), fun q => absurd rfl q, fun _ => ⟨rfl, ⟨B, M, kb, km, d, h, kp, fe, fn, tx, tn, ⟨hW, rfl, rfl, hbk, hmk, hC, rfl, rfl, hso, hki, hM⟩, ⟨hh, hcp, hmp⟩, hS, hF, hT, hE⟩⟩⟩
    | some e0 =>
      rw [hk] at s4
      obtain ⟨a1, a2, a3, a4, a5⟩ := s4
      rw [a1]
      refine ⟨fun _ => C_copyFrom (by omega) (by omega) (fun g hg => ?_), fun q => absurd q (by decide)⟩
      have hC1 : RC e0 g := a4.kept (fun j hj => hg j hj)
      refine C_today hC1 (M_in_s (lo := 0) (hi := 1) rfl rfl (by omega) (by omega) hx ⟨fun _ => ?_, fun q => absurd q (by decide)⟩)
      rw [nI_clamp (by omega), a2]
      refine ⟨vin (by omega) (by omega), fun _ => ?_, fun q => absurd q (by decide)⟩
      refine pk_loop (fun f i e => wpX7_again_L31 m_kept m_isKept (nI k) 0 m_acts (wpX7_again_J60 m_kept m_isKept (nI k) _) _ f e (nI i)) (fun i e => ∀ j, j < i → e j = m_kept (47 * k + j)) 47 0 m_page (by omega) (fun j hj => absurd hj (Nat.not_lt_zero j)) ?_ ?_
      · intro f e he
        have hM1 : RM e0 e := a5.kept (fun q => a3.2.2.1 q) (fun j hj => he j hj)
        exact ⟨fun _ => ⟨hM1.1.symm, B, M, kb, km, e0, [], kp, fe, fn, tx, tn, ⟨a3, rfl, rfl, hbk, hmk, hC1, rfl, rfl, hso, hki, hM1⟩, ⟨fun e he => absurd he List.not_mem_nil, ⟨0, by omega, rfl, rfl, by simp, fun q hq => absurd hq (Nat.not_lt_zero q)⟩, ⟨rfl, by simp, fun q hq => absurd hq (Nat.not_lt_zero q)⟩⟩, hS, hF, hT, hE⟩, fun q => absurd (Int32.le_refl _) q⟩
      · intro f i e hi he kk
        refine ⟨fun q => absurd q (nI_ge (b := 47) hi (by omega)), fun _ => ?_⟩
        rw [show (47 : Int32) * nI k = nI (47 * k) from pk_mul 47 k, nI_add, nI_clamp (by omega), nI_clamp (by omega), show nI i + (1 : Int32) = nI (i + 1) from nI_1 i]
        refine ⟨vin (by omega) (by omega), vin hi (by omega), ?_⟩
        rintro _ rfl _ rfl
        refine kk _ (fun j hj => ?_)
        by_cases e2 : j = i
        · subst e2; exact pk_us
        · rw [pk_un e2]; exact he j (by omega)

set_option maxRecDepth 20000 in
set_option maxHeartbeats 1000000 in
theorem O_later (hR : Rel c_text_letters c_text_length c_now_bags c_now_men c_now_bagKinds c_now_manKinds c_now_cells c_trial_bags c_trial_men c_trial_bagKinds c_trial_manKinds c_trial_cells c_past_rows c_past_next c_past_count c_slots_rows c_slots_keptBits c_felt_men c_felt_bags c_felt_lengths c_felt_played c_felt_count c_chance m_thrown m_text m_textSize m_place m_bags m_sort m_men m_kind m_readBags m_readSort m_readMen m_readMan m_readPage m_page m_trial m_book m_acts m_kept m_isKept m_felt m_feltMan m_feltBag m_feltMany m_feltIs m_seed m_routeFew m_routeWay m_whichMany m_whichFirst m_restMany m_restFirst m_gains m_value) (x1 : Int32) (x2 : Int32) (x3 : Int32) : wpX6_later c_now_bags c_now_men c_now_bagKinds c_now_manKinds c_now_cells c_trial_bags c_trial_men c_trial_bagKinds c_trial_manKinds c_trial_cells x1 x2 x3 (fun r c_trial_bags' c_trial_men' c_trial_bagKinds' c_trial_manKinds' c_trial_cells' => wpX7_later m_thrown m_bags m_sort m_men m_kind m_page m_trial x1 x2 x3 (fun r' m_thrown' m_trial' => r = r' ∧ Rel c_text_letters c_text_length c_now_bags c_now_men c_now_bagKinds c_now_manKinds c_now_cells c_trial_bags' c_trial_men' c_trial_bagKinds' c_trial_manKinds' c_trial_cells' c_past_rows c_past_next c_past_count c_slots_rows c_slots_keptBits c_felt_men c_felt_bags c_felt_lengths c_felt_played c_felt_count c_chance m_thrown' m_text m_textSize m_place m_bags m_sort m_men m_kind m_readBags m_readSort m_readMen m_readMan m_readPage m_page m_trial' m_book m_acts m_kept m_isKept m_felt m_feltMan m_feltBag m_feltMany m_feltIs m_seed m_routeFew m_routeWay m_whichMany m_whichFirst m_restMany m_restFirst m_gains m_value)) := by
  obtain ⟨B, M, kb, km, d, h, kp, fe, fn, tx, tn, ⟨hW, rfl, rfl, hbk, hmk, hC, rfl, rfl, hso, hki, hM⟩, ⟨hh, hcp, hmp⟩, hS, hF, hT, hE⟩ := id hR
  have hB3 := hW.1
  have hM5 := hW.2.1
  cases hm : ix M x1 with
  | none => exact C_isMan_f (by omega) (ix_none (by omega) hm) ⟨fun q => absurd rfl q, fun _ => M_noM_f (by omega) (ix_none (by omega) hm) ⟨fun q => absurd q (by decide), fun _ => ⟨rfl, ⟨B, M, kb, km, d, h, kp, fe, fn, tx, tn, ⟨hW, rfl, rfl, hbk, hmk, hC, rfl, rfl, hso, hki, hM⟩, ⟨hh, hcp, hmp⟩, hS, hF, hT, hE⟩⟩⟩⟩
  | some m =>
    obtain ⟨m1, rfl⟩ := ix_some hm
    refine C_isMan_t m1 (by omega) ⟨fun _ => ?_, fun q => absurd q (by decide)⟩
    cases h2 : rg 0 40 x2 with
    | none => exact rgn_lt (lo := 0) (hi := 40) (by omega) (by omega) h2 (M_noM_t m1 (by omega) ⟨fun _ => M_in_n (lo := 0) (hi := 40) rfl rfl (by omega) (by omega) h2 ⟨fun _ => ⟨rfl, ⟨B, M, kb, km, d, h, kp, fe, fn, tx, tn, ⟨hW, rfl, rfl, hbk, hmk, hC, rfl, rfl, hso, hki, hM⟩, ⟨hh, hcp, hmp⟩, hS, hF, hT, hE⟩⟩, fun q => absurd rfl q⟩, fun q => absurd rfl q⟩)
    | some n =>
      obtain ⟨n1, n2, rfl⟩ := rg_some h2
      refine rgs_lt (lo := 0) (hi := 40) (by omega) (by omega) h2 ?_
      cases h3 : rg 0 1 x3 with
      | none => exact rgn_le (lo := 0) (hi := 1) (by omega) (by omega) h3 (M_noM_t m1 (by omega) ⟨fun _ => M_in_s (lo := 0) (hi := 40) rfl rfl (by omega) (by omega) h2 ⟨fun q => absurd q (by decide), fun _ => M_in_n (lo := 0) (hi := 1) rfl rfl (by omega) (by omega) h3 ⟨fun q => absurd rfl q, fun _ => ⟨rfl, ⟨B, M, kb, km, d, h, kp, fe, fn, tx, tn, ⟨hW, rfl, rfl, hbk, hmk, hC, rfl, rfl, hso, hki, hM⟩, ⟨hh, hcp, hmp⟩, hS, hF, hT, hE⟩⟩⟩⟩, fun q => absurd rfl q⟩)
      | some w =>
        obtain ⟨w1, w2, rfl⟩ := rg_some h3
        refine rgs_le (lo := 0) (hi := 1) (by omega) (by omega) h3 ?_
        refine C_days hW hC hbk hmk n2 (fun bk mk c' hc => ?_)
        refine ⟨fun q => C_ofMan 7 rfl hM5 m1 (by omega) ?_, fun q => C_ofMan 2 rfl hM5 m1 (by omega) ?_⟩
        · refine M_noM_t m1 (by omega) ⟨fun _ => M_in_s (lo := 0) (hi := 40) rfl rfl (by omega) (by omega) h2 ⟨fun q => absurd q (by decide), fun _ => M_in_s (lo := 0) (hi := 1) rfl rfl (by omega) (by omega) h3 ⟨fun _ => M_days hW hM hso hki n2 (fun p' hp => ⟨fun _ => ?_, fun z => absurd z q⟩), fun q => absurd q (by decide)⟩⟩, fun q => absurd rfl q⟩
          rw [show (35 : Int32) + nI m = nI (35 + m) from nI_add 35 m, nI_clamp (by omega), hp.2.2.2.1 m (by omega), hc.2.2.2.1 m (by omega)]
          exact ⟨vin (by omega) (by omega), rfl, ⟨B, M, kb, km, d, h, kp, fe, fn, tx, tn, ⟨hW, rfl, rfl, hbk, hmk, hC, rfl, rfl, hso, hki, hM⟩, ⟨hh, hcp, hmp⟩, hS, hF, hT, hE⟩⟩
        · refine M_noM_t m1 (by omega) ⟨fun _ => M_in_s (lo := 0) (hi := 40) rfl rfl (by omega) (by omega) h2 ⟨fun q => absurd q (by decide), fun _ => M_in_s (lo := 0) (hi := 1) rfl rfl (by omega) (by omega) h3 ⟨fun _ => M_days hW hM hso hki n2 (fun p' hp => ⟨fun z => absurd q z, fun _ => ?_⟩), fun q => absurd q (by decide)⟩⟩, fun q => absurd rfl q⟩
          rw [show (30 : Int32) + nI m = nI (30 + m) from nI_add 30 m, nI_clamp (by omega), hp.2.2.1 m (by omega), hc.2.2.1 m (by omega)]
          exact ⟨vin (by omega) (by omega), rfl, ⟨B, M, kb, km, d, h, kp, fe, fn, tx, tn, ⟨hW, rfl, rfl, hbk, hmk, hC, rfl, rfl, hso, hki, hM⟩, ⟨hh, hcp, hmp⟩, hS, hF, hT, hE⟩⟩

set_option maxRecDepth 20000 in
set_option maxHeartbeats 1000000 in
theorem O_holds (hR : Rel c_text_letters c_text_length c_now_bags c_now_men c_now_bagKinds c_now_manKinds c_now_cells c_trial_bags c_trial_men c_trial_bagKinds c_trial_manKinds c_trial_cells c_past_rows c_past_next c_past_count c_slots_rows c_slots_keptBits c_felt_men c_felt_bags c_felt_lengths c_felt_played c_felt_count c_chance m_thrown m_text m_textSize m_place m_bags m_sort m_men m_kind m_readBags m_readSort m_readMen m_readMan m_readPage m_page m_trial m_book m_acts m_kept m_isKept m_felt m_feltMan m_feltBag m_feltMany m_feltIs m_seed m_routeFew m_routeWay m_whichMany m_whichFirst m_restMany m_restFirst m_gains m_value) (x1 : Int32) (x2 : Int32) : wpX6_holds c_now_bags c_now_men c_now_bagKinds c_now_manKinds c_now_cells c_trial_bags c_trial_men c_trial_bagKinds c_trial_manKinds c_trial_cells x1 x2 (fun r c_trial_bags' c_trial_men' c_trial_bagKinds' c_trial_manKinds' c_trial_cells' => wpX7_holds m_thrown m_bags m_sort m_men m_kind m_page m_trial x1 x2 (fun r' m_thrown' m_trial' => r = r' ∧ Rel c_text_letters c_text_length c_now_bags c_now_men c_now_bagKinds c_now_manKinds c_now_cells c_trial_bags' c_trial_men' c_trial_bagKinds' c_trial_manKinds' c_trial_cells' c_past_rows c_past_next c_past_count c_slots_rows c_slots_keptBits c_felt_men c_felt_bags c_felt_lengths c_felt_played c_felt_count c_chance m_thrown' m_text m_textSize m_place m_bags m_sort m_men m_kind m_readBags m_readSort m_readMen m_readMan m_readPage m_page m_trial' m_book m_acts m_kept m_isKept m_felt m_feltMan m_feltBag m_feltMany m_feltIs m_seed m_routeFew m_routeWay m_whichMany m_whichFirst m_restMany m_restFirst m_gains m_value)) := by
  obtain ⟨B, M, kb, km, d, h, kp, fe, fn, tx, tn, ⟨hW, rfl, rfl, hbk, hmk, hC, rfl, rfl, hso, hki, hM⟩, ⟨hh, hcp, hmp⟩, hS, hF, hT, hE⟩ := id hR
  have hB3 := hW.1
  have hM5 := hW.2.1
  cases hb : ix B x1 with
  | none => exact C_isBag_f (by omega) (ix_none (by omega) hb) ⟨fun q => absurd rfl q, fun _ => M_no_f (by omega) (ix_none (by omega) hb) ⟨fun q => absurd q (by decide), fun _ => ⟨rfl, ⟨B, M, kb, km, d, h, kp, fe, fn, tx, tn, ⟨hW, rfl, rfl, hbk, hmk, hC, rfl, rfl, hso, hki, hM⟩, ⟨hh, hcp, hmp⟩, hS, hF, hT, hE⟩⟩⟩⟩
  | some b =>
    obtain ⟨b1, rfl⟩ := ix_some hb
    refine C_isBag_t b1 (by omega) ⟨fun _ => ?_, fun q => absurd q (by decide)⟩
    cases h2 : rg 0 40 x2 with
    | none => exact rgn_le (lo := 0) (hi := 40) (by omega) (by omega) h2 (M_no_t b1 (by omega) ⟨fun _ => M_in_n (lo := 0) (hi := 40) rfl rfl (by omega) (by omega) h2 ⟨fun q => absurd rfl q, fun _ => ⟨rfl, ⟨B, M, kb, km, d, h, kp, fe, fn, tx, tn, ⟨hW, rfl, rfl, hbk, hmk, hC, rfl, rfl, hso, hki, hM⟩, ⟨hh, hcp, hmp⟩, hS, hF, hT, hE⟩⟩⟩, fun q => absurd rfl q⟩)
    | some n =>
      obtain ⟨n1, n2, rfl⟩ := rg_some h2
      refine rgs_le (lo := 0) (hi := 40) (by omega) (by omega) h2 ?_
      have hw : ∀ i, WF B M (itr (opDay kb km B M) i d) := by
        intro i
        induction i with
        | zero => exact hW
        | succ i ih => exact ih.kDay
      refine C_days hW hC hbk hmk n2 (fun bk mk c' hc => C_breathsIn (hw n) hc (by omega) ?_)
      refine M_no_t b1 (by omega) ⟨fun _ => M_in_s (lo := 0) (hi := 40) rfl rfl (by omega) (by omega) h2 ⟨fun _ => M_days hW hM hso hki n2 (fun p' hp => ?_), fun q => absurd q (by decide)⟩, fun q => absurd rfl q⟩
      rw [nI_clamp (by omega), hp.2.2.2.2.2.1 b (by omega)]
      exact ⟨vin (by omega) (by omega), rfl, ⟨B, M, kb, km, d, h, kp, fe, fn, tx, tn, ⟨hW, rfl, rfl, hbk, hmk, hC, rfl, rfl, hso, hki, hM⟩, ⟨hh, hcp, hmp⟩, hS, hF, hT, hE⟩⟩

set_option maxRecDepth 20000 in
set_option maxHeartbeats 1000000 in
theorem O_waits (hR : Rel c_text_letters c_text_length c_now_bags c_now_men c_now_bagKinds c_now_manKinds c_now_cells c_trial_bags c_trial_men c_trial_bagKinds c_trial_manKinds c_trial_cells c_past_rows c_past_next c_past_count c_slots_rows c_slots_keptBits c_felt_men c_felt_bags c_felt_lengths c_felt_played c_felt_count c_chance m_thrown m_text m_textSize m_place m_bags m_sort m_men m_kind m_readBags m_readSort m_readMen m_readMan m_readPage m_page m_trial m_book m_acts m_kept m_isKept m_felt m_feltMan m_feltBag m_feltMany m_feltIs m_seed m_routeFew m_routeWay m_whichMany m_whichFirst m_restMany m_restFirst m_gains m_value) (x1 : Int32) (x2 : Int32) : wpX6_waits c_now_bags c_now_men c_now_bagKinds c_now_cells x1 x2 (fun r => wpX7_waits m_thrown m_bags m_sort m_men m_page x1 x2 (fun r' m_thrown' => r = r' ∧ Rel c_text_letters c_text_length c_now_bags c_now_men c_now_bagKinds c_now_manKinds c_now_cells c_trial_bags c_trial_men c_trial_bagKinds c_trial_manKinds c_trial_cells c_past_rows c_past_next c_past_count c_slots_rows c_slots_keptBits c_felt_men c_felt_bags c_felt_lengths c_felt_played c_felt_count c_chance m_thrown' m_text m_textSize m_place m_bags m_sort m_men m_kind m_readBags m_readSort m_readMen m_readMan m_readPage m_page m_trial m_book m_acts m_kept m_isKept m_felt m_feltMan m_feltBag m_feltMany m_feltIs m_seed m_routeFew m_routeWay m_whichMany m_whichFirst m_restMany m_restFirst m_gains m_value)) := by
  obtain ⟨B, M, kb, km, d, h, kp, fe, fn, tx, tn, ⟨hW, rfl, rfl, hbk, hmk, hC, rfl, rfl, hso, hki, hM⟩, ⟨hh, hcp, hmp⟩, hS, hF, hT, hE⟩ := id hR
  have hB3 := hW.1
  have hM5 := hW.2.1
  cases hm : ix M x1 with
  | none => exact C_isMan_f (by omega) (ix_none (by omega) hm) ⟨fun _ => M_noM_f (by omega) (ix_none (by omega) hm) ⟨fun _ => ⟨rfl, ⟨B, M, kb, km, d, h, kp, fe, fn, tx, tn, ⟨hW, rfl, rfl, hbk, hmk, hC, rfl, rfl, hso, hki, hM⟩, ⟨hh, hcp, hmp⟩, hS, hF, hT, hE⟩⟩, fun q => absurd q (by decide)⟩, fun q => absurd rfl q⟩
  | some m =>
    obtain ⟨m1, rfl⟩ := ix_some hm
    refine C_isMan_t m1 (by omega) ⟨fun q => absurd q (by decide), fun _ => ?_⟩
    cases hb : ix B x2 with
    | none => exact C_isBag_f (by omega) (ix_none (by omega) hb) ⟨fun q => absurd rfl q, fun _ => M_noM_t m1 (by omega) ⟨fun q => absurd rfl q, fun _ => M_no_f (by omega) (ix_none (by omega) hb) ⟨fun q => absurd q (by decide), fun _ => ⟨rfl, ⟨B, M, kb, km, d, h, kp, fe, fn, tx, tn, ⟨hW, rfl, rfl, hbk, hmk, hC, rfl, rfl, hso, hki, hM⟩, ⟨hh, hcp, hmp⟩, hS, hF, hT, hE⟩⟩⟩⟩⟩
    | some b =>
      obtain ⟨b1, rfl⟩ := ix_some hb
      refine C_isBag_t b1 (by omega) ⟨fun _ => C_waits hW hC hbk m1 b1 ?_, fun q => absurd q (by decide)⟩
      exact M_noM_t m1 (by omega) ⟨fun q => absurd rfl q, fun _ => M_no_t b1 (by omega) ⟨fun _ => M_waits hW hM hso m1 b1 ⟨rfl, ⟨B, M, kb, km, d, h, kp, fe, fn, tx, tn, ⟨hW, rfl, rfl, hbk, hmk, hC, rfl, rfl, hso, hki, hM⟩, ⟨hh, hcp, hmp⟩, hS, hF, hT, hE⟩⟩, fun q => absurd rfl q⟩⟩
end OB
