/-! fault, regiment -/
theorem in3 {B M : Nat} {d : Dy} (hW : WF B M d) : (dpl d 0).length + (dpl d 1).length + (dpl d 2).length = sm (fun b => (dpl d b).length) B := by
  have hB := hW.1
  have z : ∀ b, B ≤ b → (dpl d b).length = 0 := fun b hb => by rw [hW.2.2.2.2.1 b hb]; rfl
  rcases (show B = 0 ∨ B = 1 ∨ B = 2 ∨ B = 3 by omega) with rfl | rfl | rfl | rfl
  · simp [sm, z 0, z 1, z 2]
  · simp [sm, z 1, z 2]
  · simp [sm, z 2]
  · simp [sm]
theorem M_regL {B M : Nat} {kb km : Nat → Nat} {d : Dy} {rs rn rp : Nat → Int32} (hP : PI B M d) (hs : SK B kb rs) (hk : RK M km d rn) (hR : RM (noSd d) rp) {T : Nat → Int32} {size pl : Int32} {sort kind page isK : Nat → Int32} {acts : Int32} {post : Int32 → Int32 → Int32 → Int32 → (Nat → Int32) → Int32 → (Nat → Int32) → Int32 → (Nat → Int32) → Int32 → (Nat → Int32) → (Nat → Int32) → (Nat → Int32) → Int32 → (Nat → Int32) → Prop} (h : ∀ sort' kind' page', SK B kb sort' → SK M km kind' → RM d page' → post (nI (100 * B + 10 * M + sm (fun b => (dpl d b).length) B)) 0 pl (nI B) sort' (nI M) kind' (nI B) rs (nI M) rn rp page' 0 (upd (upd isK 0 0) 1 0)) : wpX7_regiment_E35 T size post 0 pl (nI B) sort (nI M) kind (nI B) rs (nI M) rn rp page acts isK 0 := by
  have hB := hP.1.1
  have hM := hP.1.2.1
  refine pk_loop (fun f i e => wpX7_regiment_L35 T size 0 pl (nI B) sort (nI M) kind (nI B) rs (nI M) rn rp acts isK (wpX7_regiment_J59 T size post) post f e (nI i)) (fun i e => ∀ j, j < i → e j = rp j) 47 0 page (by omega) (fun j hj => absurd hj (Nat.not_lt_zero j)) ?_ ?_
  · intro f p1 hp1
    refine ⟨fun _ => ?_, fun q => absurd (show (47 : Int32) ≤ nI 47 by decide) q⟩
    refine pk_loop (fun f i e => wpX7_regiment_L61 T size 0 pl (nI B) (nI M) kind (nI B) rs (nI M) rn rp p1 acts isK (wpX7_regiment_J87 T size post) post f e (nI i)) (fun i e => ∀ j, j < i → e j = rs j) B 0 sort (by omega) (fun j hj => absurd hj (Nat.not_lt_zero j)) ?_ ?_
    · intro f s1 hs1
      refine ⟨fun _ => ?_, fun q => absurd (Int32.le_refl _) q⟩
      have hS1 : SK B kb s1 := fun b hb => by rw [hs1 b hb]; exact hs b hb
      refine pk_loop (fun f i (e : (Nat → Int32) × (Nat → Int32)) => wpX7_regiment_L89 T size 0 pl (nI B) s1 (nI M) (nI B) rs (nI M) rn rp acts isK (wpX7_regiment_J136 T size post) post f e.1 e.2 (nI i)) (fun i e => (∀ m, m < i → e.1 m = nI (km m) ∧ e.2 (30 + m) = nI (dsd d m)) ∧ ∀ j, j < 47 → ¬ (30 ≤ j ∧ j < 30 + i) → e.2 j = rp j) M 0 (kind, p1) (by omega) ⟨fun j hj => absurd hj (Nat.not_lt_zero j), fun j hj _ => hp1 j hj⟩ ?_ ?_
      · rintro f ⟨k1, p2⟩ ⟨ha, hb⟩
        refine ⟨fun _ => ?_, fun q => absurd (Int32.le_refl _) q⟩
        have ha : ∀ m, m < M → k1 m = nI (km m) ∧ p2 (30 + m) = nI (dsd d m) := ha
        have hb : ∀ j, j < 47 → ¬ (30 ≤ j ∧ j < 30 + M) → p2 j = rp j := hb
        have hK1 : SK M km k1 := fun m hm => ⟨(ha m hm).1, (hk m hm).2.2⟩
        obtain ⟨r0, r1, r2, r3, r4, r5, r6⟩ := hR
        have hR2 : RM d p2 := by
          refine ⟨(hb _ (by omega) (by omega)).trans r0, (hb _ (by omega) (by omega)).trans r1, fun m hm => ?_, fun m hm => (hb _ (by omega) (by omega)).trans (r3 m hm), fun m hm => (hb _ (by omega) (by omega)).trans (r4 m hm), fun b hb2 => (hb _ (by omega) (by omega)).trans (r5 b hb2), fun b hb2 j hj => (hb _ (by have := hP.1.2.2.1 b; omega) (by have := hP.1.2.2.1 b; omega)).trans (r6 b hb2 j hj)⟩
          rcases Nat.lt_or_ge m M with u | u
          · exact (ha m u).2
          · rw [hb _ (by omega) (by omega), hP.2 m u]; exact r2 m hm
        rintro _ rfl _ rfl
        show post ((((((100 : Int32) * nI B) + ((10 : Int32) * nI M)) + p2 0) + p2 1) + p2 2) _ _ _ _ _ _ _ _ _ _ _ _ _ _
        rw [hR2.2.2.2.2.2.1 0 (by omega), hR2.2.2.2.2.2.1 1 (by omega), hR2.2.2.2.2.2.1 2 (by omega), show (100 : Int32) * nI B = nI (100 * B) from pk_mul 100 B, show (10 : Int32) * nI M = nI (10 * M) from pk_mul 10 M, nI_add, nI_add, nI_add, nI_add, show 100 * B + 10 * M + (dpl d 0).length + (dpl d 1).length + (dpl d 2).length = 100 * B + 10 * M + sm (fun b => (dpl d b).length) B by rw [← in3 hP.1]; omega]
        exact h s1 k1 p2 hS1 hK1 hR2
      · rintro f i ⟨k1, p2⟩ hi ⟨ha, hb⟩ k
        have ha : ∀ m, m < i → k1 m = nI (km m) ∧ p2 (30 + m) = nI (dsd d m) := ha
        have hb : ∀ j, j < 47 → ¬ (30 ≤ j ∧ j < 30 + i) → p2 j = rp j := hb
        refine ⟨fun q => absurd q (nI_ge hi (by omega)), fun _ => ?_⟩
        rw [show (2 : Int32) * nI i = nI (2 * i) from pk_mul 2 i, show nI (2 * i) + (1 : Int32) = nI (2 * i + 1) from nI_1 _, show (30 : Int32) + nI i = nI (30 + i) from nI_add 30 i, nI_clamp (by omega), nI_clamp (by omega), nI_clamp (by omega), nI_clamp (by omega), (hk i hi).1, (hk i hi).2.1]
        refine ⟨vin (by omega) (by omega), vin (by omega) (by omega), ?_⟩
        rintro _ rfl
        refine ⟨vin (by omega) (by omega), vin (by omega) (by omega), ?_⟩
        rintro _ rfl _ rfl
        rw [show nI i + (1 : Int32) = nI (i + 1) from nI_1 i]
        refine k (upd k1 i (nI (km i)), upd p2 (30 + i) (nI (dsd d i))) ⟨fun m hm => ?_, fun j hj hj2 => ?_⟩
        · show upd _ _ _ _ = _ ∧ upd _ _ _ _ = _
          rcases Nat.lt_or_ge m i with u | u
          · rw [pk_un (by omega), pk_un (by omega)]; exact ha m u
          · rw [show m = i by omega, pk_us, pk_us]; exact ⟨rfl, rfl⟩
        · show upd _ _ _ _ = _
          rw [pk_un (by omega)]; exact hb j hj (by omega)
    · intro f i e hi he k
      refine ⟨fun q => absurd q (nI_ge hi (by omega)), fun _ => ⟨vin (by omega) (by omega), vin (by omega) (by omega), ?_⟩⟩
      rw [nI_clamp (by omega)]
      rintro _ rfl _ rfl
      rw [show nI i + (1 : Int32) = nI (i + 1) from nI_1 i]
      refine k _ (fun j hj => ?_)
      by_cases e2 : j = i
      · subst e2; exact pk_us
      · rw [pk_un e2]; exact he j (by omega)
  · intro f i e hi he k
    refine ⟨fun q => absurd q (nI_ge (b := 47) hi (by omega)), fun _ => ⟨vin hi (by omega), vin hi (by omega), ?_⟩⟩
    rw [nI_clamp (by omega)]
    rintro _ rfl _ rfl
    rw [show nI i + (1 : Int32) = nI (i + 1) from nI_1 i]
    refine k _ (fun j hj => ?_)
    by_cases e2 : j = i
    · subst e2; exact pk_us
    · rw [pk_un e2]; exact he j (by omega)
section OB
variable {c_text_letters : Nat → Int32} {c_text_length : Int32} {c_now_bags : Int32} {c_now_men : Int32} {c_now_bagKinds : Nat → Int32} {c_now_manKinds : Nat → Int32} {c_now_cells : Nat → Int32} {c_trial_bags : Int32} {c_trial_men : Int32} {c_trial_bagKinds : Nat → Int32} {c_trial_manKinds : Nat → Int32} {c_trial_cells : Nat → Int32} {c_past_rows : Nat → Int32} {c_past_next : Int32} {c_past_count : Int32} {c_slots_rows : Nat → Int32} {c_slots_keptBits : Int32} {c_felt_men : Nat → Int32} {c_felt_bags : Nat → Int32} {c_felt_lengths : Nat → Int32} {c_felt_played : Nat → Int32} {c_felt_count : Int32} {c_chance : Int64} {m_thrown : Int32} {m_text : Nat → Int32} {m_textSize : Int32} {m_place : Int32} {m_bags : Int32} {m_sort : Nat → Int32} {m_men : Int32} {m_kind : Nat → Int32} {m_readBags : Int32} {m_readSort : Nat → Int32} {m_readMen : Int32} {m_readMan : Nat → Int32} {m_readPage : Nat → Int32} {m_page : Nat → Int32} {m_trial : Nat → Int32} {m_book : Nat → Int32} {m_acts : Int32} {m_kept : Nat → Int32} {m_isKept : Nat → Int32} {m_felt : Int32} {m_feltMan : Nat → Int32} {m_feltBag : Nat → Int32} {m_feltMany : Nat → Int32} {m_feltIs : Nat → Int32} {m_seed : Int64} {m_routeFew : Int32} {m_routeWay : Int32} {m_whichMany : Int32} {m_whichFirst : Int32} {m_restMany : Int32} {m_restFirst : Int32} {m_gains : Nat → Int32} {m_value : Nat → Int32}
set_option maxRecDepth 20000 in
set_option maxHeartbeats 2000000 in
theorem O_fault (hR : Rel c_text_letters c_text_length c_now_bags c_now_men c_now_bagKinds c_now_manKinds c_now_cells c_trial_bags c_trial_men c_trial_bagKinds c_trial_manKinds c_trial_cells c_past_rows c_past_next c_past_count c_slots_rows c_slots_keptBits c_felt_men c_felt_bags c_felt_lengths c_felt_played c_felt_count c_chance m_thrown m_text m_textSize m_place m_bags m_sort m_men m_kind m_readBags m_readSort m_readMen m_readMan m_readPage m_page m_trial m_book m_acts m_kept m_isKept m_felt m_feltMan m_feltBag m_feltMany m_feltIs m_seed m_routeFew m_routeWay m_whichMany m_whichFirst m_restMany m_restFirst m_gains m_value) : wpX6_fault c_text_letters c_text_length c_trial_bags c_trial_men c_trial_bagKinds c_trial_manKinds c_trial_cells (fun r c_trial_bags' c_trial_men' c_trial_bagKinds' c_trial_manKinds' c_trial_cells' => wpX7_fault m_thrown m_text m_textSize m_place m_readBags m_readSort m_readMen m_readMan m_readPage (fun r' m_thrown' m_place' m_readBags' m_readSort' m_readMen' m_readMan' m_readPage' => r = r' ∧ Rel c_text_letters c_text_length c_now_bags c_now_men c_now_bagKinds c_now_manKinds c_now_cells c_trial_bags' c_trial_men' c_trial_bagKinds' c_trial_manKinds' c_trial_cells' c_past_rows c_past_next c_past_count c_slots_rows c_slots_keptBits c_felt_men c_felt_bags c_felt_lengths c_felt_played c_felt_count c_chance m_thrown' m_text m_textSize m_place' m_bags m_sort m_men m_kind m_readBags' m_readSort' m_readMen' m_readMan' m_readPage' m_page m_trial m_book m_acts m_kept m_isKept m_felt m_feltMan m_feltBag m_feltMany m_feltIs m_seed m_routeFew m_routeWay m_whichMany m_whichFirst m_restMany m_restFirst m_gains m_value)) := by
  obtain ⟨B, M, kb, km, d, h, kp, fe, fn, tx, tn, ⟨hW, rfl, rfl, hbk, hmk, hC, rfl, rfl, hso, hki, hM⟩, ⟨hh, hcp, hmp⟩, hS, hF, hT, hE⟩ := id hR
  have hB3 := hW.1
  have hM5 := hW.2.1
  obtain ⟨t1, rfl, rfl, t2⟩ := id hT
  exact C_tellTo t1 t2 (fun B1 M1 kb1 km1 d1 bk1 mk1 c1 e1 hP hb hm hR1 => M_readRegiment t1 t2 (fun pl B2 M2 kb2 km2 d2 rs rn rp e2 hP2 hs hk hR2 => ⟨rfl, ⟨B, M, kb, km, d, h, kp, fe, fn, tx, tn, ⟨hW, rfl, rfl, hbk, hmk, hC, rfl, rfl, hso, hki, hM⟩, ⟨hh, hcp, hmp⟩, hS, hF, hT, hE⟩⟩))

set_option maxRecDepth 20000 in
set_option maxHeartbeats 2000000 in
theorem O_regiment (hR : Rel c_text_letters c_text_length c_now_bags c_now_men c_now_bagKinds c_now_manKinds c_now_cells c_trial_bags c_trial_men c_trial_bagKinds c_trial_manKinds c_trial_cells c_past_rows c_past_next c_past_count c_slots_rows c_slots_keptBits c_felt_men c_felt_bags c_felt_lengths c_felt_played c_felt_count c_chance m_thrown m_text m_textSize m_place m_bags m_sort m_men m_kind m_readBags m_readSort m_readMen m_readMan m_readPage m_page m_trial m_book m_acts m_kept m_isKept m_felt m_feltMan m_feltBag m_feltMany m_feltIs m_seed m_routeFew m_routeWay m_whichMany m_whichFirst m_restMany m_restFirst m_gains m_value) : wpX6_regiment c_text_letters c_text_length c_now_bags c_now_men c_now_bagKinds c_now_manKinds c_now_cells c_trial_bags c_trial_men c_trial_bagKinds c_trial_manKinds c_trial_cells c_past_next c_past_count c_slots_keptBits (fun r c_now_bags' c_now_men' c_now_bagKinds' c_now_manKinds' c_now_cells' c_trial_bags' c_trial_men' c_trial_bagKinds' c_trial_manKinds' c_trial_cells' c_past_next' c_past_count' c_slots_keptBits' => wpX7_regiment m_thrown m_text m_textSize m_place m_bags m_sort m_men m_kind m_readBags m_readSort m_readMen m_readMan m_readPage m_page m_acts m_isKept (fun r' m_thrown' m_place' m_bags' m_sort' m_men' m_kind' m_readBags' m_readSort' m_readMen' m_readMan' m_readPage' m_page' m_acts' m_isKept' => r = r' ∧ Rel c_text_letters c_text_length c_now_bags' c_now_men' c_now_bagKinds' c_now_manKinds' c_now_cells' c_trial_bags' c_trial_men' c_trial_bagKinds' c_trial_manKinds' c_trial_cells' c_past_rows c_past_next' c_past_count' c_slots_rows c_slots_keptBits' c_felt_men c_felt_bags c_felt_lengths c_felt_played c_felt_count c_chance m_thrown' m_text m_textSize m_place' m_bags' m_sort' m_men' m_kind' m_readBags' m_readSort' m_readMen' m_readMan' m_readPage' m_page' m_trial m_book m_acts' m_kept m_isKept' m_felt m_feltMan m_feltBag m_feltMany m_feltIs m_seed m_routeFew m_routeWay m_whichMany m_whichFirst m_restMany m_restFirst m_gains m_value)) := by
  obtain ⟨B, M, kb, km, d, h, kp, fe, fn, tx, tn, ⟨hW, rfl, rfl, hbk, hmk, hC, rfl, rfl, hso, hki, hM⟩, ⟨hh, hcp, hmp⟩, hS, hF, hT, hE⟩ := id hR
  have hB3 := hW.1
  have hM5 := hW.2.1
  obtain ⟨t1, rfl, rfl, t2⟩ := id hT
  refine C_tellTo t1 t2 (fun B1 M1 kb1 km1 d1 bk1 mk1 c1 e1 hP hb hm hR1 => ⟨fun q => C_becomeAll (fun bk2 mk2 c2 f1 f2 f3 => ?_), fun q => M_readRegiment t1 t2 (fun pl B2 M2 kb2 km2 d2 rs rn rp e2 hP2 hs hk hR2 => ⟨fun z => absurd z q, fun _ => ⟨rfl, ⟨B, M, kb, km, d, h, kp, fe, fn, tx, tn, ⟨hW, rfl, rfl, hbk, hmk, hC, rfl, rfl, hso, hki, hM⟩, ⟨hh, hcp, hmp⟩, hS, hF, hT, hE⟩⟩⟩)⟩)
  have hb1 := hP.1.1
  have hm1 := hP.1.2.1
  have hbk2 : SK B1 kb1 bk2 := fun b hb3 => by rw [f1 b (by omega)]; exact hb b hb3
  have hmk2 : SK M1 km1 mk2 := fun b hb3 => by rw [f2 b (by omega)]; exact hm b hb3
  have hC2 : RC d1 c2 := hR1.kept f3
  refine C_breathsInAll hP.1 hC2 (M_readRegiment t1 t2 (fun pl B2 M2 kb2 km2 d2 rs rn rp e2 hP2 hs hk hR2 => ⟨fun _ => ?_, fun z => absurd q z⟩))
  have e3 := e1.symm.trans e2
  cases e3
  refine M_regL hP hs hk hR2 (fun s1 k1 p1 hs1 hk1 hp1 => ⟨?_, B1, M1, kb1, km1, d1, [], fun _ => none, fe, fn, tx, tn, ⟨hP.1, rfl, rfl, hbk2, hmk2, hC2, rfl, rfl, hs1, hk1, hp1⟩, ⟨fun e he => absurd he List.not_mem_nil, ⟨0, by omega, rfl, rfl, by simp, fun q hq => absurd hq (Nat.not_lt_zero q)⟩, ⟨rfl, by simp, fun q hq => absurd hq (Nat.not_lt_zero q)⟩⟩, ⟨0, rfl, by omega, fun i hi => ?_⟩, hF, hT, hE⟩)
  · rw [show (100 : Int32) * nI B1 = nI (100 * B1) from pk_mul 100 B1, show (10 : Int32) * nI M1 = nI (10 * M1) from pk_mul 10 M1, nI_add, nI_add]
  · rcases (show i = 0 ∨ i = 1 by omega) with rfl | rfl
    · exact ⟨rfl, rfl⟩
    · exact ⟨rfl, rfl⟩
end OB
