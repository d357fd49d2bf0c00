/-! which -/
theorem cntP_t {p : Nat → Bool} {n : Nat} (h : p n = true) : cntP p (n + 1) = cntP p n + 1 := by rw [cntP, h]; rfl
theorem cntP_f {p : Nat → Bool} {n : Nat} (h : p n = false) : cntP p (n + 1) = cntP p n := by rw [cntP, h]; rfl
theorem if10 {b : Bool} : (if b = true then (1 : Int32) else 0) = 0 ↔ b = false := by cases b <;> decide
theorem C_which {B M : Nat} {d : Dy} {c c1 c2 c3 c4 m1 m2 m3 m4 : Nat → Int32} {cn mn : Int32} {fe : Nat → Fe} {fn : Nat} (hW : WF B M d) (hR : RC d c) (hF : RFelt fe fn c1 c2 c3 c4 cn mn m1 m2 m3 m4) {x : Int32} {k : Nat} (hx : rg 0 1 x = some k) {post : Int32 → Prop} (h : post (if k = 0 then nI (cntP (fun q => fitN B M d fe q fn) 40) else fstV (fun q => fitN B M d fe q fn) (fun q => q) 40)) : wpX6_which (nI B) (nI M) c c1 c2 c3 c4 cn x post := by
  refine rgs_le (lo := 0) (hi := 1) (by omega) (by omega) hx ?_
  obtain ⟨-, k1, rfl⟩ := rg_some hx
  generalize hp : (fun q => fitN B M d fe q fn) = p at h
  have hpq : ∀ q, p q = fitN B M d fe q fn := fun q => by rw [← hp]
  refine for_up (P := fun n kd => wpX6_which_L20 (nI B) (nI M) c c1 c2 c3 c4 cn (nI k) (wpX6_which_J88 (nI B) (nI M) c c1 c2 c3 c4 cn (nI k) post) post n (nI (cntP p (10 * kd))) (fstV p (fun q => q) (10 * kd)) (nI kd)) 4 ?_ ?_ 0 (by omega)
  · intro n
    refine ⟨fun _ => ⟨fun q => ?_, fun q => ?_⟩, fun q => absurd (show (3 : Int32) < nI 4 by decide) q⟩
    · rw [if_neg (fun z => q (by rw [z]; rfl))] at h; exact h
    · rw [if_pos ((nI_eq (b := 0) (by omega) (by omega)).mp q)] at h; exact h
  · intro n kd hkd ih
    refine ⟨fun q => absurd q (nI_nlt (a := 3) (by omega) (by omega)), fun _ => ?_⟩
    refine for_up (P := fun n2 dd => wpX6_which_L29 (nI B) (nI M) c c1 c2 c3 c4 cn (nI k) (nI kd) (wpX6_which_J82 (nI B) (nI M) c c1 c2 c3 c4 cn (nI k) (wpX6_which_L20 (nI B) (nI M) c c1 c2 c3 c4 cn (nI k) (wpX6_which_J88 (nI B) (nI M) c c1 c2 c3 c4 cn (nI k) post) post n) post) post n2 (nI (cntP p (10 * kd + dd))) (fstV p (fun q => q) (10 * kd + dd)) (nI dd)) 10 ?_ ?_ 0 (by omega)
    · intro n2
      refine ⟨fun _ => ?_, fun q => absurd (show (9 : Int32) < nI 10 by decide) q⟩
      rintro _ rfl
      rw [show nI kd + (1 : Int32) = nI (kd + 1) from nI_1 kd, show 10 * kd + 10 = 10 * (kd + 1) by omega]
      exact ih
    · intro n2 dd hdd k2
      refine ⟨fun q => absurd q (nI_nlt (a := 9) (by omega) (by omega)), fun _ => C_fits hW hR hF (by omega) (by omega) ?_⟩
      rw [← hpq]
      have hc := cntP_le p (10 * kd + dd)
      have e1 : nI dd + (1 : Int32) = nI (dd + 1) := nI_1 dd
      rw [← Nat.add_assoc] at k2
      refine ⟨fun q => ?_, fun q => ?_⟩
      · have e := if10.mp q
        rintro _ rfl
        rw [cntP_f e, fstV_no e] at k2
        rw [e1]; exact k2
      · have e : p (10 * kd + dd) = true := by
          cases z : p (10 * kd + dd) with
          | true => rfl
          | false => exact absurd (if10.mpr z) q
        rw [cntP_t e, ← nI_1] at k2
        rintro _ rfl
        refine ⟨fun q2 => ?_, fun q2 => ?_⟩
        · rintro _ rfl
          rw [fstV_old (fun z => q2 ((fstV_9 (by intro j hj; omega)).mpr z))] at k2
          rw [e1]; exact k2
        · rintro _ rfl
          rw [fstV_new e ((fstV_9 (by intro j hj; omega)).mp q2)] at k2
          rw [e1, show (10 : Int32) * nI kd = nI (10 * kd) from pk_mul 10 kd, nI_add]; exact k2
theorem M_which {B M : Nat} {d : Dy} {pg c1 c2 c3 c4 m1 m2 m3 m4 : Nat → Int32} {cn mn th wm wf : Int32} {fe : Nat → Fe} {fn : Nat} (hW : WF B M d) (hR : RM d pg) (hF : RFelt fe fn c1 c2 c3 c4 cn mn m1 m2 m3 m4) {x : Int32} {k : Nat} (hx : rg 0 1 x = some k) {post : Int32 → Int32 → Int32 → Int32 → Prop} (h : ∀ a b, post (if k = 0 then nI (cntP (fun q => fitN B M d fe q fn) 40) else fstV (fun q => fitN B M d fe q fn) (fun q => q) 40) 0 a b) : wpX7_which th (nI B) (nI M) pg mn m1 m2 m3 m4 wm wf x post := by
  refine M_in_s (lo := 0) (hi := 1) rfl rfl (by omega) (by omega) hx ⟨fun _ => ?_, fun q => absurd q (by decide)⟩
  obtain ⟨-, k1, rfl⟩ := rg_some hx
  have hB := hW.1
  have hM := hW.2.1
  obtain ⟨f1, rfl, rfl, f4⟩ := hF
  generalize hp : (fun q => fitN B M d fe q fn) = p at h
  have hpq : ∀ q, p q = fitN B M d fe q fn := fun q => by rw [← hp]
  refine for_up (P := fun n q => wpX7_which_L31 (nI B) (nI M) pg (nI fn) m1 m2 m3 m4 (nI k) 0 (wpX7_which_J206 (nI B) (nI M) pg (nI fn) m1 m2 m3 m4 (nI k) post) post n (nI (cntP p q)) (fstV p (fun q => q) q) (nI q)) 40 ?_ ?_ 0 (by omega)
  · intro n
    refine ⟨fun _ => ⟨fun q => ?_, fun q => ?_⟩, fun q => absurd (show (40 : Int32) ≤ nI 40 by decide) q⟩
    · have h := h (nI (cntP p 40)) (fstV p (fun q => q) 40)
      rw [if_neg (fun z => q (by rw [z]; rfl))] at h; exact h
    · have h := h (nI (cntP p 40)) (fstV p (fun q => q) 40)
      rw [if_pos ((nI_eq (b := 0) (by omega) (by omega)).mp q)] at h; exact h
  · intro n q hq ih
    refine ⟨fun z => absurd z (nI_ge (b := 40) (by omega) (by omega)), fun _ => ?_⟩
    have hc := cntP_le p q
    refine for_up (P := fun n2 i => wpX7_which_L42 (nI B) (nI M) pg (nI fn) m1 m2 m3 m4 (nI k) 0 (nI (cntP p q)) (fstV p (fun q => q) q) (nI q) (wpX7_which_J159 (nI B) (nI M) pg (nI fn) m1 m2 m3 m4 (nI k) 0 (wpX7_which_L31 (nI B) (nI M) pg (nI fn) m1 m2 m3 m4 (nI k) 0 (wpX7_which_J206 (nI B) (nI M) pg (nI fn) m1 m2 m3 m4 (nI k) post) post n) post) post n2 (if fitN B M d fe q i = true then (1 : Int32) else 0) (nI i)) fn ?_ ?_ 0 (by omega)
    · intro n2
      refine ⟨fun _ => ?_, fun z => absurd (Int32.le_refl _) z⟩
      rw [← hpq]
      refine ⟨fun z => ?_, fun z => ?_⟩
      · have e := if10.mp z
        refine ⟨fun _ => ?_, fun w => absurd z w⟩
        rintro _ rfl _ rfl
        rw [cntP_f e, fstV_no e] at ih
        rw [show nI q + (1 : Int32) = nI (q + 1) from nI_1 q, show nI (cntP p q) + (0 : Int32) = nI (cntP p q + 0) from nI_add _ 0]
        exact ih
      · have e : p q = true := by
          cases w : p q with
          | true => rfl
          | false => exact absurd (if10.mpr w) z
        rw [cntP_t e, ← nI_1, ← nI_1] at ih
        refine ⟨fun w => ⟨fun w2 => absurd w2 z, fun _ => ?_⟩, fun w => ⟨fun w2 => absurd w2 z, fun _ => ?_⟩⟩
        · rintro _ rfl _ rfl
          rw [fstV_old (fun u => w (by rw [u]; rfl))] at ih
          exact ih
        · rintro _ rfl _ rfl
          rw [fstV_new e ((nI_eq (b := 0) (by omega) (by omega)).mp w)] at ih
          exact ih
    · intro n2 i hi k2
      obtain ⟨e1, e2, e3, e4, e5, -, -, -, -, e6, e7, e8, e9⟩ := f4 i (by omega)
      have ei : nI i + (1 : Int32) = nI (i + 1) := nI_1 i
      have J : ∀ k0 : Int32, (k0 = 0 ∧ ¬ ((fe i).1 < M ∧ (fe i).2.1 < B)) ∨ (k0 = 1 ∧ (fe i).1 < M ∧ (fe i).2.1 < B) → wpX7_which_J84 (nI B) (nI M) pg (nI fn) m1 m2 m3 m4 (nI k) 0 (nI (cntP p q)) (fstV p (fun q => q) q) (nI q) (wpX7_which_L42 (nI B) (nI M) pg (nI fn) m1 m2 m3 m4 (nI k) 0 (nI (cntP p q)) (fstV p (fun q => q) q) (nI q) (wpX7_which_J159 (nI B) (nI M) pg (nI fn) m1 m2 m3 m4 (nI k) 0 (wpX7_which_L31 (nI B) (nI M) pg (nI fn) m1 m2 m3 m4 (nI k) 0 (wpX7_which_J206 (nI B) (nI M) pg (nI fn) m1 m2 m3 m4 (nI k) post) post n) post) post n2) post (if fitN B M d fe q i = true then (1 : Int32) else 0) (nI i) k0 := by
        intro k0 hk0
        rw [fitN] at k2
        refine ⟨fun z => ?_, fun z => ?_⟩
        · have e := if10.mp z
          rw [e, Bool.false_and] at k2
          rintro _ rfl
          rw [ei]; exact k2
        · have e : fitN B M d fe q i = true := by
            cases w : fitN B M d fe q i with
            | true => rfl
            | false => exact absurd (if10.mpr w) z
          rw [e, Bool.true_and] at k2
          rcases hk0 with ⟨rfl, hn⟩ | ⟨rfl, hm, hb⟩
          · refine ⟨fun _ => ?_, fun w => absurd rfl w⟩
            have ef : fit1 B M d (fe i) q = true := by
              unfold fit1
              rw [show (decide ((fe i).1 < M) && decide ((fe i).2.1 < B)) = false by rw [← Bool.decide_and]; exact decide_eq_false hn]
              rfl
            rw [ef] at k2
            rintro _ rfl
            rw [ei]; exact k2
          · refine ⟨fun w => absurd w (by decide), fun _ => ⟨vin (by omega) (by omega), vin (by omega) (by omega), vin (by omega) (by omega), ?_⟩⟩
            rw [nI_clamp (by omega), e6, e7, e8, show nI q - nI q / (10 : Int32) * (10 : Int32) = nI (q % 10) from pk_rem (d := 10) (by omega) (by omega) (by omega), show nI q / (10 : Int32) = nI (q / 10) from pk_div (d := 10) (by omega) (by omega) (by omega)]
            refine M_isPlayed hW hR e1 hb e4 (by omega) (by omega) ⟨vin (by omega) (by omega), ?_⟩
            rw [e9]
            have hp1 : pld d (fe i) (q / 10) (q % 10) ≤ 1 := bitN_le _ _
            have J2 : wpX7_which_J144 (nI B) (nI M) pg (nI fn) m1 m2 m3 m4 (nI k) 0 (nI (cntP p q)) (fstV p (fun q => q) q) (nI q) (wpX7_which_L42 (nI B) (nI M) pg (nI fn) m1 m2 m3 m4 (nI k) 0 (nI (cntP p q)) (fstV p (fun q => q) q) (nI q) (wpX7_which_J159 (nI B) (nI M) pg (nI fn) m1 m2 m3 m4 (nI k) 0 (wpX7_which_L31 (nI B) (nI M) pg (nI fn) m1 m2 m3 m4 (nI k) 0 (wpX7_which_J206 (nI B) (nI M) pg (nI fn) m1 m2 m3 m4 (nI k) post) post n) post) post n2) post (nI i) (nI (fe i).2.2.2) (nI (pld d (fe i) (q / 10) (q % 10))) := by
              refine ⟨fun w => ?_, fun w => ?_⟩
              · have hne : ¬ pld d (fe i) (q / 10) (q % 10) = (fe i).2.2.2 := fun u => w (by rw [u])
                have ef : fit1 B M d (fe i) q = false := by
                  unfold fit1
                  rw [decide_eq_false hne, decide_eq_true hm, decide_eq_true hb]; rfl
                rw [ef] at k2
                rintro _ rfl
                rw [ei]; exact k2
              · have he := (nI_eq (by omega) (by omega)).mp w
                have ef : fit1 B M d (fe i) q = true := by
                  unfold fit1
                  rw [decide_eq_true he, Bool.or_true]
                rw [ef] at k2
                rintro _ rfl
                rw [ei]; exact k2
            refine ⟨fun w => ?_, fun w => ?_⟩
            · rw [show (fe i).2.2.2 = 0 from Nat.lt_one_iff.mp (Nat.lt_of_le_of_ne e5 (fun u => w (by rw [u]; rfl)))] at J2
              exact J2
            · rw [show (fe i).2.2.2 = 1 from (nI_eq (b := 1) (by omega) (by omega)).mp w] at J2
              exact J2
      refine ⟨fun z => absurd z (nI_ge (by omega) (by omega)), fun _ => ⟨vin (by omega) (by omega), ?_⟩⟩
      rw [nI_clamp (by omega), e6, e7]
      by_cases hm : (fe i).1 < M
      · refine M_noM_t hm (by omega) ⟨fun w => absurd rfl w, fun _ => ⟨vin (by omega) (by omega), ?_⟩⟩
        by_cases hb : (fe i).2.1 < B
        · exact M_no_t hb (by omega) ⟨fun w => absurd rfl w, fun _ => J 1 (Or.inr ⟨rfl, hm, hb⟩)⟩
        · refine M_no_f (by omega) (fun ⟨j, hj, e⟩ => hb ?_) ⟨fun _ => J 0 (Or.inl ⟨rfl, fun w => hb w.2⟩), fun w => absurd w (by decide)⟩
          rw [(nI_eq (by omega) (by omega)).mp e]; exact hj
      · refine M_noM_f (by omega) (fun ⟨j, hj, e⟩ => hm ?_) ⟨fun _ => J 0 (Or.inl ⟨rfl, fun w => hm w.1⟩), fun w => absurd w (by decide)⟩
        rw [(nI_eq (by omega) (by omega)).mp e]; exact hj
section OB
variable {c_text_letters : Nat → Int32} {c_text_length : Int32} {c_now_bags : Int32} {c_now_men : Int32} {c_now_bagKinds : Nat → Int32} {c_now_manKinds : Nat → Int32} {c_now_cells : Nat → Int32} {c_trial_bags : Int32} {c_trial_men : Int32} {c_trial_bagKinds : Nat → Int32} {c_trial_manKinds : Nat → Int32} {c_trial_cells : Nat → Int32} {c_past_rows : Nat → Int32} {c_past_next : Int32} {c_past_count : Int32} {c_slots_rows : Nat → Int32} {c_slots_keptBits : Int32} {c_felt_men : Nat → Int32} {c_felt_bags : Nat → Int32} {c_felt_lengths : Nat → Int32} {c_felt_played : Nat → Int32} {c_felt_count : Int32} {c_chance : Int64} {m_thrown : Int32} {m_text : Nat → Int32} {m_textSize : Int32} {m_place : Int32} {m_bags : Int32} {m_sort : Nat → Int32} {m_men : Int32} {m_kind : Nat → Int32} {m_readBags : Int32} {m_readSort : Nat → Int32} {m_readMen : Int32} {m_readMan : Nat → Int32} {m_readPage : Nat → Int32} {m_page : Nat → Int32} {m_trial : Nat → Int32} {m_book : Nat → Int32} {m_acts : Int32} {m_kept : Nat → Int32} {m_isKept : Nat → Int32} {m_felt : Int32} {m_feltMan : Nat → Int32} {m_feltBag : Nat → Int32} {m_feltMany : Nat → Int32} {m_feltIs : Nat → Int32} {m_seed : Int64} {m_routeFew : Int32} {m_routeWay : Int32} {m_whichMany : Int32} {m_whichFirst : Int32} {m_restMany : Int32} {m_restFirst : Int32} {m_gains : Nat → Int32} {m_value : Nat → Int32}
set_option maxRecDepth 20000 in
set_option maxHeartbeats 2000000 in
theorem O_which (hR : Rel c_text_letters c_text_length c_now_bags c_now_men c_now_bagKinds c_now_manKinds c_now_cells c_trial_bags c_trial_men c_trial_bagKinds c_trial_manKinds c_trial_cells c_past_rows c_past_next c_past_count c_slots_rows c_slots_keptBits c_felt_men c_felt_bags c_felt_lengths c_felt_played c_felt_count c_chance m_thrown m_text m_textSize m_place m_bags m_sort m_men m_kind m_readBags m_readSort m_readMen m_readMan m_readPage m_page m_trial m_book m_acts m_kept m_isKept m_felt m_feltMan m_feltBag m_feltMany m_feltIs m_seed m_routeFew m_routeWay m_whichMany m_whichFirst m_restMany m_restFirst m_gains m_value) (x1 : Int32) : wpX6_which c_now_bags c_now_men c_now_cells c_felt_men c_felt_bags c_felt_lengths c_felt_played c_felt_count x1 (fun r => wpX7_which m_thrown m_bags m_men m_page m_felt m_feltMan m_feltBag m_feltMany m_feltIs m_whichMany m_whichFirst x1 (fun r' m_thrown' m_whichMany' m_whichFirst' => r = r' ∧ Rel c_text_letters c_text_length c_now_bags c_now_men c_now_bagKinds c_now_manKinds c_now_cells c_trial_bags c_trial_men c_trial_bagKinds c_trial_manKinds c_trial_cells c_past_rows c_past_next c_past_count c_slots_rows c_slots_keptBits c_felt_men c_felt_bags c_felt_lengths c_felt_played c_felt_count c_chance m_thrown' m_text m_textSize m_place m_bags m_sort m_men m_kind m_readBags m_readSort m_readMen m_readMan m_readPage m_page m_trial m_book m_acts m_kept m_isKept m_felt m_feltMan m_feltBag m_feltMany m_feltIs m_seed m_routeFew m_routeWay m_whichMany' m_whichFirst' m_restMany m_restFirst m_gains m_value)) := by
  obtain ⟨B, M, kb, km, d, h, kp, fe, fn, tx, tn, ⟨hW, rfl, rfl, hbk, hmk, hC, rfl, rfl, hso, hki, hM⟩, ⟨hh, hcp, hmp⟩, hS, hF, hT, hE⟩ := id hR
  have hB3 := hW.1
  have hM5 := hW.2.1
  cases h1 : rg 0 1 x1 with
  | none => exact rgn_le (lo := 0) (hi := 1) (by omega) (by omega) h1 (M_in_n (lo := 0) (hi := 1) rfl rfl (by omega) (by omega) h1 ⟨fun q => absurd rfl q, fun _ => ⟨rfl, ⟨B, M, kb, km, d, h, kp, fe, fn, tx, tn, ⟨hW, rfl, rfl, hbk, hmk, hC, rfl, rfl, hso, hki, hM⟩, ⟨hh, hcp, hmp⟩, hS, hF, hT, hE⟩⟩⟩)
  | some k => exact C_which hW hC hF h1 (M_which hW hM hF h1 (fun a b => ⟨rfl, ⟨B, M, kb, km, d, h, kp, fe, fn, tx, tn, ⟨hW, rfl, rfl, hbk, hmk, hC, rfl, rfl, hso, hki, hM⟩, ⟨hh, hcp, hmp⟩, hS, hF, hT, hE⟩⟩))
end OB
