/-! battle -/
def wg (fl a x : Nat) : Nat → Nat
  | 0 => 1
  | n + 1 => if bitN fl n = 1 then wg fl a x n else wg fl a x n * (if bitN a n = 1 then x else 10 - x)
def nA (fl a n : Nat) : Nat := sm (fun k => if bitN fl k = 1 then 0 else bitN a k) n
def nN (fl a n : Nat) : Nat := sm (fun k => if bitN fl k = 1 then 0 else 1 - bitN a k) n
theorem wg_eq (fl a x : Nat) : ∀ n, wg fl a x n = x ^ nA fl a n * (10 - x) ^ nN fl a n
  | 0 => rfl
  | n + 1 => by
    unfold nA nN
    rw [wg, sm, sm]
    have ih := wg_eq fl a x n
    unfold nA nN at ih
    by_cases q : bitN fl n = 1
    · rw [if_pos q, if_pos q, if_pos q, ih]; rfl
    · rw [if_neg q, if_neg q, if_neg q, ih]
      by_cases z : bitN a n = 1
      · rw [if_pos z, z, Nat.pow_succ, Nat.mul_right_comm]; rfl
      · rw [if_neg z, bit0 z, Nat.pow_succ, Nat.mul_assoc]; rfl
def bl (fl : Nat) : Nat → Nat
  | 0 => 1
  | n + 1 => bl fl n * (if bitN fl n = 1 then 1 else 10)
theorem bl_eq : ∀ M, M < 6 → ∀ fl, fl < 2 ^ M → bl fl M = 10 ^ (M - pop fl) ∧ pop fl ≤ M := by decide +kernel
theorem cnts : ∀ M, M < 6 → ∀ fl, fl < 2 ^ M → ∀ s, s < 2 ^ M → s &&& fl = 0 → nA fl (fl ||| s) M = pop s ∧ nN fl (fl ||| s) M + pop fl + pop s = M := by decide +kernel
theorem idxs : ∀ M, M < 6 → ∀ fl, fl < 2 ^ M → (List.range (2 ^ M)).filter (fun a => decide (a &&& fl = fl)) = ((List.range (2 ^ M)).filter (fun s => decide (s &&& fl = 0))).map (fun s => fl ||| s) := by decide +kernel
theorem sm_fil (p : Nat → Bool) (F : Nat → Nat) : ∀ n, sm (fun a => if p a = true then F a else 0) n = (((List.range n).filter p).map F).sum
  | 0 => rfl
  | n + 1 => by
    rw [sm, sm_fil p F n, List.range_succ, List.filter_append, List.map_append, List.sum_append]
    by_cases e : p n = true
    · rw [if_pos e]; simp [e]
    · rw [if_neg e]; simp [e]
def upC (B M : Nat) (d : Dy) (m x : Nat) (a : Nat) : Nat := if decide (a &&& dfl d = dfl d) = true then (if m ≤ tf B d a then wg (dfl d) a x M else 0) else 0
def upM (B M : Nat) (d : Dy) (m x : Nat) (s : Nat) : Nat := if decide (s &&& dfl d = 0) = true then (if m ≤ tf B d (dfl d ||| s) then x ^ pop s * (10 - x) ^ (M - pop (dfl d) - pop s) else 0) else 0
theorem up_eq {B M : Nat} {d : Dy} (hW : WF B M d) (m x : Nat) : sm (upC B M d m x) (2 ^ M) = sm (upM B M d m x) (2 ^ M) := by
  have hM := hW.2.1
  have hf := hW.2.2.2.2.2.1
  unfold upC upM
  rw [sm_fil (fun a => decide (a &&& dfl d = dfl d)) (fun a => if m ≤ tf B d a then wg (dfl d) a x M else 0), sm_fil (fun s => decide (s &&& dfl d = 0)) (fun s => if m ≤ tf B d (dfl d ||| s) then x ^ pop s * (10 - x) ^ (M - pop (dfl d) - pop s) else 0), idxs M (by omega) (dfl d) hf, List.map_map]
  congr 1
  refine List.map_congr_left (fun s hs => ?_)
  obtain ⟨h1, h2⟩ := List.mem_filter.mp hs
  obtain ⟨c1, c2⟩ := cnts M (by omega) (dfl d) hf s (List.mem_range.mp h1) (of_decide_eq_true h2)
  show (if m ≤ tf B d (dfl d ||| s) then wg (dfl d) (dfl d ||| s) x M else 0) = _
  rw [wg_eq, c1, show nN (dfl d) (dfl d ||| s) M = M - pop (dfl d) - pop s by omega]
theorem upM_le {B M : Nat} {d : Dy} (hM : M ≤ 5) {m x : Nat} (hx : x ≤ 10) {s : Nat} (hf : dfl d < 2 ^ M) (hs : s < 2 ^ M) : upM B M d m x s ≤ 100000 := by
  unfold upM
  split
  · next q =>
    split
    · obtain ⟨c1, c2⟩ := cnts M (by omega) (dfl d) hf s hs (of_decide_eq_true q)
      have e1 : x ^ pop s ≤ 10 ^ pop s := Nat.pow_le_pow_left hx _
      have e2 : (10 - x) ^ (M - pop (dfl d) - pop s) ≤ 10 ^ (M - pop (dfl d) - pop s) := Nat.pow_le_pow_left (by omega) _
      have e3 := Nat.mul_le_mul e1 e2
      rw [← Nat.pow_add] at e3
      have e4 : 10 ^ (pop s + (M - pop (dfl d) - pop s)) ≤ 10 ^ 5 := Nat.pow_le_pow_right (by omega) (by omega)
      omega
    · exact Nat.zero_le _
  · exact Nat.zero_le _
theorem C_weight {B M : Nat} {d : Dy} {c : Nat → Int32} (hW : WF B M d) (hR : RC d c) {a x : Nat} (ha : a < 2 ^ 30) (hx : x ≤ 10) {post : Int64 → Prop} (h : post (lN (wg (dfl d) a x M))) : wpX4_weight (nI M) c (nI a) (nI x) post := by
  have hM := hW.2.1
  refine for_up (P := fun n i => wpX4_weight_L5 (nI M) c (nI a) (nI x) post n (lN (wg (dfl d) a x i)) (nI i)) M ?_ ?_ 0 (by omega)
  · intro n; exact ⟨fun _ => h, fun q => absurd (Int32.le_refl _) q⟩
  · intro n i hi k
    have e1 : nI i + (1 : Int32) = nI (i + 1) := nI_1 i
    refine ⟨fun q => absurd q (nI_ge hi (by omega)), fun _ => C_hasFallen hW hR (by omega) ?_⟩
    by_cases q : bitN (dfl d) i = 1
    · rw [q]
      refine ⟨fun _ => ?_, fun z => absurd z (by decide)⟩
      rintro _ rfl
      rw [wg, if_pos q] at k
      rw [e1]; exact k
    · rw [bit0 q]
      rw [wg, if_neg q, ← lN_mul] at k
      refine ⟨fun z => absurd rfl z, fun _ => ⟨fun z => ?_, fun z => ?_⟩⟩
      · rw [bit_expr (by omega) (by omega)] at z
        rw [if_neg (fun w => z (by rw [w]; rfl))] at k
        rintro _ rfl _ rfl
        rw [e1, show (10 : Int32) - nI x = nI (10 - x) from pk_sub (a := 10) hx, nI_l (by omega)]; exact k
      · rw [bit_expr (by omega) (by omega)] at z
        have hb1 := bitN_le a i
        rw [if_pos ((nI_eq (b := 1) (by omega) (by omega)).mp z)] at k
        rintro _ rfl _ rfl
        rw [e1, nI_l (by omega)]; exact k
def btl (B M : Nat) (d : Dy) (m x : Nat) (u : Int32) : Int32 := tld (sm (upM B M d m x) (2 ^ M)) (10 ^ (M - pop (dfl d))) u
theorem C_chanceOfLeft {B M : Nat} {d : Dy} {c : Nat → Int32} (hW : WF B M d) (hR : RC d c) {m x : Nat} (hm : m ≤ 27) (hx : x ≤ 10) {u : Int32} {post : Int32 → Prop} (h : post (btl B M d m x u)) : wpX4_chanceOfLeft (nI B) (nI M) c (nI m) (nI x) u post := by
  have hM := hW.2.1
  have hp5 := pw5 hM
  have hf := hW.2.2.2.2.2.1
  obtain ⟨b1, b2⟩ := bl_eq M (by omega) (dfl d) hf
  have hs := sm_le (f := upM B M d m x) (c := 100000) (n := 2 ^ M) (fun k hk => upM_le hM hx hf hk)
  have hs2 := Nat.mul_le_mul_right 100000 hp5
  have h10 : 10 ^ (M - pop (dfl d)) ≤ 10 ^ 5 := Nat.pow_le_pow_right (by omega) (by omega)
  have h0 : 0 < 10 ^ (M - pop (dfl d)) := Nat.pow_pos (by omega)
  refine C_fallenBits hR ?_
  refine for_up (P := fun n i => wpX4_chanceOfLeft_L15 (nI B) (nI M) c (nI m) (nI x) u (nI (dfl d)) 0 (wpX4_chanceOfLeft_J51 (nI B) (nI M) c (nI m) (nI x) u post) post n (lN (bl (dfl d) i)) (nI i)) M ?_ ?_ 0 (by omega)
  · intro n
    refine ⟨fun _ => ?_, fun q => absurd (Int32.le_refl _) q⟩
    rw [b1]
    refine for_up (P := fun n i => wpX4_chanceOfLeft_L54 (nI B) (nI M) c (nI m) (nI x) u (nI (dfl d)) (lN (10 ^ (M - pop (dfl d)))) (wpX4_chanceOfLeft_J103 (nI B) (nI M) c (nI m) (nI x) u post) post n (lN (sm (upC B M d m x) i)) (nI i)) (2 ^ M) ?_ ?_ 0 (by omega)
    · intro n
      refine ⟨fun _ => ?_, fun q => absurd (by rw [sh1 hM]; exact Int32.le_refl _) q⟩
      rw [up_eq hW]
      exact C_told (by omega) h0 (by omega) h
    · intro n i hi k
      have e1 : nI i + (1 : Int32) = nI (i + 1) := nI_1 i
      have hand : i &&& dfl d ≤ dfl d := Nat.and_le_right
      rw [sm] at k
      refine ⟨fun q => absurd (by rw [sh1 hM] at q; exact q) (nI_ge hi (by omega)), fun _ => ⟨fun q => ?_, fun q => ?_⟩⟩
      · rw [nI_and] at q
        have hq : ¬ i &&& dfl d = dfl d := fun z => q (by rw [z])
        rintro _ rfl
        rw [e1]
        rw [show upC B M d m x i = 0 by unfold upC; rw [decide_eq_false hq]; rfl, Nat.add_zero] at k
        exact k
      · rw [nI_and] at q
        have hq := (nI_eq (by omega) (by omega)).mp q
        refine C_breathsOfThese hW hR (by omega) ?_
        have t1 := tf_le hW i
        refine pk_lt (tf B d i) m (fun z => ?_) (fun z => C_weight hW hR (by omega) hx ?_)
        · rintro _ rfl
          rw [e1]
          rw [show upC B M d m x i = 0 by unfold upC; rw [decide_eq_true hq, if_pos rfl, if_neg (by omega)], Nat.add_zero] at k
          exact k
        · rintro _ rfl _ rfl
          rw [e1, lN_add]
          rw [show upC B M d m x i = wg (dfl d) i x M by unfold upC; rw [decide_eq_true hq, if_pos rfl, if_pos z]] at k
          exact k
  · intro n i hi k
    have e1 : nI i + (1 : Int32) = nI (i + 1) := nI_1 i
    rw [bl, ← lN_mul] at k
    refine ⟨fun q => absurd q (nI_ge hi (by omega)), fun _ => C_hasFallen hW hR (by omega) ?_⟩
    by_cases q : bitN (dfl d) i = 1
    · rw [q]
      rw [if_pos q] at k
      refine ⟨fun z => absurd z (by decide), fun _ => ?_⟩
      rintro _ rfl _ rfl
      rw [e1]; exact k
    · rw [bit0 q]
      rw [if_neg q] at k
      refine ⟨fun _ => ?_, fun z => absurd rfl z⟩
      rintro _ rfl _ rfl
      rw [e1]; exact k
theorem M_battleL {B M : Nat} {d : Dy} {p : Nat → Int32} (hW : WF B M d) (hR : RM d p) {m x : Nat} (hm : m ≤ 27) (hx : x ≤ 10) {u : Int32} {t0 : Nat → Int32} {post : Int32 → Int32 → (Nat → Int32) → Prop} (h : ∀ t, post (btl B M d m x u) 0 t) : wpX7_battle_E55 (nI M) p (nI m) (nI x) u post 0 t0 (nI (M - pop (dfl d))) 0 0 := by
  have hM := hW.2.1
  have hp5 := pw5 hM
  have hf := hW.2.2.2.2.2.1
  obtain ⟨b1, b2⟩ := bl_eq M (by omega) (dfl d) hf
  have hs := sm_le (f := upM B M d m x) (c := 100000) (n := 2 ^ M) (fun k hk => upM_le hM hx hf hk)
  have hs2 := Nat.mul_le_mul_right 100000 hp5
  have h10 : 10 ^ (M - pop (dfl d)) ≤ 10 ^ 5 := Nat.pow_le_pow_right (by omega) (by omega)
  have h0 : 0 < 10 ^ (M - pop (dfl d)) := Nat.pow_pos (by omega)
  refine pk_loop (fun n i t => wpX7_battle_L55 (nI M) p (nI m) (nI x) u 0 (nI (M - pop (dfl d))) (wpX7_battle_J148 (nI M) p (nI m) (nI x) u post) post n t (nI (sm (upM B M d m x) i)) (nI i)) (fun _ _ => True) (2 ^ M) 0 t0 (by omega) trivial ?_ ?_
  · intro n t _
    exact ⟨fun _ => M_power (a := 10) (by omega) (M_fraction (by omega) h0 (by omega) (h t)), fun q => absurd (by rw [sh1 hM]; exact Int32.le_refl _) q⟩
  · intro n i t hi _ k
    have e1 : nI i + (1 : Int32) = nI (i + 1) := nI_1 i
    have hand : i &&& dfl d ≤ dfl d := Nat.and_le_right
    refine ⟨fun q => absurd (by rw [sh1 hM] at q; exact q) (nI_ge hi (by omega)), fun _ => ?_⟩
    rw [hR.2.1, nI_and]
    refine ⟨fun q => ?_, fun q => M_begin (fun t' ht' => ?_)⟩
    · have hq : ¬ i &&& dfl d = 0 := fun z => q (by rw [z]; rfl)
      rintro _ rfl
      have k2 := k t trivial
      rw [sm, show upM B M d m x i = 0 by unfold upM; rw [decide_eq_false hq]; rfl, Nat.add_zero] at k2
      rw [e1]; exact k2
    · have hq : i &&& dfl d = 0 := (nI_eq (b := 0) (by omega) (by omega)).mp q
      obtain ⟨c1, c2⟩ := cnts M (by omega) (dfl d) hf i hi hq
      have hR' := hR.kept (fun q => hW.2.2.1 q) ht'
      rintro _ rfl
      have hor : dfl d ||| i < 2 ^ M := Nat.or_lt_two_pow hf hi
      rw [hR'.2.1, nI_or]
      have hR2 := RM.setFl (fun q => hW.2.2.1 q) hR' (dfl d ||| i)
      refine M_many (by omega) (M_leftR (d := setFl d (dfl d ||| i)) (hW.kFl hor) hR2 ?_)
      rw [left_eq (d := setFl d (dfl d ||| i)) (hW.kFl hor)]
      have t1 := tf_le hW (dfl d ||| i)
      have k2 := k (upd t' 45 (nI (dfl d ||| i))) trivial
      rw [sm] at k2
      refine pk_lt (tf B d (dfl d ||| i)) m (fun z => ?_) (fun z => M_power (by omega) ?_)
      · rintro _ rfl _ rfl
        rw [show upM B M d m x i = 0 by unfold upM; rw [decide_eq_true hq, if_pos rfl, if_neg (by omega)]] at k2
        rw [e1, show nI (sm (upM B M d m x) i) + (0 : Int32) = nI (sm (upM B M d m x) i + 0) from nI_add _ 0]; exact k2
      · rw [show (10 : Int32) - nI x = nI (10 - x) from pk_sub (a := 10) hx, pk_sub (by omega)]
        refine M_power (by omega) ?_
        rw [pk_mul]
        rintro _ rfl _ rfl
        rw [show upM B M d m x i = x ^ pop i * (10 - x) ^ (M - pop (dfl d) - pop i) by unfold upM; rw [decide_eq_true hq, if_pos rfl, if_pos z]] at k2
        rw [e1, nI_add]; exact k2
section OB
variable {c_text_letters : Nat → Int32} {c_text_length : Int32} {c_now_bags : Int32} {c_now_men : Int32} {c_now_bagKinds : Nat → Int32} {c_now_manKinds : Nat → Int32} {c_now_cells : Nat → Int32} {c_trial_bags : Int32} {c_trial_men : Int32} {c_trial_bagKinds : Nat → Int32} {c_trial_manKinds : Nat → Int32} {c_trial_cells : Nat → Int32} {c_past_rows : Nat → Int32} {c_past_next : Int32} {c_past_count : Int32} {c_slots_rows : Nat → Int32} {c_slots_keptBits : Int32} {c_felt_men : Nat → Int32} {c_felt_bags : Nat → Int32} {c_felt_lengths : Nat → Int32} {c_felt_played : Nat → Int32} {c_felt_count : Int32} {c_chance : Int64} {m_thrown : Int32} {m_text : Nat → Int32} {m_textSize : Int32} {m_place : Int32} {m_bags : Int32} {m_sort : Nat → Int32} {m_men : Int32} {m_kind : Nat → Int32} {m_readBags : Int32} {m_readSort : Nat → Int32} {m_readMen : Int32} {m_readMan : Nat → Int32} {m_readPage : Nat → Int32} {m_page : Nat → Int32} {m_trial : Nat → Int32} {m_book : Nat → Int32} {m_acts : Int32} {m_kept : Nat → Int32} {m_isKept : Nat → Int32} {m_felt : Int32} {m_feltMan : Nat → Int32} {m_feltBag : Nat → Int32} {m_feltMany : Nat → Int32} {m_feltIs : Nat → Int32} {m_seed : Int64} {m_routeFew : Int32} {m_routeWay : Int32} {m_whichMany : Int32} {m_whichFirst : Int32} {m_restMany : Int32} {m_restFirst : Int32} {m_gains : Nat → Int32} {m_value : Nat → Int32}
set_option maxRecDepth 20000 in
set_option maxHeartbeats 2000000 in
theorem O_battle (hR : Rel c_text_letters c_text_length c_now_bags c_now_men c_now_bagKinds c_now_manKinds c_now_cells c_trial_bags c_trial_men c_trial_bagKinds c_trial_manKinds c_trial_cells c_past_rows c_past_next c_past_count c_slots_rows c_slots_keptBits c_felt_men c_felt_bags c_felt_lengths c_felt_played c_felt_count c_chance m_thrown m_text m_textSize m_place m_bags m_sort m_men m_kind m_readBags m_readSort m_readMen m_readMan m_readPage m_page m_trial m_book m_acts m_kept m_isKept m_felt m_feltMan m_feltBag m_feltMany m_feltIs m_seed m_routeFew m_routeWay m_whichMany m_whichFirst m_restMany m_restFirst m_gains m_value) (x1 : Int32) (x2 : Int32) (x3 : Int32) : wpX6_battle c_now_bags c_now_men c_now_cells x1 x2 x3 (fun r => wpX7_battle m_thrown m_men m_page m_trial x1 x2 x3 (fun r' m_thrown' m_trial' => r = r' ∧ Rel c_text_letters c_text_length c_now_bags c_now_men c_now_bagKinds c_now_manKinds c_now_cells c_trial_bags c_trial_men c_trial_bagKinds c_trial_manKinds c_trial_cells c_past_rows c_past_next c_past_count c_slots_rows c_slots_keptBits c_felt_men c_felt_bags c_felt_lengths c_felt_played c_felt_count c_chance m_thrown' m_text m_textSize m_place m_bags m_sort m_men m_kind m_readBags m_readSort m_readMen m_readMan m_readPage m_page m_trial' m_book m_acts m_kept m_isKept m_felt m_feltMan m_feltBag m_feltMany m_feltIs m_seed m_routeFew m_routeWay m_whichMany m_whichFirst m_restMany m_restFirst m_gains m_value)) := by
  obtain ⟨B, M, kb, km, d, h, kp, fe, fn, tx, tn, ⟨hW, rfl, rfl, hbk, hmk, hC, rfl, rfl, hso, hki, hM⟩, ⟨hh, hcp, hmp⟩, hS, hF, hT, hE⟩ := id hR
  have hB3 := hW.1
  have hM5 := hW.2.1
  have hf := hW.fl
  obtain ⟨-, b2⟩ := bl_eq M (by omega) (dfl d) hW.2.2.2.2.2.1
  cases h1 : rg 0 27 x1 with
  | none => exact rgn_lt (lo := 0) (hi := 27) (by omega) (by omega) h1 (M_in_n (lo := 0) (hi := 27) rfl rfl (by omega) (by omega) h1 ⟨fun _ => ⟨rfl, ⟨B, M, kb, km, d, h, kp, fe, fn, tx, tn, ⟨hW, rfl, rfl, hbk, hmk, hC, rfl, rfl, hso, hki, hM⟩, ⟨hh, hcp, hmp⟩, hS, hF, hT, hE⟩⟩, fun q => absurd rfl q⟩)
  | some m =>
    refine rgs_lt (lo := 0) (hi := 27) (by omega) (by omega) h1 ?_
    cases h2 : rg 0 10 x2 with
    | none => exact rgn_le (lo := 0) (hi := 10) (by omega) (by omega) h2 (M_in_s (lo := 0) (hi := 27) rfl rfl (by omega) (by omega) h1 ⟨fun q => absurd q (by decide), fun _ => M_in_n (lo := 0) (hi := 10) rfl rfl (by omega) (by omega) h2 ⟨fun q => absurd rfl q, fun _ => ⟨rfl, ⟨B, M, kb, km, d, h, kp, fe, fn, tx, tn, ⟨hW, rfl, rfl, hbk, hmk, hC, rfl, rfl, hso, hki, hM⟩, ⟨hh, hcp, hmp⟩, hS, hF, hT, hE⟩⟩⟩⟩)
    | some x =>
      refine rgs_le (lo := 0) (hi := 10) (by omega) (by omega) h2 ?_
      obtain ⟨-, m2, rfl⟩ := rg_some h1
      obtain ⟨-, y2, rfl⟩ := rg_some h2
      refine C_chanceOfLeft hW hC m2 y2 (M_in_s (lo := 0) (hi := 27) rfl rfl (by omega) (by omega) h1 ⟨fun q => absurd q (by decide), fun _ => M_in_s (lo := 0) (hi := 10) rfl rfl (by omega) (by omega) h2 ⟨fun _ => ?_, fun q => absurd q (by decide)⟩⟩)
      rw [hM.2.1]
      refine M_many (by omega) ?_
      rw [pk_sub (by omega)]
      rintro _ rfl
      exact M_battleL hW hM m2 y2 (fun t => ⟨rfl, ⟨B, M, kb, km, d, h, kp, fe, fn, tx, tn, ⟨hW, rfl, rfl, hbk, hmk, hC, rfl, rfl, hso, hki, hM⟩, ⟨hh, hcp, hmp⟩, hS, hF, hT, hE⟩⟩)
end OB
