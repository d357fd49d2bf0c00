/-! what ties the class to the reference, and the first obligations of the law -/
def RNow (B M : Nat) (kb km : Nat → Nat) (d : Dy) (cb cm : Int32) (cbk cmk cc : Nat → Int32) (mb : Int32) (ms : Nat → Int32) (mm : Int32) (mk mp : Nat → Int32) : Prop := WF B M d ∧ cb = nI B ∧ cm = nI M ∧ SK B kb cbk ∧ SK M km cmk ∧ RC d cc ∧ mb = nI B ∧ mm = nI M ∧ SK B kb ms ∧ SK M km mk ∧ RM d mp
def RPast (B M : Nat) (h : List Dy) (rows : Nat → Int32) (next count : Int32) (book : Nat → Int32) (acts : Int32) : Prop := (∀ e, e ∈ h → WF B M e) ∧ CPast h rows next count ∧ MPast h book acts
def RSlot1 (B M : Nat) (bits : Nat) (crows kept isK : Nat → Int32) (i : Nat) (o : Option Dy) : Prop := match o with
  | none => bitN bits i = 0 ∧ isK i = 0
  | some e => bitN bits i = 1 ∧ isK i = 1 ∧ WF B M e ∧ RC e (fun j => crows (23 * i + j)) ∧ RM e (fun j => kept (47 * i + j))
def RSlot (B M : Nat) (kp : Nat → Option Dy) (crows : Nat → Int32) (cbits : Int32) (kept isK : Nat → Int32) : Prop := ∃ bits : Nat, cbits = nI bits ∧ bits < 4 ∧ ∀ i, i < 2 → RSlot1 B M bits crows kept isK i (kp i)
abbrev Fe : Type := Nat × Nat × Nat × Nat
def RFelt1 (e : Fe) (c1 c2 c3 c4 m1 m2 m3 m4 : Int32) : Prop := e.1 < 5 ∧ e.2.1 < 3 ∧ 1 ≤ e.2.2.1 ∧ e.2.2.1 ≤ 9 ∧ e.2.2.2 ≤ 1 ∧ c1 = nI e.1 ∧ c2 = nI e.2.1 ∧ c3 = nI e.2.2.1 ∧ c4 = nI e.2.2.2 ∧ m1 = nI e.1 ∧ m2 = nI e.2.1 ∧ m3 = nI e.2.2.1 ∧ m4 = nI e.2.2.2
def RFelt (fe : Nat → Fe) (fn : Nat) (c1 c2 c3 c4 : Nat → Int32) (cn mn : Int32) (m1 m2 m3 m4 : Nat → Int32) : Prop := fn ≤ 6 ∧ cn = nI fn ∧ mn = nI fn ∧ ∀ i, i < fn → RFelt1 (fe i) (c1 i) (c2 i) (c3 i) (c4 i) (m1 i) (m2 i) (m3 i) (m4 i)
def RText (tx : Nat → Nat) (tn : Nat) (letters : Nat → Int32) (len : Int32) (text : Nat → Int32) (size : Int32) : Prop := tn ≤ 60 ∧ len = nI tn ∧ size = nI tn ∧ ∀ i, i < tn → tx i < 256 ∧ letters i = nI (tx i) ∧ text i = nI (tx i)
def Rel (c_text_letters : Nat → Int32) (c_text_length : Int32) (c_now_bags : Int32) (c_now_men : Int32) (c_now_bagKinds : Nat → Int32) (c_now_manKinds : Nat → Int32) (c_now_cells : Nat → Int32) (c_trial_bags : Int32) (c_trial_men : Int32) (c_trial_bagKinds : Nat → Int32) (c_trial_manKinds : Nat → Int32) (c_trial_cells : Nat → Int32) (c_past_rows : Nat → Int32) (c_past_next : Int32) (c_past_count : Int32) (c_slots_rows : Nat → Int32) (c_slots_keptBits : Int32) (c_felt_men : Nat → Int32) (c_felt_bags : Nat → Int32) (c_felt_lengths : Nat → Int32) (c_felt_played : Nat → Int32) (c_felt_count : Int32) (c_chance : Int64) (m_thrown : Int32) (m_text : Nat → Int32) (m_textSize : Int32) (m_place : Int32) (m_bags : Int32) (m_sort : Nat → Int32) (m_men : Int32) (m_kind : Nat → Int32) (m_readBags : Int32) (m_readSort : Nat → Int32) (m_readMen : Int32) (m_readMan : Nat → Int32) (m_readPage : Nat → Int32) (m_page : Nat → Int32) (m_trial : Nat → Int32) (m_book : Nat → Int32) (m_acts : Int32) (m_kept : Nat → Int32) (m_isKept : Nat → Int32) (m_felt : Int32) (m_feltMan : Nat → Int32) (m_feltBag : Nat → Int32) (m_feltMany : Nat → Int32) (m_feltIs : Nat → Int32) (m_seed : Int64) (m_routeFew : Int32) (m_routeWay : Int32) (m_whichMany : Int32) (m_whichFirst : Int32) (m_restMany : Int32) (m_restFirst : Int32) (m_gains : Nat → Int32) (m_value : Nat → Int32) : Prop := ∃ (B M : Nat) (kb km : Nat → Nat) (d : Dy) (h : List Dy) (kp : Nat → Option Dy) (fe : Nat → Fe) (fn : Nat) (tx : Nat → Nat) (tn : Nat), RNow B M kb km d c_now_bags c_now_men c_now_bagKinds c_now_manKinds c_now_cells m_bags m_sort m_men m_kind m_page ∧ RPast B M h c_past_rows c_past_next c_past_count m_book m_acts ∧ RSlot B M kp c_slots_rows c_slots_keptBits m_kept m_isKept ∧ RFelt fe fn c_felt_men c_felt_bags c_felt_lengths c_felt_played c_felt_count m_felt m_feltMan m_feltBag m_feltMany m_feltIs ∧ RText tx tn c_text_letters c_text_length m_text m_textSize ∧ c_chance = m_seed
theorem orr_bit {f : Nat → Nat} {j : Nat} : ∀ {n : Nat}, (orr f n).testBit j = true ↔ ∃ k, k < n ∧ f k = j
  | 0 => by simp [orr]
  | n + 1 => by
    rw [orr, Nat.testBit_or, Bool.or_eq_true, orr_bit, Nat.testBit_two_pow, decide_eq_true_eq]
    constructor
    · rintro (⟨k, h1, h2⟩ | h)
      · exact ⟨k, by omega, h2⟩
      · exact ⟨n, by omega, h⟩
    · rintro ⟨k, h1, h2⟩
      rcases Nat.lt_or_ge k n with q | q
      · exact Or.inl ⟨k, q, h2⟩
      · rw [show k = n by omega] at h2; exact Or.inr h2
theorem orr_same {f g : Nat → Nat} {n : Nat} (h1 : ∀ k, k < n → ∃ q, q < n ∧ g q = f k) (h2 : ∀ k, k < n → ∃ q, q < n ∧ f q = g k) : orr f n = orr g n := by
  apply Nat.eq_of_testBit_eq
  intro j
  rw [Bool.eq_iff_iff, orr_bit, orr_bit]
  constructor
  · rintro ⟨k, hk, rfl⟩; exact h1 k hk
  · rintro ⟨k, hk, rfl⟩; exact h2 k hk
theorem bitN_pow (m x : Nat) : bitN (2 ^ m) x = if x = m then 1 else 0 := by
  have h : bitN (2 ^ m) x = ((2 ^ m).testBit x).toNat := by
    unfold bitN
    rw [Nat.testBit_eq_decide_div_mod_eq]
    rcases (show 2 ^ m / 2 ^ x % 2 = 0 ∨ 2 ^ m / 2 ^ x % 2 = 1 by omega) with e | e <;> simp [e]
  rw [h, Nat.testBit_two_pow]
  by_cases e : x = m
  · simp [e]
  · simp [e, show ¬ m = x from fun z => e z.symm]
theorem ls_cong {f g : Nat → Nat} (h : ∀ x, f x = g x) (L : List Nat) : ls f L = ls g L := sm_cong (fun k _ => h _)
theorem his_all {B M : Nat} {d : Dy} (hW : WF B M d) (m : Nat) : sm (fun b => ls (bitN (2 ^ m)) (dpl d b)) B = all3 d m := by
  rw [← sm3 (g := fun b => ls (bitN (2 ^ m)) (dpl d b)) hW.1 (fun b hb => by rw [hW.2.2.2.2.1 b hb]; rfl)]
  unfold all3
  rw [ls_cong (bitN_pow m), ls_cong (bitN_pow m), ls_cong (bitN_pow m)]
theorem M_menIn {B M : Nat} {d : Dy} {p : Nat → Int32} (hW : WF B M d) (hR : RM d p) {b : Nat} (hb : b < 3) {post : Int32 → Prop} (h : post (nI (orr (fun i => (dpl d b).getD i 0) (dpl d b).length))) : wpX7_menIn p (nI b) post := by
  have h9 := hW.2.2.1 b
  have hM := hW.2.1
  refine for_up (P := fun n i => wpX7_menIn_L4 p (nI b) post n (nI (orr (fun i => (dpl d b).getD i 0) i)) (nI i)) (dpl d b).length ?_ ?_ 0 (by omega)
  · intro n
    unfold wpX7_menIn_L4
    rw [nI_clamp (by omega), hR.2.2.2.2.2.1 b hb]
    exact ⟨vin (by omega) (by omega), fun _ => h, fun q => absurd (Int32.le_refl _) q⟩
  · intro n i hi k
    have ho := hW.own hi
    have ho2 : 2 ^ (dpl d b).getD i 0 < 2 ^ 5 := Nat.pow_lt_pow_right (by omega) (by omega)
    unfold wpX7_menIn_L4
    rw [nI_clamp (by omega), hR.2.2.2.2.2.1 b hb]
    refine ⟨vin (by omega) (by omega), fun q => absurd q (nI_ge hi (by omega)), fun _ => M_breath hW hR hi ?_⟩
    rw [show (1 : Int32) <<< (nI ((dpl d b).getD i 0) &&& 31) = nI (1 * 2 ^ (dpl d b).getD i 0) from nI_shl (n := 1) (by omega) (by omega), Nat.one_mul, nI_or, show nI i + (1 : Int32) = nI (i + 1) from nI_1 i]
    rintro _ rfl _ rfl
    exact k
/-- how many must be played till all of his are -/
def wt (f : Nat → Nat) (m : Nat) : Nat → Nat
  | 0 => 0
  | k + 1 => if f k = m then k + 1 else wt f m k
theorem wt_le (f : Nat → Nat) (m : Nat) : ∀ k, wt f m k ≤ k
  | 0 => Nat.le_refl 0
  | k + 1 => by have := wt_le f m k; rw [wt]; split <;> omega
theorem C_days {B M : Nat} {d : Dy} {kb km : Nat → Nat} {cbk cmk c t tbk tmk : Nat → Int32} {tb tm : Int32} (hW : WF B M d) (hC : RC d c) (hbk : SK B kb cbk) (hmk : SK M km cmk) {n : Nat} (hn : n ≤ 40) {post : Int32 → Int32 → (Nat → Int32) → (Nat → Int32) → (Nat → Int32) → Prop} (k : ∀ bk mk c', RC (itr (opDay kb km B M) n d) c' → post (nI B) (nI M) bk mk c') : wpX6_tryDays (nI B) (nI M) cbk cmk c tb tm tbk tmk t (nI n) post := by
  refine C_becomeAll (fun bk mk c0 e1 e2 e3 => ?_)
  have hB := hW.1
  have hM := hW.2.1
  have hbk' : SK B kb bk := fun b hb => by rw [e1 b (by omega)]; exact hbk b hb
  have hmk' : SK M km mk := fun b hb => by rw [e2 b (by omega)]; exact hmk b hb
  have hw : ∀ i, WF B M (itr (opDay kb km B M) i d) := by
    intro i
    induction i with
    | zero => exact hW
    | succ i ih => exact ih.kDay
  refine pk_loop (fun f i e => wpX6_tryDays_L13 (nI B) (nI M) cbk cmk c (nI n) (nI B) (nI M) bk mk post f e (nI i)) (fun i e => RC (itr (opDay kb km B M) i d) e) n 0 c0 (by omega) (hC.kept e3) ?_ ?_
  · intro f e he
    exact ⟨fun _ => k bk mk e he, fun q => absurd (Int32.le_refl _) q⟩
  · intro f i e hi he kk
    refine ⟨fun q => absurd q (nI_ge hi (by omega)), fun _ => C_passDay (hw i) he hbk' hmk' (fun c' hc => ?_)⟩
    rintro _ rfl
    rw [show nI i + (1 : Int32) = nI (i + 1) from nI_1 i]
    exact kk c' hc
theorem M_days {B M : Nat} {d : Dy} {kb km : Nat → Nat} {sort kind p t : Nat → Int32} (hW : WF B M d) (hR : RM d p) (hso : SK B kb sort) (hki : SK M km kind) {n : Nat} (hn : n ≤ 40) {post : (Nat → Int32) → Prop} (k : ∀ p', RM (itr (opDay kb km B M) n d) p' → post p') : wpX7_goDays (nI B) sort (nI M) kind p t (nI n) post := by
  refine M_begin (fun t' ht => ?_)
  have hw : ∀ i, WF B M (itr (opDay kb km B M) i d) := by
    intro i
    induction i with
    | zero => exact hW
    | succ i ih => exact ih.kDay
  refine pk_loop (fun f i e => wpX7_goDays_L6 (nI B) sort (nI M) kind p (nI n) post f e (nI i)) (fun i e => RM (itr (opDay kb km B M) i d) e) n 0 t' (by omega) (hR.kept (fun q => hW.2.2.1 q) ht) ?_ ?_
  · intro f e he
    exact ⟨fun _ => k e he, fun q => absurd (Int32.le_refl _) q⟩
  · intro f i e hi he kk
    refine ⟨fun q => absurd q (nI_ge hi (by omega)), fun _ => M_goDay (hw i) he hso hki (fun c' hc => ?_)⟩
    rintro _ rfl
    rw [show nI i + (1 : Int32) = nI (i + 1) from nI_1 i]
    exact kk c' hc
theorem rg_lt {lo hi : Nat} {x : Int32} (hl : lo < 2 ^ 31) (hh : hi < 2 ^ 31) {A B : Prop} (h1 : ∀ k, rg lo hi x = some k → B) (h0 : rg lo hi x = none → A) : (x < nI lo → A) ∧ (¬ x < nI lo → ((nI hi < x → A) ∧ (¬ nI hi < x → B))) := by
  cases q : rg lo hi x with
  | some k =>
    obtain ⟨k1, k2, rfl⟩ := rg_some q
    exact ⟨fun z => absurd z (nI_nlt k1 (by omega)), fun _ => ⟨fun z => absurd z (nI_nlt k2 hh), fun _ => h1 k q⟩⟩
  | none =>
    refine ⟨fun _ => h0 q, fun z => ⟨fun _ => h0 q, fun y => ?_⟩⟩
    rcases rg_none hh hl q with w | w
    · exact absurd w z
    · exact absurd w y
theorem rg_le {lo hi : Nat} {x : Int32} (hl : lo < 2 ^ 31) (hh : hi < 2 ^ 31) {A B : Prop} (h1 : ∀ k, rg lo hi x = some k → B) (h0 : rg lo hi x = none → A) : (x < nI lo → A) ∧ (¬ x < nI lo → ((x ≤ nI hi → B) ∧ (¬ x ≤ nI hi → A))) := by
  obtain ⟨a, b⟩ := rg_lt hl hh h1 h0
  refine ⟨a, fun z => ⟨fun y => (b z).2 (Int32.not_lt.mpr y), fun y => (b z).1 (Int32.not_le.mp y)⟩⟩
section OB
variable {c_text_letters : Nat → Int32} {c_text_length : Int32} {c_now_bags : Int32} {c_now_men : Int32} {c_now_bagKinds : Nat → Int32} {c_now_manKinds : Nat → Int32} {c_now_cells : Nat → Int32} {c_trial_bags : Int32} {c_trial_men : Int32} {c_trial_bagKinds : Nat → Int32} {c_trial_manKinds : Nat → Int32} {c_trial_cells : Nat → Int32} {c_past_rows : Nat → Int32} {c_past_next : Int32} {c_past_count : Int32} {c_slots_rows : Nat → Int32} {c_slots_keptBits : Int32} {c_felt_men : Nat → Int32} {c_felt_bags : Nat → Int32} {c_felt_lengths : Nat → Int32} {c_felt_played : Nat → Int32} {c_felt_count : Int32} {c_chance : Int64} {m_thrown : Int32} {m_text : Nat → Int32} {m_textSize : Int32} {m_place : Int32} {m_bags : Int32} {m_sort : Nat → Int32} {m_men : Int32} {m_kind : Nat → Int32} {m_readBags : Int32} {m_readSort : Nat → Int32} {m_readMen : Int32} {m_readMan : Nat → Int32} {m_readPage : Nat → Int32} {m_page : Nat → Int32} {m_trial : Nat → Int32} {m_book : Nat → Int32} {m_acts : Int32} {m_kept : Nat → Int32} {m_isKept : Nat → Int32} {m_felt : Int32} {m_feltMan : Nat → Int32} {m_feltBag : Nat → Int32} {m_feltMany : Nat → Int32} {m_feltIs : Nat → Int32} {m_seed : Int64} {m_routeFew : Int32} {m_routeWay : Int32} {m_whichMany : Int32} {m_whichFirst : Int32} {m_restMany : Int32} {m_restFirst : Int32} {m_gains : Nat → Int32} {m_value : Nat → Int32}
set_option maxRecDepth 20000 in
set_option maxHeartbeats 1000000 in
theorem O_put (hR : Rel c_text_letters c_text_length c_now_bags c_now_men c_now_bagKinds c_now_manKinds c_now_cells c_trial_bags c_trial_men c_trial_bagKinds c_trial_manKinds c_trial_cells c_past_rows c_past_next c_past_count c_slots_rows c_slots_keptBits c_felt_men c_felt_bags c_felt_lengths c_felt_played c_felt_count c_chance m_thrown m_text m_textSize m_place m_bags m_sort m_men m_kind m_readBags m_readSort m_readMen m_readMan m_readPage m_page m_trial m_book m_acts m_kept m_isKept m_felt m_feltMan m_feltBag m_feltMany m_feltIs m_seed m_routeFew m_routeWay m_whichMany m_whichFirst m_restMany m_restFirst m_gains m_value) (x1 : Int32) (x2 : Int32) : wpX6_put c_now_bags c_now_men c_now_bagKinds c_now_manKinds c_now_cells c_trial_bags c_trial_men c_trial_bagKinds c_trial_manKinds c_trial_cells c_past_rows c_past_next c_past_count x1 x2 (fun r c_now_cells' c_trial_bags' c_trial_men' c_trial_bagKinds' c_trial_manKinds' c_trial_cells' c_past_rows' c_past_next' c_past_count' => wpX7_put m_thrown m_bags m_men m_page m_book m_acts x1 x2 (fun r' m_thrown' m_page' m_book' m_acts' => r = r' ∧ Rel c_text_letters c_text_length c_now_bags c_now_men c_now_bagKinds c_now_manKinds c_now_cells' c_trial_bags' c_trial_men' c_trial_bagKinds' c_trial_manKinds' c_trial_cells' c_past_rows' c_past_next' c_past_count' c_slots_rows c_slots_keptBits c_felt_men c_felt_bags c_felt_lengths c_felt_played c_felt_count c_chance m_thrown' m_text m_textSize m_place m_bags m_sort m_men m_kind m_readBags m_readSort m_readMen m_readMan m_readPage m_page' m_trial m_book' m_acts' m_kept m_isKept m_felt m_feltMan m_feltBag m_feltMany m_feltIs m_seed m_routeFew m_routeWay m_whichMany m_whichFirst m_restMany m_restFirst m_gains m_value)) := by
  obtain ⟨B, M, kb, km, d, h, kp, fe, fn, tx, tn, ⟨hW, rfl, rfl, hbk, hmk, hC, rfl, rfl, hso, hki, hM⟩, ⟨hh, hcp, hmp⟩, hS, hF, hT, hE⟩ := id hR
  have hB3 := hW.1
  have hM5 := hW.2.1
  refine C_becomeAll (fun bk mk c e1 e2 e3 => ?_)
  refine C_giveBreath hW hC x1 x2 (fun c' hc' => ?_)
  refine C_remembered (a := aGive B M d x1 x2) (sig_give hW x1 x2) (hC.kept e3) hcp (fun r n ct hcp' => ?_)
  refine M_put hW hh hM hmp x1 x2 (fun p' b a hm' hmp' => ⟨rfl, ?_⟩)
  exact ⟨B, M, kb, km, (aGive B M d x1 x2).2.getD d, pushH (aGive B M d x1 x2) d h, kp, fe, fn, tx, tn, ⟨wf_give hW x1 x2, rfl, rfl, hbk, hmk, hc', rfl, rfl, hso, hki, hm'⟩, ⟨mem_push hW hh, hcp', hmp'⟩, hS, hF, hT, hE⟩

set_option maxRecDepth 20000 in
set_option maxHeartbeats 1000000 in
theorem O_march (hR : Rel c_text_letters c_text_length c_now_bags c_now_men c_now_bagKinds c_now_manKinds c_now_cells c_trial_bags c_trial_men c_trial_bagKinds c_trial_manKinds c_trial_cells c_past_rows c_past_next c_past_count c_slots_rows c_slots_keptBits c_felt_men c_felt_bags c_felt_lengths c_felt_played c_felt_count c_chance m_thrown m_text m_textSize m_place m_bags m_sort m_men m_kind m_readBags m_readSort m_readMen m_readMan m_readPage m_page m_trial m_book m_acts m_kept m_isKept m_felt m_feltMan m_feltBag m_feltMany m_feltIs m_seed m_routeFew m_routeWay m_whichMany m_whichFirst m_restMany m_restFirst m_gains m_value) (x1 : Int32) (x2 : Int32) : wpX6_march c_now_bags c_now_men c_now_bagKinds c_now_manKinds c_now_cells c_trial_bags c_trial_men c_trial_bagKinds c_trial_manKinds c_trial_cells c_past_rows c_past_next c_past_count x1 x2 (fun r c_now_cells' c_trial_bags' c_trial_men' c_trial_bagKinds' c_trial_manKinds' c_trial_cells' c_past_rows' c_past_next' c_past_count' => wpX7_march m_thrown m_bags m_sort m_page m_book m_acts x1 x2 (fun r' m_thrown' m_page' m_book' m_acts' => r = r' ∧ Rel c_text_letters c_text_length c_now_bags c_now_men c_now_bagKinds c_now_manKinds c_now_cells' c_trial_bags' c_trial_men' c_trial_bagKinds' c_trial_manKinds' c_trial_cells' c_past_rows' c_past_next' c_past_count' c_slots_rows c_slots_keptBits c_felt_men c_felt_bags c_felt_lengths c_felt_played c_felt_count c_chance m_thrown' m_text m_textSize m_place m_bags m_sort m_men m_kind m_readBags m_readSort m_readMen m_readMan m_readPage m_page' m_trial m_book' m_acts' m_kept m_isKept m_felt m_feltMan m_feltBag m_feltMany m_feltIs m_seed m_routeFew m_routeWay m_whichMany m_whichFirst m_restMany m_restFirst m_gains m_value)) := by
  obtain ⟨B, M, kb, km, d, h, kp, fe, fn, tx, tn, ⟨hW, rfl, rfl, hbk, hmk, hC, rfl, rfl, hso, hki, hM⟩, ⟨hh, hcp, hmp⟩, hS, hF, hT, hE⟩ := id hR
  have hB3 := hW.1
  have hM5 := hW.2.1
  refine C_becomeAll (fun bk mk c e1 e2 e3 => ?_)
  refine C_playBreaths hW hC hbk x1 x2 (fun c' hc' => ?_)
  refine C_remembered (a := aMarch kb B d x1 x2) (sig_march hW x1 x2) (hC.kept e3) hcp (fun r n ct hcp' => ?_)
  refine M_march hW hh hM hso hmp x1 x2 (fun p' b a hm' hmp' => ⟨rfl, ?_⟩)
  exact ⟨B, M, kb, km, (aMarch kb B d x1 x2).2.getD d, pushH (aMarch kb B d x1 x2) d h, kp, fe, fn, tx, tn, ⟨wf_march hW x1 x2, rfl, rfl, hbk, hmk, hc', rfl, rfl, hso, hki, hm'⟩, ⟨mem_push hW hh, hcp', hmp'⟩, hS, hF, hT, hE⟩

set_option maxRecDepth 20000 in
set_option maxHeartbeats 1000000 in
theorem O_claim (hR : Rel c_text_letters c_text_length c_now_bags c_now_men c_now_bagKinds c_now_manKinds c_now_cells c_trial_bags c_trial_men c_trial_bagKinds c_trial_manKinds c_trial_cells c_past_rows c_past_next c_past_count c_slots_rows c_slots_keptBits c_felt_men c_felt_bags c_felt_lengths c_felt_played c_felt_count c_chance m_thrown m_text m_textSize m_place m_bags m_sort m_men m_kind m_readBags m_readSort m_readMen m_readMan m_readPage m_page m_trial m_book m_acts m_kept m_isKept m_felt m_feltMan m_feltBag m_feltMany m_feltIs m_seed m_routeFew m_routeWay m_whichMany m_whichFirst m_restMany m_restFirst m_gains m_value) (x1 : Int32) (x2 : Int32) : wpX6_claim c_now_bags c_now_men c_now_bagKinds c_now_manKinds c_now_cells c_trial_bags c_trial_men c_trial_bagKinds c_trial_manKinds c_trial_cells c_past_rows c_past_next c_past_count x1 x2 (fun r c_now_cells' c_trial_bags' c_trial_men' c_trial_bagKinds' c_trial_manKinds' c_trial_cells' c_past_rows' c_past_next' c_past_count' => wpX7_claim m_thrown m_bags m_sort m_men m_page m_book m_acts x1 x2 (fun r' m_thrown' m_page' m_book' m_acts' => r = r' ∧ Rel c_text_letters c_text_length c_now_bags c_now_men c_now_bagKinds c_now_manKinds c_now_cells' c_trial_bags' c_trial_men' c_trial_bagKinds' c_trial_manKinds' c_trial_cells' c_past_rows' c_past_next' c_past_count' c_slots_rows c_slots_keptBits c_felt_men c_felt_bags c_felt_lengths c_felt_played c_felt_count c_chance m_thrown' m_text m_textSize m_place m_bags m_sort m_men m_kind m_readBags m_readSort m_readMen m_readMan m_readPage m_page' m_trial m_book' m_acts' m_kept m_isKept m_felt m_feltMan m_feltBag m_feltMany m_feltIs m_seed m_routeFew m_routeWay m_whichMany m_whichFirst m_restMany m_restFirst m_gains m_value)) := by
  obtain ⟨B, M, kb, km, d, h, kp, fe, fn, tx, tn, ⟨hW, rfl, rfl, hbk, hmk, hC, rfl, rfl, hso, hki, hM⟩, ⟨hh, hcp, hmp⟩, hS, hF, hT, hE⟩ := id hR
  have hB3 := hW.1
  have hM5 := hW.2.1
  refine C_becomeAll (fun bk mk c e1 e2 e3 => ?_)
  refine C_takeBack hW hC hbk x1 x2 (fun c' hc' => ?_)
  refine C_remembered (a := aClaim kb B M d x1 x2) (sig_claim hW x1 x2) (hC.kept e3) hcp (fun r n ct hcp' => ?_)
  refine M_claim hW hh hM hso hmp x1 x2 (fun p' b a hm' hmp' => ⟨rfl, ?_⟩)
  exact ⟨B, M, kb, km, (aClaim kb B M d x1 x2).2.getD d, pushH (aClaim kb B M d x1 x2) d h, kp, fe, fn, tx, tn, ⟨wf_claim hW x1 x2, rfl, rfl, hbk, hmk, hc', rfl, rfl, hso, hki, hm'⟩, ⟨mem_push hW hh, hcp', hmp'⟩, hS, hF, hT, hE⟩

set_option maxRecDepth 20000 in
set_option maxHeartbeats 1000000 in
theorem O_slit (hR : Rel c_text_letters c_text_length c_now_bags c_now_men c_now_bagKinds c_now_manKinds c_now_cells c_trial_bags c_trial_men c_trial_bagKinds c_trial_manKinds c_trial_cells c_past_rows c_past_next c_past_count c_slots_rows c_slots_keptBits c_felt_men c_felt_bags c_felt_lengths c_felt_played c_felt_count c_chance m_thrown m_text m_textSize m_place m_bags m_sort m_men m_kind m_readBags m_readSort m_readMen m_readMan m_readPage m_page m_trial m_book m_acts m_kept m_isKept m_felt m_feltMan m_feltBag m_feltMany m_feltIs m_seed m_routeFew m_routeWay m_whichMany m_whichFirst m_restMany m_restFirst m_gains m_value) (x1 : Int32) : wpX6_slit c_now_bags c_now_men c_now_bagKinds c_now_manKinds c_now_cells c_trial_bags c_trial_men c_trial_bagKinds c_trial_manKinds c_trial_cells c_past_rows c_past_next c_past_count x1 (fun r c_now_cells' c_trial_bags' c_trial_men' c_trial_bagKinds' c_trial_manKinds' c_trial_cells' c_past_rows' c_past_next' c_past_count' => wpX7_slit m_thrown m_bags m_sort m_page m_book m_acts x1 (fun r' m_thrown' m_page' m_book' m_acts' => r = r' ∧ Rel c_text_letters c_text_length c_now_bags c_now_men c_now_bagKinds c_now_manKinds c_now_cells' c_trial_bags' c_trial_men' c_trial_bagKinds' c_trial_manKinds' c_trial_cells' c_past_rows' c_past_next' c_past_count' c_slots_rows c_slots_keptBits c_felt_men c_felt_bags c_felt_lengths c_felt_played c_felt_count c_chance m_thrown' m_text m_textSize m_place m_bags m_sort m_men m_kind m_readBags m_readSort m_readMen m_readMan m_readPage m_page' m_trial m_book' m_acts' m_kept m_isKept m_felt m_feltMan m_feltBag m_feltMany m_feltIs m_seed m_routeFew m_routeWay m_whichMany m_whichFirst m_restMany m_restFirst m_gains m_value)) := by
  obtain ⟨B, M, kb, km, d, h, kp, fe, fn, tx, tn, ⟨hW, rfl, rfl, hbk, hmk, hC, rfl, rfl, hso, hki, hM⟩, ⟨hh, hcp, hmp⟩, hS, hF, hT, hE⟩ := id hR
  have hB3 := hW.1
  have hM5 := hW.2.1
  refine C_becomeAll (fun bk mk c e1 e2 e3 => ?_)
  refine C_cutOpen hW hC x1 (fun c' hc' => ?_)
  refine C_remembered (a := aSlit B d x1) (sig_slit hW x1) (hC.kept e3) hcp (fun r n ct hcp' => ?_)
  refine M_slit hW hh hM hso hmp x1 (fun p' b a hm' hmp' => ⟨rfl, ?_⟩)
  exact ⟨B, M, kb, km, (aSlit B d x1).2.getD d, pushH (aSlit B d x1) d h, kp, fe, fn, tx, tn, ⟨wf_slit hW x1, rfl, rfl, hbk, hmk, hc', rfl, rfl, hso, hki, hm'⟩, ⟨mem_push hW hh, hcp', hmp'⟩, hS, hF, hT, hE⟩

set_option maxRecDepth 20000 in
set_option maxHeartbeats 1000000 in
theorem O_fall (hR : Rel c_text_letters c_text_length c_now_bags c_now_men c_now_bagKinds c_now_manKinds c_now_cells c_trial_bags c_trial_men c_trial_bagKinds c_trial_manKinds c_trial_cells c_past_rows c_past_next c_past_count c_slots_rows c_slots_keptBits c_felt_men c_felt_bags c_felt_lengths c_felt_played c_felt_count c_chance m_thrown m_text m_textSize m_place m_bags m_sort m_men m_kind m_readBags m_readSort m_readMen m_readMan m_readPage m_page m_trial m_book m_acts m_kept m_isKept m_felt m_feltMan m_feltBag m_feltMany m_feltIs m_seed m_routeFew m_routeWay m_whichMany m_whichFirst m_restMany m_restFirst m_gains m_value) (x1 : Int32) : wpX6_fall c_now_bags c_now_men c_now_bagKinds c_now_manKinds c_now_cells c_trial_bags c_trial_men c_trial_bagKinds c_trial_manKinds c_trial_cells c_past_rows c_past_next c_past_count x1 (fun r c_now_cells' c_trial_bags' c_trial_men' c_trial_bagKinds' c_trial_manKinds' c_trial_cells' c_past_rows' c_past_next' c_past_count' => wpX7_fall m_thrown m_men m_page m_book m_acts x1 (fun r' m_thrown' m_page' m_book' m_acts' => r = r' ∧ Rel c_text_letters c_text_length c_now_bags c_now_men c_now_bagKinds c_now_manKinds c_now_cells' c_trial_bags' c_trial_men' c_trial_bagKinds' c_trial_manKinds' c_trial_cells' c_past_rows' c_past_next' c_past_count' c_slots_rows c_slots_keptBits c_felt_men c_felt_bags c_felt_lengths c_felt_played c_felt_count c_chance m_thrown' m_text m_textSize m_place m_bags m_sort m_men m_kind m_readBags m_readSort m_readMen m_readMan m_readPage m_page' m_trial m_book' m_acts' m_kept m_isKept m_felt m_feltMan m_feltBag m_feltMany m_feltIs m_seed m_routeFew m_routeWay m_whichMany m_whichFirst m_restMany m_restFirst m_gains m_value)) := by
  obtain ⟨B, M, kb, km, d, h, kp, fe, fn, tx, tn, ⟨hW, rfl, rfl, hbk, hmk, hC, rfl, rfl, hso, hki, hM⟩, ⟨hh, hcp, hmp⟩, hS, hF, hT, hE⟩ := id hR
  have hB3 := hW.1
  have hM5 := hW.2.1
  refine C_becomeAll (fun bk mk c e1 e2 e3 => ?_)
  refine C_loseMan hW hC x1 (fun c' hc' => ?_)
  refine C_remembered (a := aFall B M d x1) (sig_fall hW x1) (hC.kept e3) hcp (fun r n ct hcp' => ?_)
  refine M_fall hW hh hM hmp x1 (fun p' b a hm' hmp' => ⟨rfl, ?_⟩)
  exact ⟨B, M, kb, km, (aFall B M d x1).2.getD d, pushH (aFall B M d x1) d h, kp, fe, fn, tx, tn, ⟨wf_fall hW x1, rfl, rfl, hbk, hmk, hc', rfl, rfl, hso, hki, hm'⟩, ⟨mem_push hW hh, hcp', hmp'⟩, hS, hF, hT, hE⟩

set_option maxRecDepth 20000 in
set_option maxHeartbeats 1000000 in
theorem O_day (hR : Rel c_text_letters c_text_length c_now_bags c_now_men c_now_bagKinds c_now_manKinds c_now_cells c_trial_bags c_trial_men c_trial_bagKinds c_trial_manKinds c_trial_cells c_past_rows c_past_next c_past_count c_slots_rows c_slots_keptBits c_felt_men c_felt_bags c_felt_lengths c_felt_played c_felt_count c_chance m_thrown m_text m_textSize m_place m_bags m_sort m_men m_kind m_readBags m_readSort m_readMen m_readMan m_readPage m_page m_trial m_book m_acts m_kept m_isKept m_felt m_feltMan m_feltBag m_feltMany m_feltIs m_seed m_routeFew m_routeWay m_whichMany m_whichFirst m_restMany m_restFirst m_gains m_value) : wpX6_day c_now_bags c_now_men c_now_bagKinds c_now_manKinds c_now_cells c_trial_bags c_trial_men c_trial_bagKinds c_trial_manKinds c_trial_cells c_past_rows c_past_next c_past_count (fun r c_now_cells' c_trial_bags' c_trial_men' c_trial_bagKinds' c_trial_manKinds' c_trial_cells' c_past_rows' c_past_next' c_past_count' => wpX7_day m_thrown m_bags m_sort m_men m_kind m_page m_book m_acts (fun r' m_thrown' m_page' m_book' m_acts' => r = r' ∧ Rel c_text_letters c_text_length c_now_bags c_now_men c_now_bagKinds c_now_manKinds c_now_cells' c_trial_bags' c_trial_men' c_trial_bagKinds' c_trial_manKinds' c_trial_cells' c_past_rows' c_past_next' c_past_count' c_slots_rows c_slots_keptBits c_felt_men c_felt_bags c_felt_lengths c_felt_played c_felt_count c_chance m_thrown' m_text m_textSize m_place m_bags m_sort m_men m_kind m_readBags m_readSort m_readMen m_readMan m_readPage m_page' m_trial m_book' m_acts' m_kept m_isKept m_felt m_feltMan m_feltBag m_feltMany m_feltIs m_seed m_routeFew m_routeWay m_whichMany m_whichFirst m_restMany m_restFirst m_gains m_value)) := by
  obtain ⟨B, M, kb, km, d, h, kp, fe, fn, tx, tn, ⟨hW, rfl, rfl, hbk, hmk, hC, rfl, rfl, hso, hki, hM⟩, ⟨hh, hcp, hmp⟩, hS, hF, hT, hE⟩ := id hR
  have hB3 := hW.1
  have hM5 := hW.2.1
  refine C_becomeAll (fun bk mk c e1 e2 e3 => ?_)
  refine C_passDay hW hC hbk hmk (fun c' hc' => ?_)
  refine C_remembered (a := aDay kb km B M d) (sig_day hW) (hC.kept e3) hcp (fun r n ct hcp' => ?_)
  refine M_day hW hh hM hso hki hmp (fun p' b a hm' hmp' => ⟨rfl, ?_⟩)
  exact ⟨B, M, kb, km, (aDay kb km B M d).2.getD d, pushH (aDay kb km B M d) d h, kp, fe, fn, tx, tn, ⟨wf_day hW, rfl, rfl, hbk, hmk, hc', rfl, rfl, hso, hki, hm'⟩, ⟨mem_push hW hh, hcp', hmp'⟩, hS, hF, hT, hE⟩

set_option maxRecDepth 20000 in
set_option maxHeartbeats 1000000 in
theorem O_undo (hR : Rel c_text_letters c_text_length c_now_bags c_now_men c_now_bagKinds c_now_manKinds c_now_cells c_trial_bags c_trial_men c_trial_bagKinds c_trial_manKinds c_trial_cells c_past_rows c_past_next c_past_count c_slots_rows c_slots_keptBits c_felt_men c_felt_bags c_felt_lengths c_felt_played c_felt_count c_chance m_thrown m_text m_textSize m_place m_bags m_sort m_men m_kind m_readBags m_readSort m_readMen m_readMan m_readPage m_page m_trial m_book m_acts m_kept m_isKept m_felt m_feltMan m_feltBag m_feltMany m_feltIs m_seed m_routeFew m_routeWay m_whichMany m_whichFirst m_restMany m_restFirst m_gains m_value) : wpX6_undo c_now_cells c_past_rows c_past_next c_past_count (fun r c_now_cells' c_past_next' c_past_count' => wpX7_undo m_thrown m_page m_book m_acts (fun r' m_thrown' m_page' m_acts' => r = r' ∧ Rel c_text_letters c_text_length c_now_bags c_now_men c_now_bagKinds c_now_manKinds c_now_cells' c_trial_bags c_trial_men c_trial_bagKinds c_trial_manKinds c_trial_cells c_past_rows c_past_next' c_past_count' c_slots_rows c_slots_keptBits c_felt_men c_felt_bags c_felt_lengths c_felt_played c_felt_count c_chance m_thrown' m_text m_textSize m_place m_bags m_sort m_men m_kind m_readBags m_readSort m_readMen m_readMan m_readPage m_page' m_trial m_book m_acts' m_kept m_isKept m_felt m_feltMan m_feltBag m_feltMany m_feltIs m_seed m_routeFew m_routeWay m_whichMany m_whichFirst m_restMany m_restFirst m_gains m_value)) := by
  obtain ⟨B, M, kb, km, d, h, kp, fe, fn, tx, tn, ⟨hW, rfl, rfl, hbk, hmk, hC, rfl, rfl, hso, hki, hM⟩, ⟨hh, hcp, hmp⟩, hS, hF, hT, hE⟩ := id hR
  have hB3 := hW.1
  have hM5 := hW.2.1
  refine C_undo hcp (fun e0 => ?_) (fun d1 t e1 c n ct hc1 hcp1 => ?_)
  · refine M_undo hh hmp (fun _ => ⟨rfl, ⟨B, M, kb, km, d, h, kp, fe, fn, tx, tn, ⟨hW, rfl, rfl, hbk, hmk, hC, rfl, rfl, hso, hki, hM⟩, ⟨hh, hcp, hmp⟩, hS, hF, hT, hE⟩⟩) (fun d2 t2 e2 => ?_)
    rw [e0] at e2; cases e2
  · refine M_undo hh hmp (fun e0 => ?_) (fun d2 t2 e2 p' a hm2 hmp2 => ?_)
    · rw [e1] at e0; cases e0
    · rw [e1] at e2
      cases e2
      have hw1 : WF B M d1 := hh d1 (by rw [e1]; exact List.mem_cons_self)
      exact ⟨rfl, B, M, kb, km, d1, t, kp, fe, fn, tx, tn, ⟨hw1, rfl, rfl, hbk, hmk, hc1, rfl, rfl, hso, hki, hm2⟩, ⟨fun e he => hh e (by rw [e1]; exact List.mem_cons_of_mem _ he), hcp1, hmp2⟩, hS, hF, hT, hE⟩

set_option maxRecDepth 20000 in
set_option maxHeartbeats 1000000 in
theorem O_seed (hR : Rel c_text_letters c_text_length c_now_bags c_now_men c_now_bagKinds c_now_manKinds c_now_cells c_trial_bags c_trial_men c_trial_bagKinds c_trial_manKinds c_trial_cells c_past_rows c_past_next c_past_count c_slots_rows c_slots_keptBits c_felt_men c_felt_bags c_felt_lengths c_felt_played c_felt_count c_chance m_thrown m_text m_textSize m_place m_bags m_sort m_men m_kind m_readBags m_readSort m_readMen m_readMan m_readPage m_page m_trial m_book m_acts m_kept m_isKept m_felt m_feltMan m_feltBag m_feltMany m_feltIs m_seed m_routeFew m_routeWay m_whichMany m_whichFirst m_restMany m_restFirst m_gains m_value) (x1 : Int64) : wpX6_seed c_chance x1 (fun r c_chance' => wpX7_seed m_thrown m_seed x1 (fun r' m_thrown' m_seed' => r = r' ∧ Rel c_text_letters c_text_length c_now_bags c_now_men c_now_bagKinds c_now_manKinds c_now_cells c_trial_bags c_trial_men c_trial_bagKinds c_trial_manKinds c_trial_cells c_past_rows c_past_next c_past_count c_slots_rows c_slots_keptBits c_felt_men c_felt_bags c_felt_lengths c_felt_played c_felt_count c_chance' m_thrown' m_text m_textSize m_place m_bags m_sort m_men m_kind m_readBags m_readSort m_readMen m_readMan m_readPage m_page m_trial m_book m_acts m_kept m_isKept m_felt m_feltMan m_feltBag m_feltMany m_feltIs m_seed' m_routeFew m_routeWay m_whichMany m_whichFirst m_restMany m_restFirst m_gains m_value)) := by
  obtain ⟨B, M, kb, km, d, h, kp, fe, fn, tx, tn, ⟨hW, rfl, rfl, hbk, hmk, hC, rfl, rfl, hso, hki, hM⟩, ⟨hh, hcp, hmp⟩, hS, hF, hT, hE⟩ := id hR
  have hB3 := hW.1
  have hM5 := hW.2.1
  exact ⟨hE, B, M, kb, km, d, h, kp, fe, fn, tx, tn, ⟨hW, rfl, rfl, hbk, hmk, hC, rfl, rfl, hso, hki, hM⟩, ⟨hh, hcp, hmp⟩, hS, hF, hT, rfl⟩

set_option maxRecDepth 20000 in
set_option maxHeartbeats 1000000 in
theorem O_about (hR : Rel c_text_letters c_text_length c_now_bags c_now_men c_now_bagKinds c_now_manKinds c_now_cells c_trial_bags c_trial_men c_trial_bagKinds c_trial_manKinds c_trial_cells c_past_rows c_past_next c_past_count c_slots_rows c_slots_keptBits c_felt_men c_felt_bags c_felt_lengths c_felt_played c_felt_count c_chance m_thrown m_text m_textSize m_place m_bags m_sort m_men m_kind m_readBags m_readSort m_readMen m_readMan m_readPage m_page m_trial m_book m_acts m_kept m_isKept m_felt m_feltMan m_feltBag m_feltMany m_feltIs m_seed m_routeFew m_routeWay m_whichMany m_whichFirst m_restMany m_restFirst m_gains m_value) (x1 : Int32) : wpX6_about c_text_length c_now_bags c_now_men c_now_cells c_past_count c_felt_count x1 (fun r => wpX7_about m_thrown m_textSize m_bags m_men m_page m_acts m_felt x1 (fun r' m_thrown' => r = r' ∧ Rel c_text_letters c_text_length c_now_bags c_now_men c_now_bagKinds c_now_manKinds c_now_cells c_trial_bags c_trial_men c_trial_bagKinds c_trial_manKinds c_trial_cells c_past_rows c_past_next c_past_count c_slots_rows c_slots_keptBits c_felt_men c_felt_bags c_felt_lengths c_felt_played c_felt_count c_chance m_thrown' m_text m_textSize m_place m_bags m_sort m_men m_kind m_readBags m_readSort m_readMen m_readMan m_readPage m_page m_trial m_book m_acts m_kept m_isKept m_felt m_feltMan m_feltBag m_feltMany m_feltIs m_seed m_routeFew m_routeWay m_whichMany m_whichFirst m_restMany m_restFirst m_gains m_value)) := by
  obtain ⟨B, M, kb, km, d, h, kp, fe, fn, tx, tn, ⟨hW, rfl, rfl, hbk, hmk, hC, rfl, rfl, hso, hki, hM⟩, ⟨hh, hcp, hmp⟩, hS, hF, hT, hE⟩ := id hR
  have hB3 := hW.1
  have hM5 := hW.2.1
  have hR2 : Rel c_text_letters c_text_length (nI B) (nI M) c_now_bagKinds c_now_manKinds c_now_cells c_trial_bags c_trial_men c_trial_bagKinds c_trial_manKinds c_trial_cells c_past_rows c_past_next c_past_count c_slots_rows c_slots_keptBits c_felt_men c_felt_bags c_felt_lengths c_felt_played c_felt_count c_chance 0 m_text m_textSize m_place (nI B) m_sort (nI M) m_kind m_readBags m_readSort m_readMen m_readMan m_readPage m_page m_trial m_book m_acts m_kept m_isKept m_felt m_feltMan m_feltBag m_feltMany m_feltIs m_seed m_routeFew m_routeWay m_whichMany m_whichFirst m_restMany m_restFirst m_gains m_value := ⟨B, M, kb, km, d, h, kp, fe, fn, tx, tn, ⟨hW, rfl, rfl, hbk, hmk, hC, rfl, rfl, hso, hki, hM⟩, ⟨hh, hcp, hmp⟩, hS, hF, hT, hE⟩
  refine ⟨fun q0 => ?_, fun n0 => ⟨fun q1 => ?_, fun n1 => ⟨fun q2 => ?_, fun n2 => ⟨fun q3 => ?_, fun n3 => ⟨fun q4 => ?_, fun n4 => ⟨fun q5 => ?_, fun n5 => ⟨fun q6 => ?_, fun n6 => ⟨fun q7 => ?_, fun n7 => ⟨fun q8 => ?_, fun n8 => ⟨fun q9 => ?_, fun n9 => ⟨fun q10 => ?_, fun n10 => ⟨fun q11 => ?_, fun n11 => ?_⟩⟩⟩⟩⟩⟩⟩⟩⟩⟩⟩⟩
  · subst q0
    refine ⟨fun _ => ?_, fun z => absurd rfl z⟩
    exact ⟨rfl, hR2⟩
  · subst q1
    refine ⟨fun z => absurd z (by decide), fun _ => ?_⟩
    refine ⟨fun _ => ?_, fun z => absurd rfl z⟩
    exact ⟨rfl, hR2⟩
  · subst q2
    refine C_today hC ?_
    refine ⟨fun z => absurd z (by decide), fun _ => ?_⟩
    refine ⟨fun z => absurd z (by decide), fun _ => ?_⟩
    refine ⟨fun _ => ?_, fun z => absurd rfl z⟩
    show _ = _ ∧ _
    rw [hM.1]; exact ⟨rfl, hR2⟩
  · subst q3
    refine C_breathsInAll hW hC ?_
    refine ⟨fun z => absurd z (by decide), fun _ => ?_⟩
    refine ⟨fun z => absurd z (by decide), fun _ => ?_⟩
    refine ⟨fun z => absurd z (by decide), fun _ => ?_⟩
    refine ⟨fun _ => ?_, fun z => absurd rfl z⟩
    refine M_inAll hW hM ?_
    exact ⟨rfl, hR2⟩
  · subst q4
    refine C_sumOfMen 12 rfl hM5 (by omega) ?_
    refine ⟨fun z => absurd z (by decide), fun _ => ?_⟩
    refine ⟨fun z => absurd z (by decide), fun _ => ?_⟩
    refine ⟨fun z => absurd z (by decide), fun _ => ?_⟩
    refine ⟨fun z => absurd z (by decide), fun _ => ?_⟩
    refine ⟨fun _ => ?_, fun z => absurd rfl z⟩
    refine M_sum 40 rfl hM5 (by omega) ?_
    exact ⟨l_cong (fun m hm => by rw [hC.2.2.2.2.1 m (by omega), hM.2.2.2.2.1 m (by omega)]), hR2⟩
  · subst q5
    refine C_fallenBits hC ?_
    refine ⟨fun z => absurd z (by decide), fun _ => ?_⟩
    refine ⟨fun z => absurd z (by decide), fun _ => ?_⟩
    refine ⟨fun z => absurd z (by decide), fun _ => ?_⟩
    refine ⟨fun z => absurd z (by decide), fun _ => ?_⟩
    refine ⟨fun z => absurd z (by decide), fun _ => ?_⟩
    refine ⟨fun _ => ?_, fun z => absurd rfl z⟩
    show _ = _ ∧ _
    rw [hM.2.1]; exact ⟨rfl, hR2⟩
  · subst q6
    refine C_left hW hC ?_
    refine ⟨fun z => absurd z (by decide), fun _ => ?_⟩
    refine ⟨fun z => absurd z (by decide), fun _ => ?_⟩
    refine ⟨fun z => absurd z (by decide), fun _ => ?_⟩
    refine ⟨fun z => absurd z (by decide), fun _ => ?_⟩
    refine ⟨fun z => absurd z (by decide), fun _ => ?_⟩
    refine ⟨fun z => absurd z (by decide), fun _ => ?_⟩
    refine ⟨fun _ => ?_, fun z => absurd rfl z⟩
    refine M_left hW hM ?_
    exact ⟨rfl, hR2⟩
  · subst q7
    refine C_sumOfMen 2 rfl hM5 (by omega) ?_
    refine ⟨fun z => absurd z (by decide), fun _ => ?_⟩
    refine ⟨fun z => absurd z (by decide), fun _ => ?_⟩
    refine ⟨fun z => absurd z (by decide), fun _ => ?_⟩
    refine ⟨fun z => absurd z (by decide), fun _ => ?_⟩
    refine ⟨fun z => absurd z (by decide), fun _ => ?_⟩
    refine ⟨fun z => absurd z (by decide), fun _ => ?_⟩
    refine ⟨fun z => absurd z (by decide), fun _ => ?_⟩
    refine ⟨fun _ => ?_, fun z => absurd rfl z⟩
    refine M_sum 30 rfl hM5 (by omega) ?_
    exact ⟨l_cong (fun m hm => by rw [hC.2.2.1 m (by omega), hM.2.2.1 m (by omega)]), hR2⟩
  · subst q8
    refine C_sumOfMen 7 rfl hM5 (by omega) ?_
    refine ⟨fun z => absurd z (by decide), fun _ => ?_⟩
    refine ⟨fun z => absurd z (by decide), fun _ => ?_⟩
    refine ⟨fun z => absurd z (by decide), fun _ => ?_⟩
    refine ⟨fun z => absurd z (by decide), fun _ => ?_⟩
    refine ⟨fun z => absurd z (by decide), fun _ => ?_⟩
    refine ⟨fun z => absurd z (by decide), fun _ => ?_⟩
    refine ⟨fun z => absurd z (by decide), fun _ => ?_⟩
    refine ⟨fun z => absurd z (by decide), fun _ => ?_⟩
    refine ⟨fun _ => ?_, fun z => absurd rfl z⟩
    refine M_sum 35 rfl hM5 (by omega) ?_
    exact ⟨l_cong (fun m hm => by rw [hC.2.2.2.1 m (by omega), hM.2.2.2.1 m (by omega)]), hR2⟩
  · subst q9
    refine ⟨fun z => absurd z (by decide), fun _ => ?_⟩
    refine ⟨fun z => absurd z (by decide), fun _ => ?_⟩
    refine ⟨fun z => absurd z (by decide), fun _ => ?_⟩
    refine ⟨fun z => absurd z (by decide), fun _ => ?_⟩
    refine ⟨fun z => absurd z (by decide), fun _ => ?_⟩
    refine ⟨fun z => absurd z (by decide), fun _ => ?_⟩
    refine ⟨fun z => absurd z (by decide), fun _ => ?_⟩
    refine ⟨fun z => absurd z (by decide), fun _ => ?_⟩
    refine ⟨fun z => absurd z (by decide), fun _ => ?_⟩
    refine ⟨fun _ => ?_, fun z => absurd rfl z⟩
    obtain ⟨nx, _, _, ec, _⟩ := hcp
    exact ⟨ec.trans hmp.1.symm, hR2⟩
  · subst q10
    refine ⟨fun z => absurd z (by decide), fun _ => ?_⟩
    refine ⟨fun z => absurd z (by decide), fun _ => ?_⟩
    refine ⟨fun z => absurd z (by decide), fun _ => ?_⟩
    refine ⟨fun z => absurd z (by decide), fun _ => ?_⟩
    refine ⟨fun z => absurd z (by decide), fun _ => ?_⟩
    refine ⟨fun z => absurd z (by decide), fun _ => ?_⟩
    refine ⟨fun z => absurd z (by decide), fun _ => ?_⟩
    refine ⟨fun z => absurd z (by decide), fun _ => ?_⟩
    refine ⟨fun z => absurd z (by decide), fun _ => ?_⟩
    refine ⟨fun z => absurd z (by decide), fun _ => ?_⟩
    refine ⟨fun _ => ?_, fun z => absurd rfl z⟩
    exact ⟨hF.2.1.trans hF.2.2.1.symm, hR2⟩
  · subst q11
    refine ⟨fun z => absurd z (by decide), fun _ => ?_⟩
    refine ⟨fun z => absurd z (by decide), fun _ => ?_⟩
    refine ⟨fun z => absurd z (by decide), fun _ => ?_⟩
    refine ⟨fun z => absurd z (by decide), fun _ => ?_⟩
    refine ⟨fun z => absurd z (by decide), fun _ => ?_⟩
    refine ⟨fun z => absurd z (by decide), fun _ => ?_⟩
    refine ⟨fun z => absurd z (by decide), fun _ => ?_⟩
    refine ⟨fun z => absurd z (by decide), fun _ => ?_⟩
    refine ⟨fun z => absurd z (by decide), fun _ => ?_⟩
    refine ⟨fun z => absurd z (by decide), fun _ => ?_⟩
    refine ⟨fun z => absurd z (by decide), fun _ => ?_⟩
    refine ⟨fun _ => ?_, fun z => absurd rfl z⟩
    exact ⟨hT.2.1.trans hT.2.2.1.symm, hR2⟩
  · exact ⟨fun z => absurd z n0, fun _ => ⟨fun z => absurd z n1, fun _ => ⟨fun z => absurd z n2, fun _ => ⟨fun z => absurd z n3, fun _ => ⟨fun z => absurd z n4, fun _ => ⟨fun z => absurd z n5, fun _ => ⟨fun z => absurd z n6, fun _ => ⟨fun z => absurd z n7, fun _ => ⟨fun z => absurd z n8, fun _ => ⟨fun z => absurd z n9, fun _ => ⟨fun z => absurd z n10, fun _ => ⟨fun z => absurd z n11, fun _ => ⟨rfl, hR2⟩⟩⟩⟩⟩⟩⟩⟩⟩⟩⟩⟩⟩

set_option maxRecDepth 20000 in
set_option maxHeartbeats 1000000 in
theorem O_bag (hR : Rel c_text_letters c_text_length c_now_bags c_now_men c_now_bagKinds c_now_manKinds c_now_cells c_trial_bags c_trial_men c_trial_bagKinds c_trial_manKinds c_trial_cells c_past_rows c_past_next c_past_count c_slots_rows c_slots_keptBits c_felt_men c_felt_bags c_felt_lengths c_felt_played c_felt_count c_chance m_thrown m_text m_textSize m_place m_bags m_sort m_men m_kind m_readBags m_readSort m_readMen m_readMan m_readPage m_page m_trial m_book m_acts m_kept m_isKept m_felt m_feltMan m_feltBag m_feltMany m_feltIs m_seed m_routeFew m_routeWay m_whichMany m_whichFirst m_restMany m_restFirst m_gains m_value) (x1 : Int32) (x2 : Int32) : wpX6_bag c_now_bags c_now_bagKinds c_now_cells x1 x2 (fun r => wpX7_bag m_thrown m_bags m_sort m_page x1 x2 (fun r' m_thrown' => r = r' ∧ Rel c_text_letters c_text_length c_now_bags c_now_men c_now_bagKinds c_now_manKinds c_now_cells c_trial_bags c_trial_men c_trial_bagKinds c_trial_manKinds c_trial_cells c_past_rows c_past_next c_past_count c_slots_rows c_slots_keptBits c_felt_men c_felt_bags c_felt_lengths c_felt_played c_felt_count c_chance m_thrown' m_text m_textSize m_place m_bags m_sort m_men m_kind m_readBags m_readSort m_readMen m_readMan m_readPage m_page m_trial m_book m_acts m_kept m_isKept m_felt m_feltMan m_feltBag m_feltMany m_feltIs m_seed m_routeFew m_routeWay m_whichMany m_whichFirst m_restMany m_restFirst m_gains m_value)) := by
  obtain ⟨B, M, kb, km, d, h, kp, fe, fn, tx, tn, ⟨hW, rfl, rfl, hbk, hmk, hC, rfl, rfl, hso, hki, hM⟩, ⟨hh, hcp, hmp⟩, hS, hF, hT, hE⟩ := id hR
  have hB3 := hW.1
  have hM5 := hW.2.1
  have hR2 : Rel c_text_letters c_text_length (nI B) (nI M) c_now_bagKinds c_now_manKinds c_now_cells c_trial_bags c_trial_men c_trial_bagKinds c_trial_manKinds c_trial_cells c_past_rows c_past_next c_past_count c_slots_rows c_slots_keptBits c_felt_men c_felt_bags c_felt_lengths c_felt_played c_felt_count c_chance 0 m_text m_textSize m_place (nI B) m_sort (nI M) m_kind m_readBags m_readSort m_readMen m_readMan m_readPage m_page m_trial m_book m_acts m_kept m_isKept m_felt m_feltMan m_feltBag m_feltMany m_feltIs m_seed m_routeFew m_routeWay m_whichMany m_whichFirst m_restMany m_restFirst m_gains m_value := ⟨B, M, kb, km, d, h, kp, fe, fn, tx, tn, ⟨hW, rfl, rfl, hbk, hmk, hC, rfl, rfl, hso, hki, hM⟩, ⟨hh, hcp, hmp⟩, hS, hF, hT, hE⟩
  have h9 : ∀ b, (dpl d b).length ≤ 9 := hW.2.2.1
  cases hb : ix B x1 with
  | none => exact C_isBag_f (by omega) (ix_none (by omega) hb) ⟨fun q => absurd rfl q, fun _ => M_no_f (by omega) (ix_none (by omega) hb) ⟨fun q => absurd q (by decide), fun _ => ⟨rfl, hR2⟩⟩⟩
  | some b =>
    obtain ⟨b1, rfl⟩ := ix_some hb
    have h9b := h9 b
    have hkk := (hbk b b1).2
    refine C_isBag_t b1 (by omega) ⟨fun _ => C_breathsIn hW hC (by omega) ?_, fun q => absurd q (by decide)⟩
    refine ⟨fun q0 => ?_, fun n0 => ⟨fun q1 => ?_, fun n1 => ⟨fun q2 => ?_, fun n2 => ⟨fun q3 => ?_, fun n3 => ⟨fun q4 => ?_, fun n4 => ?_⟩⟩⟩⟩⟩
    · subst q0
      refine C_kindOfBag hB3 hbk b1 ?_
      refine M_no_t b1 (by omega) ⟨fun _ => ?_, fun q => absurd rfl q⟩
      refine ⟨fun _ => ?_, fun z => absurd rfl z⟩
      refine ⟨vin (by omega) (by omega), ?_⟩
      rw [nI_clamp (by omega), (hso b b1).1]; exact ⟨rfl, hR2⟩
    · subst q1
      refine M_no_t b1 (by omega) ⟨fun _ => ?_, fun q => absurd rfl q⟩
      refine ⟨fun z => absurd z (by decide), fun _ => ?_⟩
      refine ⟨fun _ => ?_, fun z => absurd rfl z⟩
      refine ⟨vin (by omega) (by omega), ?_⟩
      rw [nI_clamp (by omega), hM.2.2.2.2.2.1 b (by omega)]; exact ⟨rfl, hR2⟩
    · subst q2
      by_cases z0 : (dpl d b).length = 0
      · rw [z0]
        refine ⟨fun q => absurd rfl q, fun _ => ?_⟩
        refine M_no_t b1 (by omega) ⟨fun _ => ?_, fun q => absurd rfl q⟩
        refine ⟨fun z => absurd z (by decide), fun _ => ?_⟩
        refine ⟨fun z => absurd z (by decide), fun _ => ?_⟩
        refine ⟨fun _ => ?_, fun z => absurd rfl z⟩
        rw [nI_clamp (by omega), hM.2.2.2.2.2.1 b (by omega), z0]
        exact ⟨vin (by omega) (by omega), fun q => absurd rfl q, fun _ => ⟨rfl, hR2⟩⟩
      · refine ⟨fun _ => ?_, fun q => absurd ((nI_eq (b := 0) (by omega) (by omega)).mp q) z0⟩
        refine C_owner (i := 0) hW hC (by omega) ?_
        refine M_no_t b1 (by omega) ⟨fun _ => ?_, fun q => absurd rfl q⟩
        refine ⟨fun z => absurd z (by decide), fun _ => ?_⟩
        refine ⟨fun z => absurd z (by decide), fun _ => ?_⟩
        refine ⟨fun _ => ?_, fun z => absurd rfl z⟩
        rw [nI_clamp (by omega), hM.2.2.2.2.2.1 b (by omega)]
        exact ⟨vin (by omega) (by omega), fun _ => M_breath (i := 0) hW hM (by omega) ⟨rfl, hR2⟩, fun q => absurd ((nI_eq (b := 0) (by omega) (by omega)).mp q) z0⟩
    · subst q3
      by_cases z0 : (dpl d b).length = 0
      · rw [z0]
        refine ⟨fun q => absurd rfl q, fun _ => ?_⟩
        refine M_no_t b1 (by omega) ⟨fun _ => ?_, fun q => absurd rfl q⟩
        refine ⟨fun z => absurd z (by decide), fun _ => ?_⟩
        refine ⟨fun z => absurd z (by decide), fun _ => ?_⟩
        refine ⟨fun z => absurd z (by decide), fun _ => ?_⟩
        refine ⟨fun _ => ?_, fun z => absurd rfl z⟩
        rw [nI_clamp (by omega), hM.2.2.2.2.2.1 b (by omega), z0]
        exact ⟨vin (by omega) (by omega), fun q => absurd rfl q, fun _ => ⟨rfl, hR2⟩⟩
      · refine ⟨fun _ => ?_, fun q => absurd ((nI_eq (b := 0) (by omega) (by omega)).mp q) z0⟩
        rw [nI_s1 (by omega)]
        refine C_owner hW hC (by omega) ?_
        refine M_no_t b1 (by omega) ⟨fun _ => ?_, fun q => absurd rfl q⟩
        refine ⟨fun z => absurd z (by decide), fun _ => ?_⟩
        refine ⟨fun z => absurd z (by decide), fun _ => ?_⟩
        refine ⟨fun z => absurd z (by decide), fun _ => ?_⟩
        refine ⟨fun _ => ?_, fun z => absurd rfl z⟩
        rw [nI_clamp (by omega), hM.2.2.2.2.2.1 b (by omega)]
        refine ⟨vin (by omega) (by omega), fun _ => ⟨vin (by omega) (by omega), ?_⟩, fun q => absurd ((nI_eq (b := 0) (by omega) (by omega)).mp q) z0⟩
        rw [nI_s1 (by omega)]
        exact M_breath hW hM (by omega) ⟨rfl, hR2⟩
    · subst q4
      refine C_kindOfBag hB3 hbk b1 (C_playedBitsAs (gone := 0) hW hC (by omega) (by omega) (by omega) (by omega) ?_)
      refine M_no_t b1 (by omega) ⟨fun _ => ?_, fun q => absurd rfl q⟩
      refine ⟨fun z => absurd z (by decide), fun _ => ?_⟩
      refine ⟨fun z => absurd z (by decide), fun _ => ?_⟩
      refine ⟨fun z => absurd z (by decide), fun _ => ?_⟩
      refine ⟨fun z => absurd z (by decide), fun _ => ?_⟩
      refine ⟨fun _ => ?_, fun z => absurd rfl z⟩
      refine M_menIn hW hM (by omega) ⟨?_, hR2⟩
      congr 1
      rw [Nat.sub_zero, Nat.min_self]
      by_cases e1 : kb b = 1
      · exact orr_cong (fun k hk => by rw [if_pos e1, Nat.zero_add])
      · refine orr_same (fun k hk => ⟨(dpl d b).length - 1 - k, by omega, by rw [if_neg e1]⟩) (fun k hk => ⟨(dpl d b).length - 1 - k, by omega, ?_⟩)
        show List.getD _ (if kb b = 1 then _ else _) 0 = _
        rw [if_neg e1]; congr 1; omega
    · exact M_no_t b1 (by omega) ⟨fun _ => ⟨fun z => absurd z n0, fun _ => ⟨fun z => absurd z n1, fun _ => ⟨fun z => absurd z n2, fun _ => ⟨fun z => absurd z n3, fun _ => ⟨fun z => absurd z n4, fun _ => ⟨rfl, hR2⟩⟩⟩⟩⟩⟩, fun q => absurd rfl q⟩

set_option maxRecDepth 20000 in
set_option maxHeartbeats 1000000 in
theorem O_man (hR : Rel c_text_letters c_text_length c_now_bags c_now_men c_now_bagKinds c_now_manKinds c_now_cells c_trial_bags c_trial_men c_trial_bagKinds c_trial_manKinds c_trial_cells c_past_rows c_past_next c_past_count c_slots_rows c_slots_keptBits c_felt_men c_felt_bags c_felt_lengths c_felt_played c_felt_count c_chance m_thrown m_text m_textSize m_place m_bags m_sort m_men m_kind m_readBags m_readSort m_readMen m_readMan m_readPage m_page m_trial m_book m_acts m_kept m_isKept m_felt m_feltMan m_feltBag m_feltMany m_feltIs m_seed m_routeFew m_routeWay m_whichMany m_whichFirst m_restMany m_restFirst m_gains m_value) (x1 : Int32) (x2 : Int32) : wpX6_man c_now_bags c_now_men c_now_manKinds c_now_cells x1 x2 (fun r => wpX7_man m_thrown m_men m_kind m_page x1 x2 (fun r' m_thrown' => r = r' ∧ Rel c_text_letters c_text_length c_now_bags c_now_men c_now_bagKinds c_now_manKinds c_now_cells c_trial_bags c_trial_men c_trial_bagKinds c_trial_manKinds c_trial_cells c_past_rows c_past_next c_past_count c_slots_rows c_slots_keptBits c_felt_men c_felt_bags c_felt_lengths c_felt_played c_felt_count c_chance m_thrown' m_text m_textSize m_place m_bags m_sort m_men m_kind m_readBags m_readSort m_readMen m_readMan m_readPage m_page m_trial m_book m_acts m_kept m_isKept m_felt m_feltMan m_feltBag m_feltMany m_feltIs m_seed m_routeFew m_routeWay m_whichMany m_whichFirst m_restMany m_restFirst m_gains m_value)) := by
  obtain ⟨B, M, kb, km, d, h, kp, fe, fn, tx, tn, ⟨hW, rfl, rfl, hbk, hmk, hC, rfl, rfl, hso, hki, hM⟩, ⟨hh, hcp, hmp⟩, hS, hF, hT, hE⟩ := id hR
  have hB3 := hW.1
  have hM5 := hW.2.1
  have hR2 : Rel c_text_letters c_text_length (nI B) (nI M) c_now_bagKinds c_now_manKinds c_now_cells c_trial_bags c_trial_men c_trial_bagKinds c_trial_manKinds c_trial_cells c_past_rows c_past_next c_past_count c_slots_rows c_slots_keptBits c_felt_men c_felt_bags c_felt_lengths c_felt_played c_felt_count c_chance 0 m_text m_textSize m_place (nI B) m_sort (nI M) m_kind m_readBags m_readSort m_readMen m_readMan m_readPage m_page m_trial m_book m_acts m_kept m_isKept m_felt m_feltMan m_feltBag m_feltMany m_feltIs m_seed m_routeFew m_routeWay m_whichMany m_whichFirst m_restMany m_restFirst m_gains m_value := ⟨B, M, kb, km, d, h, kp, fe, fn, tx, tn, ⟨hW, rfl, rfl, hbk, hmk, hC, rfl, rfl, hso, hki, hM⟩, ⟨hh, hcp, hmp⟩, hS, hF, hT, hE⟩
  cases hb : ix M x1 with
  | none => exact C_isMan_f (by omega) (ix_none (by omega) hb) ⟨fun q => absurd rfl q, fun _ => M_noM_f (by omega) (ix_none (by omega) hb) ⟨fun q => absurd q (by decide), fun _ => ⟨rfl, hR2⟩⟩⟩
  | some b =>
    obtain ⟨b1, rfl⟩ := ix_some hb
    have hf := hW.fl
    refine C_isMan_t b1 (by omega) ⟨fun _ => ?_, fun q => absurd q (by decide)⟩
    refine ⟨fun q0 => ?_, fun n0 => ⟨fun q1 => ?_, fun n1 => ⟨fun q2 => ?_, fun n2 => ⟨fun q3 => ?_, fun n3 => ⟨fun q4 => ?_, fun n4 => ⟨fun q5 => ?_, fun n5 => ?_⟩⟩⟩⟩⟩⟩
    · subst q0
      refine C_kindOfMan hM5 hmk b1 ?_
      refine M_noM_t b1 (by omega) ⟨fun _ => ?_, fun q => absurd rfl q⟩
      refine ⟨fun _ => ?_, fun z => absurd rfl z⟩
      refine ⟨vin (by omega) (by omega), ?_⟩
      rw [nI_clamp (by omega), (hki b b1).1]; exact ⟨rfl, hR2⟩
    · subst q1
      refine C_ofMan 2 rfl hM5 b1 (by omega) ?_
      refine M_noM_t b1 (by omega) ⟨fun _ => ?_, fun q => absurd rfl q⟩
      refine ⟨fun z => absurd z (by decide), fun _ => ?_⟩
      refine ⟨fun _ => ?_, fun z => absurd rfl z⟩
      rw [show (30 : Int32) + nI b = nI (30 + b) from nI_add 30 b, nI_clamp (by omega), hC.2.2.1 b (by omega), hM.2.2.1 b (by omega)]
      exact ⟨vin (by omega) (by omega), rfl, hR2⟩
    · subst q2
      refine C_ofMan 7 rfl hM5 b1 (by omega) ?_
      refine M_noM_t b1 (by omega) ⟨fun _ => ?_, fun q => absurd rfl q⟩
      refine ⟨fun z => absurd z (by decide), fun _ => ?_⟩
      refine ⟨fun z => absurd z (by decide), fun _ => ?_⟩
      refine ⟨fun _ => ?_, fun z => absurd rfl z⟩
      rw [show (35 : Int32) + nI b = nI (35 + b) from nI_add 35 b, nI_clamp (by omega), hC.2.2.2.1 b (by omega), hM.2.2.2.1 b (by omega)]
      exact ⟨vin (by omega) (by omega), rfl, hR2⟩
    · subst q3
      refine C_breathsOf hW hC (by omega) ?_
      refine M_noM_t b1 (by omega) ⟨fun _ => ?_, fun q => absurd rfl q⟩
      refine ⟨fun z => absurd z (by decide), fun _ => ?_⟩
      refine ⟨fun z => absurd z (by decide), fun _ => ?_⟩
      refine ⟨fun z => absurd z (by decide), fun _ => ?_⟩
      refine ⟨fun _ => ?_, fun z => absurd rfl z⟩
      refine M_allOf hW hM (by omega) ⟨?_, hR2⟩
      rw [his_all hW]
    · subst q4
      refine C_ofMan 12 rfl hM5 b1 (by omega) ?_
      refine M_noM_t b1 (by omega) ⟨fun _ => ?_, fun q => absurd rfl q⟩
      refine ⟨fun z => absurd z (by decide), fun _ => ?_⟩
      refine ⟨fun z => absurd z (by decide), fun _ => ?_⟩
      refine ⟨fun z => absurd z (by decide), fun _ => ?_⟩
      refine ⟨fun z => absurd z (by decide), fun _ => ?_⟩
      refine ⟨fun _ => ?_, fun z => absurd rfl z⟩
      rw [show (40 : Int32) + nI b = nI (40 + b) from nI_add 40 b, nI_clamp (by omega), hC.2.2.2.2.1 b (by omega), hM.2.2.2.2.1 b (by omega)]
      exact ⟨vin (by omega) (by omega), rfl, hR2⟩
    · subst q5
      refine C_hasFallen hW hC (by omega) ?_
      have hb1 := bitN_le (dfl d) b
      have fin : ∀ v : Int32, v = nI (bitN (dfl d) b) → wpX7_man m_thrown (nI M) m_kind m_page (nI b) 5 (fun r' m_thrown' => v = r' ∧ Rel c_text_letters c_text_length (nI B) (nI M) c_now_bagKinds c_now_manKinds c_now_cells c_trial_bags c_trial_men c_trial_bagKinds c_trial_manKinds c_trial_cells c_past_rows c_past_next c_past_count c_slots_rows c_slots_keptBits c_felt_men c_felt_bags c_felt_lengths c_felt_played c_felt_count c_chance m_thrown' m_text m_textSize m_place (nI B) m_sort (nI M) m_kind m_readBags m_readSort m_readMen m_readMan m_readPage m_page m_trial m_book m_acts m_kept m_isKept m_felt m_feltMan m_feltBag m_feltMany m_feltIs m_seed m_routeFew m_routeWay m_whichMany m_whichFirst m_restMany m_restFirst m_gains m_value) := by
        intro v ev
        refine M_noM_t b1 (by omega) ⟨fun _ => ?_, fun q => absurd rfl q⟩
        refine ⟨fun z => absurd z (by decide), fun _ => ?_⟩
        refine ⟨fun z => absurd z (by decide), fun _ => ?_⟩
        refine ⟨fun z => absurd z (by decide), fun _ => ?_⟩
        refine ⟨fun z => absurd z (by decide), fun _ => ?_⟩
        refine ⟨fun z => absurd z (by decide), fun _ => ?_⟩
        refine ⟨fun _ => ?_, fun z => absurd rfl z⟩
        rw [hM.2.1, bit_expr (by omega) (by omega)]
        exact ⟨ev, hR2⟩
      refine ⟨fun q => fin 0 ?_, fun q => fin 1 ?_⟩
      · rw [q]
      · have e1 : bitN (dfl d) b = 1 := by
          rcases Nat.lt_or_ge (bitN (dfl d) b) 1 with z | z
          · exact absurd (show nI (bitN (dfl d) b) = 0 by rw [show bitN (dfl d) b = 0 by omega]; rfl) q
          · omega
        rw [e1]; rfl
    · exact M_noM_t b1 (by omega) ⟨fun _ => ⟨fun z => absurd z n0, fun _ => ⟨fun z => absurd z n1, fun _ => ⟨fun z => absurd z n2, fun _ => ⟨fun z => absurd z n3, fun _ => ⟨fun z => absurd z n4, fun _ => ⟨fun z => absurd z n5, fun _ => ⟨rfl, hR2⟩⟩⟩⟩⟩⟩⟩, fun q => absurd rfl q⟩

set_option maxRecDepth 20000 in
set_option maxHeartbeats 1000000 in
theorem O_nth (hR : Rel c_text_letters c_text_length c_now_bags c_now_men c_now_bagKinds c_now_manKinds c_now_cells c_trial_bags c_trial_men c_trial_bagKinds c_trial_manKinds c_trial_cells c_past_rows c_past_next c_past_count c_slots_rows c_slots_keptBits c_felt_men c_felt_bags c_felt_lengths c_felt_played c_felt_count c_chance m_thrown m_text m_textSize m_place m_bags m_sort m_men m_kind m_readBags m_readSort m_readMen m_readMan m_readPage m_page m_trial m_book m_acts m_kept m_isKept m_felt m_feltMan m_feltBag m_feltMany m_feltIs m_seed m_routeFew m_routeWay m_whichMany m_whichFirst m_restMany m_restFirst m_gains m_value) (x1 : Int32) (x2 : Int32) : wpX6_nth c_now_bags c_now_bagKinds c_now_cells x1 x2 (fun r => wpX7_nth m_thrown m_bags m_sort m_page x1 x2 (fun r' m_thrown' => r = r' ∧ Rel c_text_letters c_text_length c_now_bags c_now_men c_now_bagKinds c_now_manKinds c_now_cells c_trial_bags c_trial_men c_trial_bagKinds c_trial_manKinds c_trial_cells c_past_rows c_past_next c_past_count c_slots_rows c_slots_keptBits c_felt_men c_felt_bags c_felt_lengths c_felt_played c_felt_count c_chance m_thrown' m_text m_textSize m_place m_bags m_sort m_men m_kind m_readBags m_readSort m_readMen m_readMan m_readPage m_page m_trial m_book m_acts m_kept m_isKept m_felt m_feltMan m_feltBag m_feltMany m_feltIs m_seed m_routeFew m_routeWay m_whichMany m_whichFirst m_restMany m_restFirst m_gains m_value)) := by
  obtain ⟨B, M, kb, km, d, h, kp, fe, fn, tx, tn, ⟨hW, rfl, rfl, hbk, hmk, hC, rfl, rfl, hso, hki, hM⟩, ⟨hh, hcp, hmp⟩, hS, hF, hT, hE⟩ := id hR
  have hB3 := hW.1
  have hM5 := hW.2.1
  have hR2 : Rel c_text_letters c_text_length (nI B) (nI M) c_now_bagKinds c_now_manKinds c_now_cells c_trial_bags c_trial_men c_trial_bagKinds c_trial_manKinds c_trial_cells c_past_rows c_past_next c_past_count c_slots_rows c_slots_keptBits c_felt_men c_felt_bags c_felt_lengths c_felt_played c_felt_count c_chance 0 m_text m_textSize m_place (nI B) m_sort (nI M) m_kind m_readBags m_readSort m_readMen m_readMan m_readPage m_page m_trial m_book m_acts m_kept m_isKept m_felt m_feltMan m_feltBag m_feltMany m_feltIs m_seed m_routeFew m_routeWay m_whichMany m_whichFirst m_restMany m_restFirst m_gains m_value := ⟨B, M, kb, km, d, h, kp, fe, fn, tx, tn, ⟨hW, rfl, rfl, hbk, hmk, hC, rfl, rfl, hso, hki, hM⟩, ⟨hh, hcp, hmp⟩, hS, hF, hT, hE⟩
  cases hb : ix B x1 with
  | none => exact C_isBag_f (by omega) (ix_none (by omega) hb) ⟨fun q => absurd rfl q, fun _ => M_no_f (by omega) (ix_none (by omega) hb) ⟨fun q => absurd q (by decide), fun _ => ⟨rfl, hR2⟩⟩⟩
  | some b =>
    obtain ⟨b1, rfl⟩ := ix_some hb
    have h9b := hW.2.2.1 b
    have hkk := (hbk b b1).2
    refine C_isBag_t b1 (by omega) ⟨fun _ => ?_, fun q => absurd q (by decide)⟩
    have bad : rg 0 8 x2 = none → wpX7_nth m_thrown (nI B) m_sort m_page (nI b) x2 (fun r' m_thrown' => (-2 : Int32) = r' ∧ Rel c_text_letters c_text_length (nI B) (nI M) c_now_bagKinds c_now_manKinds c_now_cells c_trial_bags c_trial_men c_trial_bagKinds c_trial_manKinds c_trial_cells c_past_rows c_past_next c_past_count c_slots_rows c_slots_keptBits c_felt_men c_felt_bags c_felt_lengths c_felt_played c_felt_count c_chance m_thrown' m_text m_textSize m_place (nI B) m_sort (nI M) m_kind m_readBags m_readSort m_readMen m_readMan m_readPage m_page m_trial m_book m_acts m_kept m_isKept m_felt m_feltMan m_feltBag m_feltMany m_feltIs m_seed m_routeFew m_routeWay m_whichMany m_whichFirst m_restMany m_restFirst m_gains m_value) := fun hk => M_no_t b1 (by omega) ⟨fun _ => M_in 0 8 rfl rfl (by omega) (by omega) (fun k hk2 => by rw [hk] at hk2; cases hk2) (fun _ => ⟨fun q => absurd rfl q, fun _ => ⟨rfl, hR2⟩⟩), fun q => absurd rfl q⟩
    cases hk : rg 0 8 x2 with
    | none =>
      rcases rg_none (by omega) (by omega) hk with q | q
      · exact ⟨fun _ => bad hk, fun z => absurd q z⟩
      · refine ⟨fun _ => bad hk, fun _ => ⟨fun z => ?_, fun _ => bad hk⟩⟩
        rw [Int32.lt_iff_toInt_lt] at q z
        have e8 : (nI 8).toInt = 8 := nI_toInt (by omega)
        have e9 : (9 : Int32).toInt = 9 := by decide
        omega
    | some k =>
      obtain ⟨k1, k2, rfl⟩ := rg_some hk
      refine ⟨fun q => absurd q (nI_pos (by omega)), fun _ => ⟨fun _ => C_breathsIn hW hC (by omega) ?_, fun q => absurd (nI_lt (b := 9) (by omega) (by omega)) q⟩⟩
      refine pk_le (dpl d b).length k (fun z => ?_) (fun z => ?_)
      · refine M_no_t b1 (by omega) ⟨fun _ => M_in 0 8 rfl rfl (by omega) (by omega) (fun _ _ => ⟨fun _ => ?_, fun q => absurd q (by decide)⟩) (fun y => by rw [hk] at y; cases y), fun q => absurd rfl q⟩
        rw [nI_clamp (by omega), hM.2.2.2.2.2.1 b (by omega)]
        exact ⟨vin (by omega) (by omega), fun _ => ⟨rfl, hR2⟩, fun q => absurd (nI_le z (by omega)) q⟩
      · refine C_placePlayed hW hC hbk z (C_owner hW hC (plc_lt z) ?_)
        refine M_no_t b1 (by omega) ⟨fun _ => M_in 0 8 rfl rfl (by omega) (by omega) (fun _ _ => ⟨fun _ => ?_, fun q => absurd q (by decide)⟩) (fun y => by rw [hk] at y; cases y), fun q => absurd rfl q⟩
        rw [nI_clamp (by omega), hM.2.2.2.2.2.1 b (by omega), (hso b b1).1]
        exact ⟨vin (by omega) (by omega), fun q => absurd q (nI_ge z (by omega)), fun _ => ⟨vin (by omega) (by omega), vin (by omega) (by omega), M_placeOf (by omega) z (M_breath hW hM (plc_lt z) ⟨rfl, hR2⟩)⟩⟩
end OB
