/-! doings that are told: judge, years. The rows wb_ are pasted from the kit's laws/BITS.to-paste -/
theorem wb_tb (n : Nat) : (lN n).toBitVec = BitVec.ofNat 64 n := rfl
theorem wb_inj {a b : Int64} (h : a.toBitVec = b.toBitVec) : a = b := Int64.toBitVec_inj.mp h
theorem wb_tn {n : Nat} (h : n < 2 ^ 64) : (lN n).toBitVec.toNat = n := by rw [wb_tb, BitVec.toNat_ofNat, Nat.mod_eq_of_lt h]
theorem wb_of (x : Int64) : ∃ n, n < 2 ^ 64 ∧ x = lN n := ⟨x.toBitVec.toNat, x.toBitVec.isLt, wb_inj (by rw [wb_tb]; simp)⟩
theorem wb_of32 (x : Int32) : ∃ n, n < 2 ^ 32 ∧ x = nI n := ⟨x.toBitVec.toNat, x.toBitVec.isLt, Int32.toBitVec_inj.mp (by show _ = BitVec.ofNat 32 _; simp)⟩
theorem wb_c : ∀ k, k < 64 → ((nI k).toInt64 &&& 63) = lN k := by decide +kernel
theorem wb_cu : ∀ k, k < 64 → ((nI k).toInt64.toUInt64 &&& Int64.toUInt64 63) = UInt64.ofNat k := by decide +kernel
theorem wb_sm : ∀ k, k < 64 → (BitVec.ofNat 64 k).smod 64 = BitVec.ofNat 64 k := by decide +kernel
theorem wb_pw {a b : Nat} (h : a ≤ b) : 2 ^ b = 2 ^ a * 2 ^ (b - a) := by rw [← Nat.pow_add]; congr 1; omega
theorem wb_lt2 {a b : Nat} (h : a < b) : 2 ^ a < 2 ^ b := Nat.pow_lt_pow_right (by decide) h
theorem wb_mod (n : Nat) : lN n = lN (n % 2 ^ 64) := wb_inj (by rw [wb_tb, wb_tb]; apply BitVec.eq_of_toNat_eq; rw [BitVec.toNat_ofNat, BitVec.toNat_ofNat, Nat.mod_mod])
theorem wb_shr {n k : Nat} (hn : n < 2 ^ 64) (hk : k < 64) : ((lN n).toUInt64 >>> ((nI k).toInt64.toUInt64 &&& Int64.toUInt64 63)).toInt64 = lN (n / 2 ^ k) := by
  rw [wb_cu k hk]
  apply wb_inj
  apply BitVec.eq_of_toNat_eq
  show ((lN n).toUInt64 >>> UInt64.ofNat k).toNat = (BitVec.ofNat 64 _).toNat
  have h1 : (UInt64.ofNat k).toNat = k := by
    show (BitVec.ofNat 64 k).toNat = k
    rw [BitVec.toNat_ofNat, Nat.mod_eq_of_lt (by omega)]
  have h2 : (lN n).toUInt64.toNat = n := wb_tn hn
  rw [UInt64.toNat_shiftRight, h1, h2, Nat.mod_eq_of_lt hk, Nat.shiftRight_eq_div_pow, BitVec.toNat_ofNat, Nat.mod_eq_of_lt (Nat.lt_of_le_of_lt (Nat.div_le_self _ _) hn)]
theorem wb_shl (n : Nat) {k : Nat} (hk : k < 64) : lN n <<< ((nI k).toInt64 &&& 63) = lN (n * 2 ^ k) := by
  rw [wb_c k hk]
  apply wb_inj
  rw [Int64.toBitVec_shiftLeft, wb_tb, wb_tb, wb_tb, wb_sm k hk]
  apply BitVec.eq_of_toNat_eq
  rw [BitVec.shiftLeft_eq', BitVec.toNat_shiftLeft, BitVec.toNat_ofNat, BitVec.toNat_ofNat, BitVec.toNat_ofNat, Nat.mod_eq_of_lt (show k < 2 ^ 64 by omega), Nat.shiftLeft_eq, Nat.mul_mod, Nat.mod_mod, ← Nat.mul_mod]
theorem wb_and {a b : Nat} (ha : a < 2 ^ 64) (hb : b < 2 ^ 64) : lN a &&& lN b = lN (a &&& b) := by
  apply wb_inj
  rw [Int64.toBitVec_and, wb_tb, wb_tb, wb_tb]
  apply BitVec.eq_of_toNat_eq
  rw [BitVec.toNat_and, BitVec.toNat_ofNat, BitVec.toNat_ofNat, BitVec.toNat_ofNat, Nat.mod_eq_of_lt ha, Nat.mod_eq_of_lt hb, Nat.mod_eq_of_lt (Nat.and_lt_two_pow _ hb)]
theorem wb_or {a b : Nat} (ha : a < 2 ^ 64) (hb : b < 2 ^ 64) : lN a ||| lN b = lN (a ||| b) := by
  apply wb_inj
  rw [Int64.toBitVec_or, wb_tb, wb_tb, wb_tb]
  apply BitVec.eq_of_toNat_eq
  rw [BitVec.toNat_or, BitVec.toNat_ofNat, BitVec.toNat_ofNat, BitVec.toNat_ofNat, Nat.mod_eq_of_lt ha, Nat.mod_eq_of_lt hb, Nat.mod_eq_of_lt (Nat.or_lt_two_pow ha hb)]
theorem wb_mask {n k : Nat} (hn : n < 2 ^ 64) (hk : k < 64) : lN n &&& lN (2 ^ k - 1) = lN (n % 2 ^ k) := by
  rw [wb_and hn (by have := wb_lt2 hk; omega), Nat.and_two_pow_sub_one_eq_mod]
theorem wb_a1 {n : Nat} (hn : n < 2 ^ 64) : lN n &&& 1 = lN (n % 2) := wb_mask (k := 1) hn (by decide)
theorem wb_bit {n k : Nat} (hn : n < 2 ^ 64) (hk : k < 64) : ((lN n).toUInt64 >>> ((nI k).toInt64.toUInt64 &&& Int64.toUInt64 63)).toInt64 &&& 1 = lN (n / 2 ^ k % 2) := by
  rw [wb_shr hn hk, wb_a1 (Nat.lt_of_le_of_lt (Nat.div_le_self _ _) hn)]
theorem wb_xor {q k : Nat} (hk : k < 63) (h : 2 ^ k ≤ q) (h2 : q < 2 ^ (k + 1)) : lN q ^^^ lN (2 ^ k) = lN (q - 2 ^ k) := by
  obtain ⟨r, rfl⟩ : ∃ r, q = 2 ^ k + r := ⟨q - 2 ^ k, by omega⟩
  have hr : r < 2 ^ k := by rw [Nat.pow_succ] at h2; omega
  have hx : (2 ^ k + r) ^^^ 2 ^ k = r := by
    apply Nat.eq_of_testBit_eq
    intro i
    rw [Nat.testBit_xor, Nat.testBit_two_pow]
    rcases Nat.lt_trichotomy i k with h | h | h
    · rw [Nat.testBit_two_pow_add_gt h]
      simp [show ¬ k = i by omega]
    · subst h
      rw [Nat.testBit_two_pow_add_eq]
      simp
    · have a1 : 2 ^ (k + 1) ≤ 2 ^ i := Nat.pow_le_pow_right (by decide) h
      rw [Nat.testBit_lt_two_pow (show 2 ^ k + r < 2 ^ i by omega), Nat.testBit_lt_two_pow (show r < 2 ^ i by omega)]
      simp [show ¬ k = i by omega]
  have b1 := wb_lt2 (show k + 1 < 64 by omega)
  have b2 := wb_lt2 (show k < 64 by omega)
  apply wb_inj
  rw [Int64.toBitVec_xor, wb_tb, wb_tb, wb_tb]
  apply BitVec.eq_of_toNat_eq
  rw [BitVec.toNat_xor, BitVec.toNat_ofNat, BitVec.toNat_ofNat, BitVec.toNat_ofNat, Nat.mod_eq_of_lt (by omega : 2 ^ k + r < 2 ^ 64), Nat.mod_eq_of_lt b2, hx, Nat.add_sub_cancel_left, Nat.mod_eq_of_lt (by omega)]
/-! ===== lN: masks, 'or' of parts that don't overlap is a sum ===== -/

def doing (kb km : Nat → Nat) (B M : Nat) (d : Dy) (t : Nat) : Option Dy :=
  if t = 0 then some (opDay kb km B M d)
  else if t / 100 = 1 then (aGive B M d (nI (t / 10 % 10)) (nI (t % 10))).2
  else if t / 100 = 2 then (aMarch kb B d (nI (t / 10 % 10)) (nI (t % 10))).2
  else if t / 100 = 3 then (aClaim kb B M d (nI (t / 10 % 10)) (nI (t % 10))).2
  else if t / 100 = 4 then (if t / 10 % 10 = 0 then (aSlit B d (nI (t % 10))).2 else none)
  else if t / 100 = 5 then (if t / 10 % 10 = 0 then (aFall B M d (nI (t % 10))).2 else none)
  else if t / 100 = 6 then (match ix M (nI (t / 10 % 10)) with
    | some m => if dsd d m < t % 10 then none else some d
    | none => none)
  else none
theorem wf_of_act {B M : Nat} {d d' : Dy} {a : Act} (h : WF B M (a.2.getD d)) (e : a.2 = some d') : WF B M d' := by rw [e] at h; exact h
theorem wf_doing {B M : Nat} {d d' : Dy} {kb km : Nat → Nat} {t : Nat} (hW : WF B M d) (h : doing kb km B M d t = some d') : WF B M d' := by
  unfold doing at h
  split at h
  · cases h; exact hW.kDay
  split at h
  · exact wf_of_act (wf_give hW _ _) h
  split at h
  · exact wf_of_act (wf_march hW _ _) h
  split at h
  · exact wf_of_act (wf_claim hW _ _) h
  split at h
  · split at h
    · exact wf_of_act (wf_slit hW _) h
    · cases h
  split at h
  · split at h
    · exact wf_of_act (wf_fall hW _) h
    · cases h
  split at h
  · split at h
    · split at h
      · cases h
      · cases h; exact hW
    · cases h
  · cases h
theorem act_two {a : Act} (ha : sig a) {d : Dy} {c' : Nat → Int32} {post : Int32 → (Nat → Int32) → Prop} (hc : RC (a.2.getD d) c') (h0 : a.2 = none → RC d c' → post 0 c') (h1 : ∀ d', a.2 = some d' → RC d' c' → post 1 c') : (a.1 < 0 → post 0 c') ∧ (¬ a.1 < 0 → post 1 c') := by
  rcases ha with ⟨e, q⟩ | ⟨⟨d', e⟩, q⟩
  · rw [e] at hc
    exact ⟨fun _ => h0 e hc, fun z => absurd q z⟩
  · rw [e] at hc
    exact ⟨fun z => absurd z q, fun _ => h1 d' e hc⟩
section DO
variable {B M : Nat} {d : Dy} {c p : Nat → Int32} {kb km : Nat → Nat} {bk mk sort kind : Nat → Int32}
theorem C_canDo (hW : WF B M d) (hR : RC d c) (hbk : SK B kb bk) (hmk : SK M km mk) {t : Nat} (ht : t < 1000) {post : Int32 → (Nat → Int32) → Prop} (h0 : doing kb km B M d t = none → ∀ c', RC d c' → post 0 c') (h1 : ∀ d', doing kb km B M d t = some d' → ∀ c', RC d' c' → post 1 c') : wpX0_canDo (nI B) (nI M) bk mk c (nI (t / 100)) (nI (t / 10 % 10)) (nI (t % 10)) post := by
  have hB3 := hW.1
  have hM5 := hW.2.1
  unfold doing at h0 h1
  have ne : ∀ {a k : Nat}, a < 1000 → k < 1000 → ¬ nI a = nI k → ¬ a = k := fun _ _ q z => q (by rw [z])
  have eq : ∀ {a k : Nat}, a < 1000 → k < 1000 → nI a = nI k → a = k := fun h1 h2 q => (nI_eq (by omega) (by omega)).mp q
  refine ⟨fun q0 => ?_, fun n0 => ⟨fun q1 => ?_, fun n1 => ⟨fun q2 => ?_, fun n2 => ⟨fun q3 => ?_, fun n3 => ⟨fun q4 => ?_, fun n4 => ⟨fun q5 => ?_, fun n5 => ⟨fun q6 => ?_, fun n6 => ?_⟩⟩⟩⟩⟩⟩⟩
  · have e := eq (k := 0) (by omega) (by omega) q0
    refine ⟨fun z => ?_, fun z => ⟨fun y => ?_, fun y => ?_⟩⟩
    · have := ne (k := 0) (by omega) (by omega) z
      rw [if_neg (by omega), if_neg (by omega), if_neg (by omega), if_neg (by omega), if_neg (by omega), if_neg (by omega), if_neg (by omega)] at h0
      exact h0 rfl c hR
    · have := ne (k := 0) (by omega) (by omega) y
      rw [if_neg (by omega), if_neg (by omega), if_neg (by omega), if_neg (by omega), if_neg (by omega), if_neg (by omega), if_neg (by omega)] at h0
      exact h0 rfl c hR
    · have e1 := eq (k := 0) (by omega) (by omega) z
      have e2 := eq (k := 0) (by omega) (by omega) y
      rw [if_pos (by omega)] at h1
      have hl := leak_le (kb := kb) (d := d) B
      refine C_passDay hW hR hbk hmk (fun c' hc => ⟨fun w => absurd w (nI_pos (by omega)), fun _ => h1 _ rfl c' hc⟩)
  · have e := eq (k := 1) (by omega) (by omega) q1
    rw [if_neg (by omega), if_pos e] at h0 h1
    exact C_giveBreath hW hR _ _ (fun c' hc => act_two (sig_give hW _ _) hc (fun e hc => h0 e c' hc) (fun d' e hc => h1 d' e c' hc))
  · have e := eq (k := 2) (by omega) (by omega) q2
    rw [if_neg (by omega), if_neg (by omega), if_pos e] at h0 h1
    exact C_playBreaths hW hR hbk _ _ (fun c' hc => act_two (sig_march hW _ _) hc (fun e hc => h0 e c' hc) (fun d' e hc => h1 d' e c' hc))
  · have e := eq (k := 3) (by omega) (by omega) q3
    rw [if_neg (by omega), if_neg (by omega), if_neg (by omega), if_pos e] at h0 h1
    exact C_takeBack hW hR hbk _ _ (fun c' hc => act_two (sig_claim hW _ _) hc (fun e hc => h0 e c' hc) (fun d' e hc => h1 d' e c' hc))
  · have e := eq (k := 4) (by omega) (by omega) q4
    rw [if_neg (by omega), if_neg (by omega), if_neg (by omega), if_neg (by omega), if_pos e] at h0 h1
    refine ⟨fun z => ?_, fun z => ?_⟩
    · rw [if_neg (ne (k := 0) (by omega) (by omega) z)] at h0
      exact h0 rfl c hR
    · rw [if_pos (eq (k := 0) (by omega) (by omega) z)] at h0 h1
      exact C_cutOpen hW hR _ (fun c' hc => act_two (sig_slit hW _) hc (fun e hc => h0 e c' hc) (fun d' e hc => h1 d' e c' hc))
  · have e := eq (k := 5) (by omega) (by omega) q5
    rw [if_neg (by omega), if_neg (by omega), if_neg (by omega), if_neg (by omega), if_neg (by omega), if_pos e] at h0 h1
    refine ⟨fun z => ?_, fun z => ?_⟩
    · rw [if_neg (ne (k := 0) (by omega) (by omega) z)] at h0
      exact h0 rfl c hR
    · rw [if_pos (eq (k := 0) (by omega) (by omega) z)] at h0 h1
      exact C_loseMan hW hR _ (fun c' hc => act_two (sig_fall hW _) hc (fun e hc => h0 e c' hc) (fun d' e hc => h1 d' e c' hc))
  · have e := eq (k := 6) (by omega) (by omega) q6
    rw [if_neg (by omega), if_neg (by omega), if_neg (by omega), if_neg (by omega), if_neg (by omega), if_neg (by omega), if_pos e] at h0 h1
    cases hm : ix M (nI (t / 10 % 10)) with
    | none =>
      rw [hm] at h0
      exact C_isMan_f (by omega) (ix_none (by omega) hm) ⟨fun _ => h0 rfl c hR, fun q => absurd rfl q⟩
    | some m =>
      rw [hm] at h0 h1
      obtain ⟨m1, em⟩ := ix_some hm
      rw [em]
      have h99 := hW.2.2.2.2.2.2 m
      refine C_isMan_t m1 (by omega) ⟨fun q => absurd q (by decide), fun _ => C_ofMan 2 rfl hM5 m1 (by omega) ?_⟩
      rw [hR.2.2.1 m (by omega)]
      refine pk_lt (dsd d m) (t % 10) (fun z => h0 (if_pos z) c hR) (fun z => h1 d (if_neg (by omega)) c hR)
  · have d0 := ne (k := 0) (by omega) (by omega) n0
    have d1 := ne (k := 1) (by omega) (by omega) n1
    have d2 := ne (k := 2) (by omega) (by omega) n2
    have d3 := ne (k := 3) (by omega) (by omega) n3
    have d4 := ne (k := 4) (by omega) (by omega) n4
    have d5 := ne (k := 5) (by omega) (by omega) n5
    have d6 := ne (k := 6) (by omega) (by omega) n6
    rw [if_neg (by omega), if_neg d1, if_neg d2, if_neg d3, if_neg d4, if_neg d5, if_neg d6] at h0
    exact h0 rfl c hR
theorem M_puts (hW : WF B M d) (hR : RM d p) (x y : Int32) {post : Int32 → (Nat → Int32) → Prop} (h0 : (aGive B M d x y).2 = none → post 0 p) (h1 : ∀ d', (aGive B M d x y).2 = some d' → ∀ p', RM d' p' → post 1 p') : wpX7_puts (nI B) (nI M) p x y post := by
  have hB := hW.1
  have hM := hW.2.1
  have no : (aGive B M d x y).2 = none → wpX7_puts_J42 (nI B) (nI M) x y post p := fun e => ⟨fun _ => ⟨vb0, h0 e⟩, fun q => absurd rfl q⟩
  cases hm : ix M x with
  | none => exact M_noM_f (by omega) (ix_none (by omega) hm) ⟨fun _ => no (by simp only [aGive, hm]), fun q => absurd q (by decide)⟩
  | some m =>
    obtain ⟨m1, rfl⟩ := ix_some hm
    refine M_noM_t m1 (by omega) ⟨fun q => absurd rfl q, fun _ => ?_⟩
    cases hb : ix B y with
    | none => exact M_no_f (by omega) (ix_none (by omega) hb) ⟨fun _ => no (by simp only [aGive, hm, hb]), fun q => absurd q (by decide)⟩
    | some b =>
      obtain ⟨b1, rfl⟩ := ix_some hb
      have h9 := hW.2.2.1 b
      refine M_no_t b1 (by omega) ⟨fun q => absurd rfl q, fun _ => M_canGive hW hR m1 ?_⟩
      by_cases f : bitN (dfl d) m = 1 ∨ dsd d m = 0
      · rw [if_pos f]
        exact ⟨fun _ => no (by simp only [aGive, hm, hb]; rw [if_pos f]), fun q => absurd rfl q⟩
      · rw [if_neg f]
        refine ⟨fun q => absurd q (by decide), fun _ => ?_⟩
        rw [nI_clamp (by omega), hR.2.2.2.2.2.1 b (by omega)]
        refine ⟨vin (by omega) (by omega), pk_le 9 (dpl d b).length (fun z => no (by simp only [aGive, hm, hb]; rw [if_neg f, if_pos z])) (fun z => ?_)⟩
        refine ⟨fun q => absurd q (by decide), fun _ => M_give hW hR m1 b1 z (by omega) (fun p' hp => ⟨vb1, h1 _ ?_ p' hp⟩)⟩
        simp only [aGive, hm, hb]; rw [if_neg f, if_neg (by omega)]
theorem M_marches (hW : WF B M d) (hR : RM d p) (hK : SK B kb sort) (x : Int32) {n : Nat} (hn : n ≤ 9) {post : Int32 → (Nat → Int32) → Prop} (h0 : (aMarch kb B d x (nI n)).2 = none → post 0 p) (h1 : ∀ d', (aMarch kb B d x (nI n)).2 = some d' → ∀ p', RM d' p' → post 1 p') : wpX7_marches (nI B) sort p x (nI n) post := by
  have hB := hW.1
  have no : (aMarch kb B d x (nI n)).2 = none → wpX7_marches_J26 (nI B) sort x (nI n) post p := fun e => ⟨fun _ => ⟨vb0, h0 e⟩, fun q => absurd rfl q⟩
  cases hb : ix B x with
  | none => exact M_no_f (by omega) (ix_none (by omega) hb) ⟨fun _ => no (by simp only [aMarch, hb]), fun q => absurd q (by decide)⟩
  | some b =>
    obtain ⟨b1, rfl⟩ := ix_some hb
    have h9 := hW.2.2.1 b
    refine M_no_t b1 (by omega) ⟨fun q => absurd rfl q, fun _ => pk_le n 0 (fun z => ?_) (fun z => ?_)⟩
    · have e : n = 0 := by omega
      subst e
      have : rg 1 9 (nI 0) = none := by decide
      exact no (by simp only [aMarch, hb, this])
    · have hr : rg 1 9 (nI n) = some n := by
        unfold rg
        rw [nI_toInt (by omega), if_pos ⟨by omega, by omega⟩]
        rfl
      rw [nI_clamp (by omega), hR.2.2.2.2.2.1 b (by omega)]
      refine ⟨vin (by omega) (by omega), pk_lt (dpl d b).length n (fun y => no (by simp only [aMarch, hb, hr]; rw [if_pos y])) (fun y => ?_)⟩
      refine ⟨fun q => absurd q (by decide), fun _ => M_play hW hR hK b1 y (fun p' hp => ⟨vb1, h1 _ ?_ p' hp⟩)⟩
      simp only [aMarch, hb, hr]; rw [if_neg (by omega)]
theorem M_falls (hW : WF B M d) (hR : RM d p) (x : Int32) {post : Int32 → (Nat → Int32) → Prop} (h0 : (aFall B M d x).2 = none → ∀ p', RM d p' → post 0 p') (h1 : ∀ d', (aFall B M d x).2 = some d' → ∀ p', RM d' p' → post 1 p') : wpX7_falls (nI M) p x post := by
  have hM := hW.2.1
  have hf := hW.fl
  have no : (aFall B M d x).2 = none → wpX7_falls_J26 (nI M) x post p := by
    intro e
    refine ⟨fun _ => ⟨vp_k (by decide), ?_⟩, fun q => absurd rfl q⟩
    rintro _ rfl
    refine ⟨vb0, h0 e _ (hR.kept (fun q => hW.2.2.1 q) (fun j hj => ?_))⟩
    show upd p 45 _ j = _
    by_cases z : j = 45
    · subst z; rw [pk_us, hR.2.1, show (0 : Int32) = nI 0 from rfl, nI_or, Nat.or_zero]
    · rw [pk_un z]
  cases hm : ix M x with
  | none => exact M_noM_f (by omega) (ix_none (by omega) hm) ⟨fun _ => no (by simp only [aFall, hm]), fun q => absurd q (by decide)⟩
  | some m =>
    obtain ⟨m1, rfl⟩ := ix_some hm
    have h2 : 2 ^ m ≤ 2 ^ 5 := Nat.pow_le_pow_right (by omega) (by omega)
    refine M_noM_t m1 (by omega) ⟨fun q => absurd rfl q, fun _ => ?_⟩
    rw [hR.2.1]
    refine M_has (by omega) (by omega) ?_
    by_cases f : bitN (dfl d) m = 1
    · rw [f]
      exact ⟨fun _ => no (by simp only [aFall, hm]; rw [if_pos f]), fun q => absurd q (by decide)⟩
    · rw [bit0 f]
      refine ⟨fun q => absurd rfl q, fun _ => ⟨fun q => absurd q (by decide), fun _ => ⟨vp_k (by decide), ?_⟩⟩⟩
      rw [show (1 : Int32) <<< (nI m &&& 31) = nI (1 * 2 ^ m) from nI_shl (n := 1) (by omega) (by omega), Nat.one_mul, hR.2.1, nI_or]
      rintro _ rfl
      refine ⟨vb1, h1 (opFall d m) ?_ _ (hR.setFl (fun q => hW.2.2.1 q) _)⟩
      simp only [aFall, hm]; rw [if_neg f]
theorem M_does (hW : WF B M d) (hR : RM d p) (hso : SK B kb sort) (hki : SK M km kind) {t : Nat} (ht : t < 1000) {post : Int32 → (Nat → Int32) → Prop} (h0 : doing kb km B M d t = none → ∀ p', RM d p' → post 0 p') (h1 : ∀ d', doing kb km B M d t = some d' → ∀ p', RM d' p' → post 1 p') : wpX7_does (nI B) sort (nI M) kind p (nI t) post := by
  have hB3 := hW.1
  have hM5 := hW.2.1
  unfold doing at h0 h1
  have ne : ∀ {a k : Nat}, a < 1000 → k < 1000 → ¬ nI a = nI k → ¬ a = k := fun _ _ q z => q (by rw [z])
  have eq : ∀ {a k : Nat}, a < 1000 → k < 1000 → nI a = nI k → a = k := fun h1 h2 q => (nI_eq (by omega) (by omega)).mp q
  unfold wpX7_does
  rw [show nI t / (100 : Int32) = nI (t / 100) from pk_div (d := 100) (by omega) (by omega) (by omega), show nI t / (10 : Int32) = nI (t / 10) from pk_div (d := 10) (by omega) (by omega) (by omega), show nI (t / 10) - nI (t / 10) / (10 : Int32) * (10 : Int32) = nI (t / 10 % 10) from pk_rem (d := 10) (by omega) (by omega) (by omega)]
  have er : nI t - nI (t / 10) * (10 : Int32) = nI (t % 10) := by
    rw [show nI (t / 10) * (10 : Int32) = nI (t / 10 * 10) from pk_mul _ 10, pk_sub (by omega)]
    congr 1; omega
  rw [er]
  rintro _ rfl _ rfl _ rfl
  refine ⟨fun nz => ⟨fun q1 => ?_, fun n1 => ⟨fun q2 => ?_, fun n2 => ⟨fun q3 => ?_, fun n3 => ⟨fun q4 => ?_, fun n4 => ⟨fun q5 => ?_, fun n5 => ⟨fun n6 => ?_, fun q6 => ?_⟩⟩⟩⟩⟩⟩, fun z => ?_⟩
  · have e := eq (k := 1) (by omega) (by omega) q1
    rw [if_neg (by omega), if_pos e] at h0 h1
    exact M_puts hW hR _ _ (fun e => h0 e p hR) h1
  · have e := eq (k := 2) (by omega) (by omega) q2
    rw [if_neg (by omega), if_neg (by omega), if_pos e] at h0 h1
    exact M_marches hW hR hso _ (by omega) (fun e => h0 e p hR) h1
  · have e := eq (k := 3) (by omega) (by omega) q3
    rw [if_neg (by omega), if_neg (by omega), if_neg (by omega), if_pos e] at h0 h1
    cases hm : ix M (nI (t / 10 % 10)) with
    | none => exact M_noM_f (by omega) (ix_none (by omega) hm) ⟨fun _ => h0 (by simp only [aClaim, hm]) p hR, fun q => absurd q (by decide)⟩
    | some m =>
      obtain ⟨m1, em⟩ := ix_some hm
      cases hb : ix B (nI (t % 10)) with
      | none =>
        have h00 := h0 (by simp only [aClaim, hm, hb]) p hR
        rw [em]
        exact M_noM_t m1 (by omega) ⟨fun q => absurd rfl q, fun _ => M_no_f (by omega) (ix_none (by omega) hb) ⟨fun _ => h00, fun q => absurd q (by decide)⟩⟩
      | some b =>
        obtain ⟨b1, eb⟩ := ix_some hb
        rw [em, eb] at h0 h1 ⊢
        exact M_noM_t m1 (by omega) ⟨fun q => absurd rfl q, fun _ => M_no_t b1 (by omega) ⟨fun q => absurd rfl q, fun _ => M_goClaim hW hR hso m1 b1 (fun e => ⟨fun _ => h0 e p hR, fun q => absurd rfl q⟩) (fun d' e p' hp => ⟨fun q => absurd q (by decide), fun _ => h1 d' e p' hp⟩)⟩⟩
  · have e := eq (k := 4) (by omega) (by omega) q4
    rw [if_neg (by omega), if_neg (by omega), if_neg (by omega), if_neg (by omega), if_pos e] at h0 h1
    refine ⟨fun z => ?_, fun z => ?_⟩
    · rw [if_neg (ne (k := 0) (by omega) (by omega) z)] at h0
      exact h0 rfl p hR
    · rw [if_pos (eq (k := 0) (by omega) (by omega) z)] at h0 h1
      cases hb : ix B (nI (t % 10)) with
      | none => exact M_no_f (by omega) (ix_none (by omega) hb) ⟨fun _ => h0 (by simp only [aSlit, hb]) p hR, fun q => absurd q (by decide)⟩
      | some b =>
        obtain ⟨b1, eb⟩ := ix_some hb
        simp only [aSlit, hb] at h0 h1
        rw [eb]
        have h9 := hW.2.2.1 b
        refine M_no_t b1 (by omega) ⟨fun q => absurd rfl q, fun _ => ⟨vin (by omega) (by omega), ?_⟩⟩
        rw [nI_clamp (by omega), hR.2.2.2.2.2.1 b (by omega)]
        refine M_marches hW hR hso _ h9 (fun e => ⟨fun _ => h0 ?_ p hR, fun q => absurd rfl q⟩) (fun d' e p' hp => ⟨fun q => absurd q (by decide), fun _ => h1 d' ?_ p' hp⟩)
        · by_cases f : (dpl d b).length = 0
          · rw [if_pos f]
          · have hr : rg 1 9 (nI (dpl d b).length) = some (dpl d b).length := by
              unfold rg
              rw [nI_toInt (by omega), if_pos ⟨by omega, by omega⟩]
              rfl
            simp only [aMarch, ix_nI (show B < 2 ^ 31 by omega) b1, hr] at e
            rw [if_neg (by omega)] at e
            cases e
        · by_cases f : (dpl d b).length = 0
          · have : rg 1 9 (nI 0) = none := by decide
            simp only [aMarch, ix_nI (show B < 2 ^ 31 by omega) b1, f, this] at e
            cases e
          · have hr : rg 1 9 (nI (dpl d b).length) = some (dpl d b).length := by
              unfold rg
              rw [nI_toInt (by omega), if_pos ⟨by omega, by omega⟩]
              rfl
            simp only [aMarch, ix_nI (show B < 2 ^ 31 by omega) b1, hr] at e
            rw [if_neg (by omega), slit_same] at e
            rw [if_neg f]; exact e
  · have e := eq (k := 5) (by omega) (by omega) q5
    rw [if_neg (by omega), if_neg (by omega), if_neg (by omega), if_neg (by omega), if_neg (by omega), if_pos e] at h0 h1
    refine ⟨fun z => ?_, fun z => ?_⟩
    · rw [if_neg (ne (k := 0) (by omega) (by omega) z)] at h0
      exact h0 rfl p hR
    · rw [if_pos (eq (k := 0) (by omega) (by omega) z)] at h0 h1
      exact M_falls hW hR _ (fun e p' hp => ⟨fun _ => h0 e p' hp, fun q => absurd rfl q⟩) (fun d' e p' hp => ⟨fun q => absurd q (by decide), fun _ => h1 d' e p' hp⟩)
  · have d1 := ne (k := 1) (by omega) (by omega) n1
    have d2 := ne (k := 2) (by omega) (by omega) n2
    have d3 := ne (k := 3) (by omega) (by omega) n3
    have d4 := ne (k := 4) (by omega) (by omega) n4
    have d5 := ne (k := 5) (by omega) (by omega) n5
    have d6 := ne (k := 6) (by omega) (by omega) n6
    have d0 := ne (k := 0) (by omega) (by omega) nz
    rw [if_neg (by omega), if_neg d1, if_neg d2, if_neg d3, if_neg d4, if_neg d5, if_neg d6] at h0
    exact h0 rfl p hR
  · have e := eq (k := 6) (by omega) (by omega) q6
    rw [if_neg (by omega), if_neg (by omega), if_neg (by omega), if_neg (by omega), if_neg (by omega), if_neg (by omega), if_pos e] at h0 h1
    cases hm : ix M (nI (t / 10 % 10)) with
    | none =>
      rw [hm] at h0
      exact M_noM_f (by omega) (ix_none (by omega) hm) ⟨fun _ => h0 rfl p hR, fun q => absurd q (by decide)⟩
    | some m =>
      rw [hm] at h0 h1
      obtain ⟨m1, em⟩ := ix_some hm
      rw [em]
      have h99 := hW.2.2.2.2.2.2 m
      refine M_noM_t m1 (by omega) ⟨fun q => absurd rfl q, fun _ => ?_⟩
      rw [show (30 : Int32) + nI m = nI (30 + m) from nI_add 30 m, nI_clamp (by omega), hR.2.2.1 m (by omega)]
      exact ⟨vin (by omega) (by omega), pk_lt (dsd d m) (t % 10) (fun z => h0 (if_pos z) p hR) (fun z => h1 d (if_neg (by omega)) p hR)⟩
  · have e := eq (k := 0) (by omega) (by omega) z
    rw [if_pos e] at h1
    exact M_goDay hW hR hso hki (fun p' hp => h1 _ rfl p' hp)
end DO
/-- which doing a lot is -/
def lotT (x : Nat) : Nat := if x < 15 then 100 + 10 * (x / 3) + x % 3 else if x < 30 then 250 + 10 * (x / 3) + x % 3 else if x < 33 then 201 + 10 * (x - 30) else 0
theorem C_tryLot {B M : Nat} {d : Dy} {c : Nat → Int32} {kb km : Nat → Nat} {bk mk : Nat → Int32} (hW : WF B M d) (hR : RC d c) (hbk : SK B kb bk) (hmk : SK M km mk) {x : Nat} (hx : x < 40) {post : (Nat → Int32) → Prop} (h : ∀ c', RC ((doing kb km B M d (lotT x)).getD d) c' → post c') : wpX6_tryLot (nI B) (nI M) bk mk c (nI x) post := by
  refine pk_le 15 x (fun q1 => pk_le 30 x (fun q2 => pk_le 33 x (fun q3 => ?_) (fun q3 => ?_)) (fun q2 => ?_)) (fun q1 => ?_)
  · have e : doing kb km B M d (lotT x) = some (opDay kb km B M d) := by
      rw [show lotT x = 0 by unfold lotT; rw [if_neg (by omega), if_neg (by omega), if_neg (by omega)]]
      rfl
    rw [e] at h
    exact C_passDay hW hR hbk hmk h
  · have e : doing kb km B M d (lotT x) = (aMarch kb B d (nI (x - 30)) (nI 1)).2 := by
      have e1 : lotT x = 201 + 10 * (x - 30) := by unfold lotT; rw [if_neg (by omega), if_neg (by omega), if_pos (by omega)]
      unfold doing
      rw [e1, if_neg (by omega), if_neg (by omega), if_pos (by omega), show (201 + 10 * (x - 30)) / 10 % 10 = x - 30 by omega, show (201 + 10 * (x - 30)) % 10 = 1 by omega]
    rw [e] at h
    rw [show nI x - (30 : Int32) = nI (x - 30) from pk_sub (b := 30) (by omega)]
    exact C_playBreaths hW hR hbk _ _ h
  · have e : doing kb km B M d (lotT x) = (aClaim kb B M d (nI ((x - 15) / 3)) (nI ((x - 15) % 3))).2 := by
      have e1 : lotT x = 250 + 10 * (x / 3) + x % 3 := by unfold lotT; rw [if_neg (by omega), if_pos (by omega)]
      unfold doing
      rw [e1, if_neg (by omega), if_neg (by omega), if_neg (by omega), if_pos (by omega), show (250 + 10 * (x / 3) + x % 3) / 10 % 10 = (x - 15) / 3 by omega, show (250 + 10 * (x / 3) + x % 3) % 10 = (x - 15) % 3 by omega]
    rw [e] at h
    rw [show nI x - (15 : Int32) = nI (x - 15) from pk_sub (b := 15) (by omega), show nI (x - 15) - nI (x - 15) / (3 : Int32) * (3 : Int32) = nI ((x - 15) % 3) from pk_rem (d := 3) (by omega) (by omega) (by omega), show nI (x - 15) / (3 : Int32) = nI ((x - 15) / 3) from pk_div (d := 3) (by omega) (by omega) (by omega)]
    exact C_takeBack hW hR hbk _ _ h
  · have e : doing kb km B M d (lotT x) = (aGive B M d (nI (x / 3)) (nI (x % 3))).2 := by
      have e1 : lotT x = 100 + 10 * (x / 3) + x % 3 := by unfold lotT; rw [if_pos (by omega)]
      unfold doing
      rw [e1, if_neg (by omega), if_pos (by omega), show (100 + 10 * (x / 3) + x % 3) / 10 % 10 = x / 3 by omega, show (100 + 10 * (x / 3) + x % 3) % 10 = x % 3 by omega]
    rw [e] at h
    rw [show nI x - nI x / (3 : Int32) * (3 : Int32) = nI (x % 3) from pk_rem (d := 3) (by omega) (by omega) (by omega), show nI x / (3 : Int32) = nI (x / 3) from pk_div (d := 3) (by omega) (by omega) (by omega)]
    exact C_giveBreath hW hR _ _ h
def lotOf (y : Int64) : Int32 := ((y.toUInt64 >>> ((33 : Int32).toInt64.toUInt64 &&& Int64.toUInt64 63)).toInt64 - (y.toUInt64 >>> ((33 : Int32).toInt64.toUInt64 &&& Int64.toUInt64 63)).toInt64 / (40 : Int64) * (40 : Int64)).toInt32
theorem lotOf_lt (y : Int64) : ∃ x, x < 40 ∧ lotOf y = nI x := by
  obtain ⟨n, hn, rfl⟩ := wb_of y
  have e := wb_shr (k := 33) hn (by omega)
  have h31 : n / 2 ^ 33 < 2 ^ 31 := by omega
  refine ⟨n / 2 ^ 33 % 40, by omega, ?_⟩
  unfold lotOf
  rw [show ((lN n).toUInt64 >>> ((33 : Int32).toInt64.toUInt64 &&& Int64.toUInt64 63)).toInt64 = lN (n / 2 ^ 33) from e, show lN (n / 2 ^ 33) - lN (n / 2 ^ 33) / (40 : Int64) * (40 : Int64) = lN (n / 2 ^ 33 % 40) from pk_lRem (b := 40) (by omega) (by omega) (by omega), lN_i]
/-- doings one behind another: the place of the first that can't be -/
def jrun (f : Dy → Nat → Option Dy) (ts : Nat → Nat) : Nat → Nat → Dy → Int32
  | 0, _, _ => -9
  | k + 1, i, d => match f d (ts i) with
    | none => nI i
    | some d' => jrun f ts k (i + 1) d'
def total (B : Nat) (d : Dy) : Nat := sm (fun b => (dpl d b).length) B
def yrun (kb km : Nat → Nat) (B M : Nat) : Nat → Int64 → Dy → Int32 → Int32 × Int64
  | 0, s, _, v => (v, s)
  | k + 1, s, d, v => yrun kb km B M k (s * 6364136223846793005 + 1442695040888963407) ((doing kb km B M d (lotT (lotOf (s * 6364136223846793005 + 1442695040888963407)).toInt.toNat)).getD d) (v + nI (total B ((doing kb km B M d (lotT (lotOf (s * 6364136223846793005 + 1442695040888963407)).toInt.toNat)).getD d)))
theorem wf_doing2 {B M : Nat} {d : Dy} {kb km : Nat → Nat} {t : Nat} (hW : WF B M d) : WF B M ((doing kb km B M d t).getD d) := by
  cases h : doing kb km B M d t with
  | none => exact hW
  | some d' => exact wf_doing hW h
theorem M_longPower {k : Nat} (hk : k ≤ 4) {post : Int64 → Prop} (h : post (lN (1000 ^ k))) : wpX7_longPower (1000 : Int64) (nI k) post := by
  refine for_up (P := fun n i => wpX7_longPower_L5 (1000 : Int64) (nI k) post n (lN (1000 ^ i)) (nI i)) k ?_ ?_ 0 (by omega)
  · intro n; exact ⟨fun _ => h, fun q => absurd (Int32.le_refl _) q⟩
  · intro n i hi kk
    refine ⟨fun q => absurd q (nI_ge hi (by omega)), fun _ => ?_⟩
    rw [show lN (1000 ^ i) * (1000 : Int64) = lN (1000 ^ i * 1000) from lN_mul _ 1000, ← Nat.pow_succ, show nI i + (1 : Int32) = nI (i + 1) from nI_1 i]
    rintro _ rfl _ rfl
    exact kk
