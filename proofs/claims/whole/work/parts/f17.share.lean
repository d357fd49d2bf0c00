/-! shares and chances -/
def fac : Nat → Nat
  | 0 => 1
  | n + 1 => (n + 1) * fac n
def pop (f : Nat) : Nat := sm (bitN f) 5
theorem kvfac_eq : ∀ n, n < 6 → kvfac n = nI (fac n) := by decide +kernel
theorem fac_b : ∀ n, n < 6 → 0 < fac n ∧ fac n ≤ 120 := by decide +kernel
theorem fac_4 : ∀ n, n < 5 → fac n ≤ 24 := by decide +kernel
theorem pop_le (f : Nat) : pop f ≤ 5 := by have := sm_le (f := bitN f) (c := 1) (n := 5) (fun k _ => bitN_le f k); unfold pop; omega
def bcx (x0 : Int32) : Int32 :=
  let y_1 : Int32 := (x0 - ((x0.toUInt32 >>> ((1 : Int32).toUInt32 &&& Int32.toUInt32 31)).toInt32 &&& (1431655765 : Int32)))
  let y_2 : Int32 := ((y_1 &&& (858993459 : Int32)) + ((y_1.toUInt32 >>> ((2 : Int32).toUInt32 &&& Int32.toUInt32 31)).toInt32 &&& (858993459 : Int32)))
  let y_3 : Int32 := ((y_2 + (y_2.toUInt32 >>> ((4 : Int32).toUInt32 &&& Int32.toUInt32 31)).toInt32) &&& (252645135 : Int32))
  let y_4 : Int32 := (y_3 + (y_3.toUInt32 >>> ((8 : Int32).toUInt32 &&& Int32.toUInt32 31)).toInt32)
  let y_5 : Int32 := (y_4 + (y_4.toUInt32 >>> ((16 : Int32).toUInt32 &&& Int32.toUInt32 31)).toInt32)
  (y_5 &&& (63 : Int32))
theorem bc_eq : ∀ f, f < 32 → bcx (nI f) = nI (pop f) := by decide +kernel
theorem C_bitCount {f : Nat} (hf : f < 32) {post : Int32 → Prop} (h : post (nI (pop f))) : wpJ6_bitCount_0f7a4 (nI f) post := by
  rw [← bc_eq f hf] at h
  rintro _ rfl _ rfl _ rfl _ rfl _ rfl
  exact h
theorem C_factorial {n : Nat} (hn : n < 6) {post : Int32 → Prop} (h : post (nI (fac n))) : wpX4_factorial (nI n) post := by
  refine ⟨fun q => absurd q (nI_pos (by omega)), fun _ => ⟨fun q => absurd q (nI_ge (b := 6) hn (by omega)), fun _ => ⟨vin hn (by omega), ?_⟩⟩⟩
  rw [nI_clamp (by omega), kvfac_eq n hn]; exact h
theorem gcd_step (w : Nat) {r : Nat} : Nat.gcd r (w % r) = Nat.gcd w r := by rw [Nat.gcd_comm w r, Nat.gcd_rec r w, Nat.gcd_comm]
theorem mod_half {r s : Nat} (h0 : 0 < s) (h : s < r) : 2 * (r % s) < r := by
  have h1 := Nat.mod_lt r h0
  have h2 := Nat.div_add_mod r s
  have h3 : 0 < r / s := Nat.div_pos (by omega) h0
  have h4 : s ≤ s * (r / s) := Nat.le_mul_of_pos_right s h3
  omega
section TL
variable {x0 x2 : Int64} {x4 : Int32} {kJ : Int64 → Prop} {post : Int32 → Prop}
theorem told_stop {w i n : Nat} (h : kJ (lN w)) : wpX4_told_L9 x0 x2 x4 kJ post (n + 1) (lN w) (lN 0) (nI i) := ⟨fun _ => h, fun _ => ⟨fun _ => h, fun q => absurd (show lg_cmp (lN 0) 0 = 0 by decide) q⟩⟩
theorem told_step {w r i n : Nat} (hw : w < 2 ^ 31) (hr : r < 2 ^ 31) (h0 : 0 < r) (hi : i < 64) (h : wpX4_told_L9 x0 x2 x4 kJ post n (lN r) (lN (w % r)) (nI (i + 1))) : wpX4_told_L9 x0 x2 x4 kJ post (n + 1) (lN w) (lN r) (nI i) := by
  refine ⟨fun q => absurd q (nI_ge (b := 64) hi (by omega)), fun _ => ⟨fun q => ?_, fun _ => ⟨fun q => ?_, ?_⟩⟩⟩
  · have := (lgc_gt (lN r) 0).mpr ((pk_lLT (a := 0) (by omega) (by omega)).mpr h0)
    rw [q] at this
    exact absurd this (by decide)
  · exact absurd ((lN_eq (b := 0) hr (by omega)).mp q) (by omega)
  · rintro _ rfl _ rfl
    rw [pk_lRem (by omega) h0 (by omega), show nI i + (1 : Int32) = nI (i + 1) from nI_1 i]; exact h
theorem told_loop : ∀ (k w r i n : Nat), w < 2 ^ 31 → r < 2 ^ k → k ≤ 30 → i + 2 * k ≤ 64 → kJ (lN (Nat.gcd w r)) → wpX4_told_L9 x0 x2 x4 kJ post (2 * k + 1 + n) (lN w) (lN r) (nI i)
  | 0, w, r, i, n, hw, hr, _, _, h => by
    have hr0 : r = 0 := by simpa using hr
    subst hr0
    rw [Nat.gcd_zero_right] at h
    rw [show 2 * 0 + 1 + n = n + 1 by omega]
    exact told_stop h
  | k + 1, w, r, i, n, hw, hr, hk, hi, h => by
    have hk2 : 2 ^ (k + 1) ≤ 2 ^ 30 := Nat.pow_le_pow_right (by omega) hk
    have hk3 : 2 ^ (k + 1) = 2 * 2 ^ k := by rw [Nat.pow_succ, Nat.mul_comm]
    rw [show 2 * (k + 1) + 1 + n = (2 * k + 1 + n) + 1 + 1 by omega]
    rcases Nat.eq_zero_or_pos r with rfl | hp
    · rw [Nat.gcd_zero_right] at h
      exact told_stop h
    · refine told_step hw (by omega) hp (by omega) ?_
      have hs := Nat.mod_lt w hp
      rw [← gcd_step] at h
      rcases Nat.eq_zero_or_pos (w % r) with e | e
      · rw [e] at h ⊢
        rw [Nat.gcd_zero_right] at h
        exact told_stop h
      · have hh := mod_half e hs
        rw [← gcd_step] at h
        exact told_step (by omega) (by omega) e (by omega) (told_loop k _ _ _ n (by omega) (by omega) (by omega) (by omega) h)
end TL
def tld (a b : Nat) (u : Int32) : Int32 := nI ((if u = 0 then b else a) / Nat.gcd a b)
theorem C_told {a b : Nat} (ha : a < 2 ^ 30) (hb : 0 < b) (hb2 : b < 2 ^ 30) {u : Int32} {post : Int32 → Prop} (h : post (tld a b u)) : wpX4_told (lN a) (lN b) u post := by
  refine ⟨_, told_loop 30 b a 0 0 (by omega) ha (by omega) (by omega) ?_⟩
  have hg : 0 < Nat.gcd b a := Nat.gcd_pos_of_pos_left a hb
  have hg2 : Nat.gcd b a ≤ b := Nat.le_of_dvd hb (Nat.gcd_dvd_left b a)
  have J : ∀ f, f < 2 ^ 30 → f = (if u = 0 then b else a) → wpX4_told_J54 (lN a) (lN b) u post (lN (Nat.gcd b a)) (lN f) := by
    intro f hf ef
    refine ⟨fun _ => ⟨fun q => absurd ((lN_eq (b := 0) (by omega) (by omega)).mp q) (by omega), ?_⟩, fun q => ?_⟩
    · rw [pk_lDiv (by omega) hg (by omega), lN_i, ef, Nat.gcd_comm b a]; exact h
    · have := (lgc_gt (lN (Nat.gcd b a)) 0).mpr ((pk_lLT (a := 0) (by omega) (by omega)).mpr hg)
      rw [q] at this
      exact absurd this (by decide)
  exact ⟨fun q => J b hb2 (by rw [if_pos q]), fun q => J a ha (by rw [if_neg q])⟩
theorem M_divL {x0 x1 : Int32} {post : Int32 → Prop} : ∀ (q p : Nat), p < 2 ^ 31 → q < 2 ^ 31 → post (nI (Nat.gcd p q)) → ∃ n, wpX7_divisor_L13 x0 x1 post n (nI p) (nI q) := by
  intro q
  induction q using Nat.strongRecOn with
  | _ q ih =>
    intro p hp hq h
    rcases Nat.eq_zero_or_pos q with rfl | h0
    · rw [Nat.gcd_zero_right] at h
      exact ⟨1, fun _ => h, fun z => absurd rfl z⟩
    · have hs := Nat.mod_lt p h0
      rw [← gcd_step] at h
      obtain ⟨n, hn⟩ := ih (p % q) hs q hq (by omega) h
      refine ⟨n + 1, fun z => absurd ((nI_eq (b := 0) hq (by omega)).mp z) (by omega), fun _ => ⟨fun z => absurd ((nI_eq (b := 0) hq (by omega)).mp z) (by omega), ?_⟩⟩
      rintro _ rfl
      rw [pk_rem hp h0 hq]; exact hn
theorem M_fraction {a b : Nat} (ha : a < 2 ^ 30) (hb : 0 < b) (hb2 : b < 2 ^ 30) {u : Int32} {post : Int32 → Prop} (h : post (tld a b u)) : wpX7_fraction (nI a) (nI b) u post := by
  have hg : 0 < Nat.gcd a b := Nat.gcd_pos_of_pos_right a hb
  have hg2 : Nat.gcd a b ≤ b := Nat.le_of_dvd hb (Nat.gcd_dvd_right a b)
  refine ⟨fun _ => M_divL b a (by omega) (by omega) ⟨fun q => ⟨fun z => absurd ((nI_eq (b := 0) (by omega) (by omega)).mp z) (by omega), ?_⟩, fun q => ⟨fun z => absurd ((nI_eq (b := 0) (by omega) (by omega)).mp z) (by omega), ?_⟩⟩, fun q => absurd (nI_le (a := 0) (by omega) (by omega)) q⟩
  · unfold tld at h
    rw [if_pos q] at h
    rw [pk_div (by omega) hg (by omega)]; exact h
  · unfold tld at h
    rw [if_neg q] at h
    rw [pk_div (by omega) hg (by omega)]; exact h
theorem M_many {f : Nat} (hf : f < 2 ^ 31) {post : Int32 → Prop} (h : post (nI (pop f))) : wpX7_many (nI f) post := by
  refine for_up (P := fun n i => wpX7_many_L4 (nI f) post n (nI (sm (bitN f) i)) (nI i)) 5 ?_ ?_ 0 (by omega)
  · intro n; exact ⟨fun _ => h, fun q => absurd (show (5 : Int32) ≤ nI 5 by decide) q⟩
  · intro n i hi k
    refine ⟨fun q => absurd q (nI_ge (b := 5) hi (by omega)), fun _ => ?_⟩
    rintro _ rfl _ rfl
    rw [bit_expr hf (by omega), nI_add, show nI i + (1 : Int32) = nI (i + 1) from nI_1 i]; exact k
theorem M_power {a n : Nat} (hn : n < 2 ^ 30) {post : Int32 → Prop} (h : post (nI (a ^ n))) : wpX7_power (nI a) (nI n) post := by
  refine for_up (P := fun f i => wpX7_power_L4 (nI a) (nI n) post f (nI (a ^ i)) (nI i)) n ?_ ?_ 0 (by omega)
  · intro f; exact ⟨fun _ => h, fun q => absurd (Int32.le_refl _) q⟩
  · intro f i hi k
    refine ⟨fun q => absurd q (nI_ge hi (by omega)), fun _ => ?_⟩
    rintro _ rfl _ rfl
    rw [pk_mul, ← Nat.pow_succ, show nI i + (1 : Int32) = nI (i + 1) from nI_1 i]; exact k
theorem M_ways {n : Nat} (hn : n < 2 ^ 30) {post : Int32 → Prop} (h : post (nI (fac n))) : wpX7_ways (nI n) post := by
  refine for_up (P := fun f i => wpX7_ways_L4 (nI n) post f (nI (fac (i + 1))) (nI (i + 2))) (n - 1) ?_ ?_ 0 (by omega)
  · intro f
    refine ⟨fun _ => ?_, fun q => absurd (nI_lt (by omega) (by omega)) q⟩
    have : fac (n - 1 + 1) = fac n := by
      rcases Nat.eq_zero_or_pos n with z | z
      · rw [z]; rfl
      · rw [show n - 1 + 1 = n by omega]
    rw [this]; exact h
  · intro f i hi k
    refine ⟨fun q => absurd q (nI_nlt (by omega) (by omega)), fun _ => ?_⟩
    rintro _ rfl _ rfl
    rw [fac] at k
    rw [pk_mul, Nat.mul_comm (fac (i + 1)), show nI (i + 2) + (1 : Int32) = nI (i + 2 + 1) from nI_1 _]; exact k
/-- breaths of those in the set -/
def tf (B : Nat) (d : Dy) (f : Nat) : Nat := sm (fun b => ls (bitN f) (dpl d b)) B
theorem tf_le {B M : Nat} {d : Dy} (hW : WF B M d) (f : Nat) : tf B d f ≤ 27 := by
  have h1 := hW.1
  have h2 := sm_le (f := fun b => ls (bitN f) (dpl d b)) (c := 9) (n := B) (fun k _ => Nat.le_trans (ls_le (bitN_le f) _) (hW.2.2.1 k))
  unfold tf; omega
theorem sm_addw {f g h : Nat → Nat} : ∀ {n : Nat}, (∀ k, k < n → h k = f k + g k) → sm h n = sm f n + sm g n
  | 0, _ => rfl
  | n + 1, e => by rw [sm, sm, sm, sm_addw (fun k hk => e k (by omega)), e n (by omega)]; omega
theorem bit_or : ∀ f, f < 32 → ∀ m, m < 5 → bitN f m = 0 → ∀ x, x < 5 → bitN (f ||| 2 ^ m) x = bitN f x + bitN (2 ^ m) x := by decide +kernel
theorem tf_or {B M : Nat} {d : Dy} (hW : WF B M d) {f m : Nat} (hf : f < 32) (hm : m < 5) (h0 : bitN f m = 0) : tf B d (f ||| 2 ^ m) = tf B d f + tf B d (2 ^ m) := by
  have h5 := hW.2.1
  exact sm_addw (fun k _ => sm_addw (fun i hi => bit_or f hf m hm h0 _ (by have := hW.own hi; omega)))
theorem pop_lt : ∀ M, M < 6 → ∀ f, f < 2 ^ M → ∀ m, m < M → bitN f m = 0 → pop f + 1 ≤ M := by decide +kernel
theorem pw5 {M : Nat} (h : M ≤ 5) : 2 ^ M ≤ 32 := Nat.pow_le_pow_right (n := 2) (by omega) h
theorem sh1 {M : Nat} (h : M ≤ 5) : (1 : Int32) <<< (nI M &&& 31) = nI (2 ^ M) := by
  have := pw5 h
  rw [show (1 : Int32) <<< (nI M &&& 31) = nI (1 * 2 ^ M) from nI_shl (n := 1) (by omega) (by omega), Nat.one_mul]
def shT (B M : Nat) (d : Dy) (m f : Nat) : Nat := if bitN f m = 1 then 0 else ((tf B d f + tf B d (2 ^ m)) / 4 - tf B d f / 4) * fac (pop f) * fac (M - 1 - pop f)
theorem shT_le {B M : Nat} {d : Dy} (hW : WF B M d) {m f : Nat} (hm : m < M) (hf : f < 2 ^ M) : shT B M d m f ≤ 13 * 24 * 24 := by
  have h1 := tf_le hW f
  have h2 := tf_le hW (2 ^ m)
  have h5 := hW.2.1
  unfold shT
  split
  · exact Nat.zero_le _
  · next q =>
    have hp := pop_lt M (by omega) f hf m hm (bit0 q)
    exact Nat.mul_le_mul (Nat.mul_le_mul (by omega) (fac_4 _ (by omega))) (fac_4 _ (by omega))
theorem C_shareOf {B M : Nat} {d : Dy} {c : Nat → Int32} (hW : WF B M d) (hR : RC d c) {m : Nat} (hm : m < M) {u : Int32} {post : Int32 → Prop} (h : post (tld (sm (shT B M d m) (2 ^ M)) (fac M) u)) : wpX4_shareOf (nI B) (nI M) c (nI m) u post := by
  have hM := hW.2.1
  have hp5 := pw5 hM
  have hs := sm_le (f := shT B M d m) (c := 13 * 24 * 24) (n := 2 ^ M) (fun k hk => shT_le hW hm hk)
  have hs2 := Nat.mul_le_mul_right (13 * 24 * 24) hp5
  obtain ⟨f1, f2⟩ := fac_b M (by omega)
  refine C_breathsOf hW hR (by omega) ?_
  refine for_up (P := fun n i => wpX4_shareOf_L18 (nI B) (nI M) c (nI m) u (nI M) (nI (tf B d (2 ^ m))) (wpX4_shareOf_J100 (nI B) (nI M) c (nI m) u post) post n (lN (sm (shT B M d m) i)) (nI i)) (2 ^ M) ?_ ?_ 0 (by omega)
  · intro n
    refine ⟨fun _ => C_factorial (by omega) ?_, fun q => absurd (by rw [sh1 hM]; exact Int32.le_refl _) q⟩
    rw [nI_l (by omega)]
    exact C_told (by omega) f1 (by omega) h
  · intro n i hi k
    have e1 : nI i + (1 : Int32) = nI (i + 1) := nI_1 i
    refine ⟨fun q => absurd (by rw [sh1 hM] at q; exact q) (nI_ge hi (by omega)), fun _ => ⟨fun q => ?_, fun q => ?_⟩⟩
    · rw [bit_expr (by omega) (by omega)] at q
      have hq : ¬ bitN i m = 1 := fun z => q (by rw [z]; rfl)
      have hp := pop_lt M (by omega) i hi m hm (bit0 hq)
      have t1 := tf_le hW i
      have t2 := tf_le hW (2 ^ m)
      refine C_breathsOfThese hW hR (by omega) ?_
      rintro _ rfl
      refine C_bitCount (by omega) (C_factorial (by omega) ?_)
      rw [nI_s1 (by omega), pk_sub (by omega)]
      refine C_factorial (by omega) ?_
      obtain ⟨g1, g2⟩ := fac_b (pop i) (by omega)
      obtain ⟨g3, g4⟩ := fac_b (M - 1 - pop i) (by omega)
      have ey : (nI (sm (fun b => ls (bitN i) (dpl d b)) B) + nI (tf B d (2 ^ m))) / (4 : Int32) - nI (sm (fun b => ls (bitN i) (dpl d b)) B) / (4 : Int32) = nI ((tf B d i + tf B d (2 ^ m)) / 4 - tf B d i / 4) := by
        show (nI (tf B d i) + nI (tf B d (2 ^ m))) / nI 4 - nI (tf B d i) / nI 4 = _
        rw [nI_add, pk_div (by omega) (by omega) (by omega), pk_div (by omega) (by omega) (by omega), pk_sub (by omega)]
      rw [ey, nI_l (by omega), nI_l (by omega), nI_l (by omega), lN_mul, lN_mul, lN_add]
      rintro _ rfl _ rfl
      rw [e1]
      rw [sm, show shT B M d m i = ((tf B d i + tf B d (2 ^ m)) / 4 - tf B d i / 4) * fac (pop i) * fac (M - 1 - pop i) by unfold shT; rw [if_neg hq]] at k
      exact k
    · rw [bit_expr (by omega) (by omega)] at q
      have hb1 := bitN_le i m
      have hq : bitN i m = 1 := (nI_eq (b := 1) (by omega) (by omega)).mp q
      rintro _ rfl
      rw [e1]
      rw [sm, show shT B M d m i = 0 by unfold shT; rw [if_pos hq], Nat.add_zero] at k
      exact k
theorem M_shareL {B M : Nat} {d : Dy} {p : Nat → Int32} (hW : WF B M d) (hR : RM d p) {m : Nat} (hm : m < M) {u : Int32} {v0 : Nat → Int32} {post : Int32 → Int32 → (Nat → Int32) → Prop} (h : ∀ v, post (tld (sm (shT B M d m) (2 ^ M)) (fac M) u) 0 v) : wpX7_share_E17 (nI M) p (nI m) u post 0 v0 0 := by
  have hM := hW.2.1
  have hp5 := pw5 hM
  have hs := sm_le (f := shT B M d m) (c := 13 * 24 * 24) (n := 2 ^ M) (fun k hk => shT_le hW hm hk)
  have hs2 := Nat.mul_le_mul_right (13 * 24 * 24) hp5
  obtain ⟨f1, f2⟩ := fac_b M (by omega)
  refine pk_loop (fun n i v => wpX7_share_L17 (nI M) p (nI m) u 0 (wpX7_share_J91 (nI M) p (nI m) u post) post n v (nI i)) (fun i v => ∀ j, j < i → v j = nI (tf B d j / 4)) (2 ^ M) 0 v0 (by omega) (fun j hj => absurd hj (Nat.not_lt_zero j)) ?_ ?_
  · intro n v hv
    refine ⟨fun _ => ?_, fun q => absurd (by rw [sh1 hM]; exact Int32.le_refl _) q⟩
    refine for_up (P := fun n i => wpX7_share_L96 (nI M) p (nI m) u 0 v (wpX7_share_J170 (nI M) p (nI m) u post) post n (nI (sm (shT B M d m) i)) (nI i)) (2 ^ M) ?_ ?_ 0 (by omega)
    · intro n
      exact ⟨fun _ => M_ways (by omega) (M_fraction (by omega) f1 (by omega) (h v)), fun q => absurd (by rw [sh1 hM]; exact Int32.le_refl _) q⟩
    · intro n i hi k
      have e1 : nI i + (1 : Int32) = nI (i + 1) := nI_1 i
      refine ⟨fun q => absurd (by rw [sh1 hM] at q; exact q) (nI_ge hi (by omega)), fun _ => M_has (by omega) (by omega) ?_⟩
      have hb1 := bitN_le i m
      by_cases hq : bitN i m = 1
      · rw [hq]
        refine ⟨fun _ => ?_, fun z => absurd z (by decide)⟩
        rintro _ rfl
        rw [e1]
        rw [sm, show shT B M d m i = 0 by unfold shT; rw [if_pos hq], Nat.add_zero] at k
        exact k
      · rw [bit0 hq]
        have hp := pop_lt M (by omega) i hi m hm (bit0 hq)
        have t1 := tf_le hW i
        have t2 := tf_le hW (2 ^ m)
        refine ⟨fun z => absurd rfl z, fun _ => M_many (by omega) (M_ways (by omega) ?_)⟩
        rw [nI_s1 (by omega), pk_sub (by omega)]
        refine M_ways (by omega) ?_
        have h2m : 2 ^ m < 2 ^ M := Nat.pow_lt_pow_right (by omega) hm
        have hor : i ||| 2 ^ m < 2 ^ M := Nat.or_lt_two_pow hi h2m
        have esh : (1 : Int32) <<< (nI m &&& 31) = nI (2 ^ m) := sh1 (by omega)
        rw [esh, nI_or, nI_clamp (by omega), nI_clamp (by omega), hv _ hor, hv _ hi, tf_or hW (by omega) (by omega) (bit0 hq), pk_sub (by omega), pk_mul, pk_mul, nI_add]
        refine ⟨vin (by omega) (by omega), vin (by omega) (by omega), ?_⟩
        rintro _ rfl _ rfl
        rw [e1, Nat.mul_comm (fac (pop i) * fac (M - 1 - pop i)), ← Nat.mul_assoc]
        rw [sm, show shT B M d m i = ((tf B d i + tf B d (2 ^ m)) / 4 - tf B d i / 4) * fac (pop i) * fac (M - 1 - pop i) by unfold shT; rw [if_neg hq]] at k
        exact k
  · intro n i v hi hv k
    refine ⟨fun q => absurd (by rw [sh1 hM] at q; exact q) (nI_ge hi (by omega)), fun _ => ?_⟩
    refine for_up (P := fun n2 j => wpX7_share_L33 (nI M) p (nI m) u 0 v (nI i) (wpX7_share_J75 (nI M) p (nI m) u 0 (wpX7_share_L17 (nI M) p (nI m) u 0 (wpX7_share_J91 (nI M) p (nI m) u post) post n) post) post n2 (nI (sm (fun o => if bitN i o = 1 then all3 d o else 0) j)) (nI j)) M ?_ ?_ 0 (by omega)
    · intro n2
      refine ⟨fun _ => ?_, fun q => absurd (Int32.le_refl _) q⟩
      rw [left_eq hW i]
      have t1 := tf_le hW i
      refine ⟨vin (by omega) (by omega), ?_⟩
      rintro _ rfl _ rfl
      rw [nI_clamp (by omega), show nI (sm (fun b => ls (bitN i) (dpl d b)) B) / (4 : Int32) = nI (tf B d i / 4) from pk_div (a := tf B d i) (d := 4) (by omega) (by omega) (by omega), show nI i + (1 : Int32) = nI (i + 1) from nI_1 i]
      refine k _ (fun j hj => ?_)
      rcases Nat.lt_or_ge j i with z | z
      · rw [pk_un (by omega)]; exact hv j z
      · rw [show j = i by omega, pk_us]
    · intro n2 j hj k2
      have e1 : nI j + (1 : Int32) = nI (j + 1) := nI_1 j
      refine ⟨fun q => absurd q (nI_ge hj (by omega)), fun _ => M_has (by omega) (by omega) ?_⟩
      by_cases hq : bitN i j = 1
      · rw [hq]
        refine ⟨fun z => absurd z (by decide), fun _ => M_allOf hW hR (by omega) ?_⟩
        rintro _ rfl _ rfl
        rw [sm, if_pos hq] at k2
        rw [e1, nI_add]; exact k2
      · rw [bit0 hq]
        refine ⟨fun _ => ?_, fun z => absurd rfl z⟩
        rintro _ rfl _ rfl
        rw [sm, if_neg hq] at k2
        rw [e1, show nI (sm (fun o => if bitN i o = 1 then all3 d o else 0) j) + (0 : Int32) = nI (sm (fun o => if bitN i o = 1 then all3 d o else 0) j + 0) from nI_add _ 0]; exact k2
section OB
variable {c_text_letters : Nat → Int32} {c_text_length : Int32} {c_now_bags : Int32} {c_now_men : Int32} {c_now_bagKinds : Nat → Int32} {c_now_manKinds : Nat → Int32} {c_now_cells : Nat → Int32} {c_trial_bags : Int32} {c_trial_men : Int32} {c_trial_bagKinds : Nat → Int32} {c_trial_manKinds : Nat → Int32} {c_trial_cells : Nat → Int32} {c_past_rows : Nat → Int32} {c_past_next : Int32} {c_past_count : Int32} {c_slots_rows : Nat → Int32} {c_slots_keptBits : Int32} {c_felt_men : Nat → Int32} {c_felt_bags : Nat → Int32} {c_felt_lengths : Nat → Int32} {c_felt_played : Nat → Int32} {c_felt_count : Int32} {c_chance : Int64} {m_thrown : Int32} {m_text : Nat → Int32} {m_textSize : Int32} {m_place : Int32} {m_bags : Int32} {m_sort : Nat → Int32} {m_men : Int32} {m_kind : Nat → Int32} {m_readBags : Int32} {m_readSort : Nat → Int32} {m_readMen : Int32} {m_readMan : Nat → Int32} {m_readPage : Nat → Int32} {m_page : Nat → Int32} {m_trial : Nat → Int32} {m_book : Nat → Int32} {m_acts : Int32} {m_kept : Nat → Int32} {m_isKept : Nat → Int32} {m_felt : Int32} {m_feltMan : Nat → Int32} {m_feltBag : Nat → Int32} {m_feltMany : Nat → Int32} {m_feltIs : Nat → Int32} {m_seed : Int64} {m_routeFew : Int32} {m_routeWay : Int32} {m_whichMany : Int32} {m_whichFirst : Int32} {m_restMany : Int32} {m_restFirst : Int32} {m_gains : Nat → Int32} {m_value : Nat → Int32}
set_option maxRecDepth 20000 in
set_option maxHeartbeats 2000000 in
theorem O_share (hR : Rel c_text_letters c_text_length c_now_bags c_now_men c_now_bagKinds c_now_manKinds c_now_cells c_trial_bags c_trial_men c_trial_bagKinds c_trial_manKinds c_trial_cells c_past_rows c_past_next c_past_count c_slots_rows c_slots_keptBits c_felt_men c_felt_bags c_felt_lengths c_felt_played c_felt_count c_chance m_thrown m_text m_textSize m_place m_bags m_sort m_men m_kind m_readBags m_readSort m_readMen m_readMan m_readPage m_page m_trial m_book m_acts m_kept m_isKept m_felt m_feltMan m_feltBag m_feltMany m_feltIs m_seed m_routeFew m_routeWay m_whichMany m_whichFirst m_restMany m_restFirst m_gains m_value) (x1 : Int32) (x2 : Int32) : wpX6_share c_now_bags c_now_men c_now_cells x1 x2 (fun r => wpX7_share m_thrown m_men m_page m_value x1 x2 (fun r' m_thrown' m_value' => r = r' ∧ Rel c_text_letters c_text_length c_now_bags c_now_men c_now_bagKinds c_now_manKinds c_now_cells c_trial_bags c_trial_men c_trial_bagKinds c_trial_manKinds c_trial_cells c_past_rows c_past_next c_past_count c_slots_rows c_slots_keptBits c_felt_men c_felt_bags c_felt_lengths c_felt_played c_felt_count c_chance m_thrown' m_text m_textSize m_place m_bags m_sort m_men m_kind m_readBags m_readSort m_readMen m_readMan m_readPage m_page m_trial m_book m_acts m_kept m_isKept m_felt m_feltMan m_feltBag m_feltMany m_feltIs m_seed m_routeFew m_routeWay m_whichMany m_whichFirst m_restMany m_restFirst m_gains m_value')) := by
  obtain ⟨B, M, kb, km, d, h, kp, fe, fn, tx, tn, ⟨hW, rfl, rfl, hbk, hmk, hC, rfl, rfl, hso, hki, hM⟩, ⟨hh, hcp, hmp⟩, hS, hF, hT, hE⟩ := id hR
  have hB3 := hW.1
  have hM5 := hW.2.1
  cases h1 : ix M x1 with
  | none => exact C_isMan_f (by omega) (ix_none (by omega) h1) ⟨fun _ => M_noM_f (by omega) (ix_none (by omega) h1) ⟨fun q => absurd q (by decide), fun _ => ⟨rfl, ⟨B, M, kb, km, d, h, kp, fe, fn, tx, tn, ⟨hW, rfl, rfl, hbk, hmk, hC, rfl, rfl, hso, hki, hM⟩, ⟨hh, hcp, hmp⟩, hS, hF, hT, hE⟩⟩⟩, fun q => absurd rfl q⟩
  | some m =>
    obtain ⟨m1, rfl⟩ := ix_some h1
    exact C_isMan_t m1 (by omega) ⟨fun q => absurd q (by decide), fun _ => C_shareOf hW hC m1 (M_noM_t m1 (by omega) ⟨fun _ => M_shareL hW hM m1 (fun v => ⟨rfl, ⟨B, M, kb, km, d, h, kp, fe, fn, tx, tn, ⟨hW, rfl, rfl, hbk, hmk, hC, rfl, rfl, hso, hki, hM⟩, ⟨hh, hcp, hmp⟩, hS, hF, hT, hE⟩⟩), fun q => absurd rfl q⟩)⟩
end OB
