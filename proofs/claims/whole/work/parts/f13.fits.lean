/-! years, which -/
/-- how many below n, and the first -/
def cntP (p : Nat → Bool) : Nat → Nat
  | 0 => 0
  | n + 1 => cntP p n + if p n then 1 else 0
theorem cntP_le (p : Nat → Bool) : ∀ n, cntP p n ≤ n
  | 0 => Nat.le_refl 0
  | n + 1 => by have := cntP_le p n; rw [cntP]; split <;> omega
def fstV (p : Nat → Bool) (v : Nat → Nat) (n : Nat) : Int32 := match fnd p n with
  | some k => nI (v k)
  | none => -9
theorem cnt0 {p : Nat → Bool} : ∀ {n : Nat}, cntP p n = 0 ↔ fnd p n = none
  | 0 => ⟨fun _ => rfl, fun _ => rfl⟩
  | n + 1 => by
    rw [cntP, fnd]
    cases q : fnd p n with
    | some k =>
      have : ¬ cntP p n = 0 := fun z => by rw [cnt0.mp z] at q; cases q
      constructor
      · intro z; omega
      · intro z; cases z
    | none =>
      have z0 := cnt0.mpr q
      rw [z0]
      by_cases e : p n = true
      · simp [e]
      · simp [e]
theorem fstV_no {p : Nat → Bool} {v : Nat → Nat} {n : Nat} (h : p n = false) : fstV p v (n + 1) = fstV p v n := by
  unfold fstV
  rw [fnd]
  cases q : fnd p n with
  | some k => rfl
  | none => simp [h]
theorem fstV_old {p : Nat → Bool} {v : Nat → Nat} {n : Nat} (h : ¬ cntP p n = 0) : fstV p v (n + 1) = fstV p v n := by
  unfold fstV
  rw [fnd]
  cases q : fnd p n with
  | some k => rfl
  | none => exact absurd (cnt0.mpr q) h
theorem fstV_new {p : Nat → Bool} {v : Nat → Nat} {n : Nat} (h : p n = true) (h0 : cntP p n = 0) : fstV p v (n + 1) = nI (v n) := by
  unfold fstV
  rw [fnd, cnt0.mp h0]
  simp [h]
theorem fstV_9 {p : Nat → Bool} {v : Nat → Nat} {n : Nat} (hv : ∀ k, k < n → v k < 2 ^ 30) : fstV p v n = -9 ↔ cntP p n = 0 := by
  rw [cnt0]
  unfold fstV
  cases q : fnd p n with
  | none => simp
  | some k =>
    have hk := (fnd_lt q).1
    constructor
    · intro z
      have z : nI (v k) = -9 := z
      have : (nI (v k)).toInt = -9 := by rw [z]; decide
      have hv2 := hv k hk
      rw [nI_toInt (by omega)] at this
      omega
    · intro z; cases z
/-- was one of his played: a bag as it is, of that kind, so many days older -/
def pld (d : Dy) (e : Fe) (kind days : Nat) : Nat := bitN (orr (fun k => (dpl d e.2.1).getD (if kind = 1 then (if kind = 2 then days else 0) + k else (dpl d e.2.1).length - 1 - k) 0) (min e.2.2.1 ((dpl d e.2.1).length - (if kind = 2 then days else 0)))) e.1
def fit1 (B M : Nat) (d : Dy) (e : Fe) (q : Nat) : Bool := !(decide (e.1 < M) && decide (e.2.1 < B)) || decide (pld d e (q / 10) (q % 10) = e.2.2.2)
def fitN (B M : Nat) (d : Dy) (fe : Nat → Fe) (q : Nat) : Nat → Bool
  | 0 => true
  | n + 1 => fitN B M d fe q n && fit1 B M d (fe n) q
theorem fitN_f {B M : Nat} {d : Dy} {fe : Nat → Fe} {q : Nat} : ∀ {n i : Nat}, i < n → fit1 B M d (fe i) q = false → fitN B M d fe q n = false
  | 0, i, h, _ => absurd h (Nat.not_lt_zero i)
  | n + 1, i, h, e => by
    rw [fitN]
    rcases Nat.lt_or_ge i n with z | z
    · rw [fitN_f z e]; rfl
    · rw [show n = i by omega, e, Bool.and_false]
theorem bitN_orr {f : Nat → Nat} {n m : Nat} : bitN (orr f n) m = 1 ↔ ∃ k, k < n ∧ f k = m := by
  rw [← orr_bit, Nat.testBit_eq_decide_div_mod_eq, decide_eq_true_eq]
  rfl
theorem C_fits {B M : Nat} {d : Dy} {c c1 c2 c3 c4 m1 m2 m3 m4 : Nat → Int32} {cn mn : Int32} {fe : Nat → Fe} {fn : Nat} (hW : WF B M d) (hR : RC d c) (hF : RFelt fe fn c1 c2 c3 c4 cn mn m1 m2 m3 m4) {kind days : Nat} (hk : kind ≤ 3) (hd : days ≤ 9) {post : Int32 → Prop} (h : post (if fitN B M d fe (10 * kind + days) fn then 1 else 0)) : wpX1_fits c1 c2 c3 c4 cn (nI B) (nI M) c (nI kind) (nI days) post := by
  have hB := hW.1
  have hM := hW.2.1
  obtain ⟨f1, rfl, rfl, f4⟩ := hF
  have go : ∀ g, g = (if kind = 2 then days else 0) → wpX1_fits_J10 c1 c2 c3 c4 (nI fn) (nI B) (nI M) c (nI kind) (nI days) post (nI g) := by
    intro g eg
    have key : ∀ k i, i + k = fn → fitN B M d fe (10 * kind + days) i = true → wpX1_fits_L15 c1 c2 c3 c4 (nI fn) (nI B) (nI M) c (nI kind) (nI days) (nI g) post (k + 1) (nI i) := by
      intro k
      induction k with
      | zero =>
        intro i hi ht
        rw [show fn = i by omega, ht] at h
        exact ⟨fun _ => h, fun q => absurd (nI_le (by omega) (by omega)) q⟩
      | succ k ih =>
        intro i hi ht
        obtain ⟨e1, e2, e3, e4, e5, e6, e7, e8, e9, -⟩ := f4 i (by omega)
        have next : fit1 B M d (fe i) (10 * kind + days) = true → wpX1_fits_J109 c1 c2 c3 c4 (nI fn) (nI B) (nI M) c (nI kind) (nI days) (nI g) (wpX1_fits_L15 c1 c2 c3 c4 (nI fn) (nI B) (nI M) c (nI kind) (nI days) (nI g) post (k + 1)) post (nI i) := by
          intro hf
          rintro _ rfl
          rw [show nI i + (1 : Int32) = nI (i + 1) from nI_1 i]
          exact ih (i + 1) (by omega) (by rw [fitN, ht, hf]; rfl)
        refine ⟨fun q => absurd q (nI_ge (by omega) (by omega)), fun _ => ⟨fun q => absurd q (nI_ge (b := 6) (by omega) (by omega)), fun _ => ?_⟩⟩
        rw [nI_clamp (by omega), e6, e7, e8, e9]
        refine ⟨vin (by omega) (by omega), ?_⟩
        by_cases hm : (fe i).1 < M
        · refine C_isMan_t hm (by omega) ⟨fun q => absurd q (by decide), fun _ => ⟨vin (by omega) (by omega), ?_⟩⟩
          by_cases hb : (fe i).2.1 < B
          · refine C_isBag_t hb (by omega) ⟨fun _ => ⟨vin (by omega) (by omega), vin (by omega) (by omega), ?_⟩, fun q => absurd q (by decide)⟩
            have ho : orr (fun k => (dpl d (fe i).2.1).getD (if kind = 1 then g + k else (dpl d (fe i).2.1).length - 1 - k) 0) (min (fe i).2.2.1 ((dpl d (fe i).2.1).length - g)) < 2 ^ M := orr_lt (fun k hk2 => hW.own (by split <;> omega))
            have h32 : 2 ^ M ≤ 2 ^ 5 := Nat.pow_le_pow_right (by omega) hM
            refine C_playedBitsAs hW hR (by omega) (by omega) (by omega) (by split at eg <;> omega) ⟨vin (by omega) (by omega), vin (by omega) (by omega), ?_⟩
            rw [bit_expr (by omega) (by omega)]
            have ep : bitN (orr (fun k => (dpl d (fe i).2.1).getD (if kind = 1 then g + k else (dpl d (fe i).2.1).length - 1 - k) 0) (min (fe i).2.2.1 ((dpl d (fe i).2.1).length - g))) (fe i).1 = pld d (fe i) ((10 * kind + days) / 10) ((10 * kind + days) % 10) := by
              unfold pld
              rw [show (10 * kind + days) / 10 = kind by omega, show (10 * kind + days) % 10 = days by omega, eg]
            rw [ep]
            have hp1 : pld d (fe i) ((10 * kind + days) / 10) ((10 * kind + days) % 10) ≤ 1 := bitN_le _ _
            refine ⟨fun q => next ?_, fun q => ?_⟩
            · have := (nI_eq (by omega) (by omega)).mp q
              unfold fit1
              rw [decide_eq_true this, Bool.or_true]
            · have hne : ¬ pld d (fe i) ((10 * kind + days) / 10) ((10 * kind + days) % 10) = (fe i).2.2.2 := fun z => q (by rw [z])
              have hff : fit1 B M d (fe i) (10 * kind + days) = false := by
                unfold fit1
                rw [decide_eq_false hne, decide_eq_true hm, decide_eq_true hb]; rfl
              rw [fitN_f (show i < fn by omega) hff] at h
              exact h
          · refine C_isBag_f (by omega) (fun ⟨j, hj, e⟩ => hb ?_) ⟨fun q => absurd rfl q, fun _ => next (by unfold fit1; simp [hb])⟩
            rw [(nI_eq (by omega) (by omega)).mp e]; exact hj
        · refine C_isMan_f (by omega) (fun ⟨j, hj, e⟩ => hm ?_) ⟨fun _ => next (by unfold fit1; simp [hm]), fun q => absurd rfl q⟩
          rw [(nI_eq (by omega) (by omega)).mp e]; exact hj
    exact ⟨_, key fn 0 (by omega) rfl⟩
  refine ⟨fun q => go 0 ?_, fun q => go days ?_⟩
  · rw [if_neg (fun z => q (by rw [z]; rfl))]
  · rw [if_pos ((nI_eq (b := 2) (by omega) (by omega)).mp q)]
theorem M_isPlayed {B M : Nat} {d : Dy} {p : Nat → Int32} (hW : WF B M d) (hR : RM d p) {e : Fe} (he1 : e.1 < 5) (he2 : e.2.1 < B) (he3 : e.2.2.1 ≤ 9) {kind days : Nat} (hk : kind ≤ 3) (hd : days ≤ 9) {post : Int32 → Prop} (h : post (nI (pld d e kind days))) : wpX7_isPlayed p (nI e.1) (nI e.2.1) (nI e.2.2.1) (nI kind) (nI days) post := by
  have hB := hW.1
  have hM := hW.2.1
  have h9 := hW.2.2.1 e.2.1
  have hpl : pld d e kind days ≤ 1 := bitN_le _ _
  have go : ∀ g, g = (if kind = 2 then days else 0) → wpX7_isPlayed_J12 p (nI e.1) (nI e.2.1) (nI e.2.2.1) (nI kind) (nI days) post (nI g) := by
    intro g eg
    have hg9 : g ≤ 9 := by split at eg <;> omega
    have hg1 : kind = 1 → g = 0 := by intro z; rw [eg, if_neg (by omega)]
    unfold wpX7_isPlayed_J12
    rw [nI_clamp (by omega), hR.2.2.2.2.2.1 _ (by omega)]
    refine ⟨vin (by omega) (by omega), ?_⟩
    rintro _ rfl
    have fin : ∀ r, r ≤ 1 → (r = 1 ↔ ∃ k, k < min e.2.2.1 ((dpl d e.2.1).length - g) ∧ (dpl d e.2.1).getD (if kind = 1 then g + k else (dpl d e.2.1).length - 1 - k) 0 = e.1) → vb (nI r) ∧ post (nI r) := by
      intro r hr1 hr
      have er : r = pld d e kind days := by
        have : pld d e kind days = 1 ↔ r = 1 := by
          unfold pld
          rw [← eg, bitN_orr, hr]
        omega
      refine ⟨?_, by rw [er]; exact h⟩
      rcases (show r = 0 ∨ r = 1 by omega) with z | z
      · rw [z]; exact vb0
      · rw [z]; exact vb1
    have key : ∀ k i r, i + k = min e.2.2.1 ((dpl d e.2.1).length - g) → r ≤ 1 → (r = 1 ↔ ∃ k, k < i ∧ (dpl d e.2.1).getD (if kind = 1 then g + k else (dpl d e.2.1).length - 1 - k) 0 = e.1) → wpX7_isPlayed_L31 p (nI e.1) (nI e.2.1) (nI e.2.2.1) (nI kind) (nI days) (nI g) (nI (dpl d e.2.1).length - nI g) post (k + 1) (nI r) (nI i) := by
      intro k
      induction k with
      | zero =>
        intro i r hi hr1 hr
        have hi2 : i = min e.2.2.1 ((dpl d e.2.1).length - g) := by omega
        rw [hi2] at hr
        refine ⟨fun _ => fin r hr1 hr, fun q => ⟨fun _ => fin r hr1 hr, fun q2 => ?_⟩⟩
        rw [nI_leI (by omega) (by omega)] at q
        rw [nI_suble (by omega) (by omega) (by omega)] at q2
        exact absurd q2 (by omega)
      | succ k ih =>
        intro i r hi hr1 hr
        refine ⟨fun q => absurd q (nI_ge (by omega) (by omega)), fun _ => ⟨fun q => ?_, fun _ => ?_⟩⟩
        · rw [nI_suble (by omega) (by omega) (by omega)] at q
          exact absurd q (by omega)
        · have hit : wpX7_isPlayed_J73 p (nI e.1) (nI e.2.1) (nI e.2.2.1) (nI kind) (nI days) (nI g) (nI (dpl d e.2.1).length - nI g) (wpX7_isPlayed_L31 p (nI e.1) (nI e.2.1) (nI e.2.2.1) (nI kind) (nI days) (nI g) (nI (dpl d e.2.1).length - nI g) post (k + 1)) post (nI i) ↔ wpX7_isPlayed_L31 p (nI e.1) (nI e.2.1) (nI e.2.2.1) (nI kind) (nI days) (nI g) (nI (dpl d e.2.1).length - nI g) post (k + 1) (nI 1) (nI (i + 1)) := by
            rw [← nI_1 i]
            exact ⟨fun w => w _ rfl, fun w => by rintro _ rfl; exact w⟩
          refine ⟨fun q => ?_, fun q => ?_⟩
          · have e1 : r = 1 := by
              rcases (show r = 0 ∨ r = 1 by omega) with z | z
              · exact absurd (by rw [z]; rfl) q
              · exact z
            obtain ⟨j, hj, hj2⟩ := hr.mp e1
            exact hit.mpr (ih (i + 1) 1 (by omega) (by omega) ⟨fun _ => ⟨j, by omega, hj2⟩, fun _ => rfl⟩)
          · have e0 : r = 0 := (nI_eq (b := 0) (by omega) (by omega)).mp q
            have hpos : g + plc kind ((dpl d e.2.1).length - g) i = (if kind = 1 then g + i else (dpl d e.2.1).length - 1 - i) := by
              unfold plc
              split <;> omega
            have hlt : (if kind = 1 then g + i else (dpl d e.2.1).length - 1 - i) < (dpl d e.2.1).length := by split <;> omega
            have ho := hW.own hlt
            rw [pk_sub (by omega)]
            refine M_placeOf (by omega) (by omega) ?_
            rw [nI_add, hpos]
            refine M_breath hW hR hlt ⟨fun q2 => ?_, fun q2 => ?_⟩
            · rintro _ rfl
              rw [← pk_sub (a := (dpl d e.2.1).length) (b := g) (by omega), show nI i + (1 : Int32) = nI (i + 1) from nI_1 i]
              refine ih (i + 1) 0 (by omega) (by omega) ⟨fun z => by omega, fun ⟨j, hj, hj2⟩ => ?_⟩
              rcases Nat.lt_or_ge j i with z | z
              · exact absurd (hr.mpr ⟨j, z, hj2⟩) (by omega)
              · rw [show j = i by omega] at hj2
                exact absurd (by rw [hj2]) q2
            · rw [← pk_sub (a := (dpl d e.2.1).length) (b := g) (by omega)]
              have e2 : (dpl d e.2.1).getD (if kind = 1 then g + i else (dpl d e.2.1).length - 1 - i) 0 = e.1 := (nI_eq (by omega) (by omega)).mp q2
              exact hit.mpr (ih (i + 1) 1 (by omega) (by omega) ⟨fun _ => ⟨i, by omega, e2⟩, fun _ => rfl⟩)
    exact ⟨_, key _ 0 0 (Nat.zero_add _) (by omega) ⟨fun z => by omega, fun ⟨j, hj, _⟩ => absurd hj (Nat.not_lt_zero j)⟩⟩
  refine ⟨fun q => go 0 ?_, fun q => go days ?_⟩
  · rw [if_neg (fun z => q (by rw [z]; rfl))]
  · rw [if_pos ((nI_eq (b := 2) (by omega) (by omega)).mp q)]
