/-! the text told as a regiment -/
abbrev PS : Type := Nat × Nat × (Nat → Nat) × (Nat → Nat) × Dy
def fig (tx : Nat → Nat) (tn i : Nat) : Option Nat := if i < tn ∧ 48 ≤ tx i ∧ tx i ≤ 57 then some (tx i - 48) else none
theorem fig_some {tx : Nat → Nat} {tn i k : Nat} (h : fig tx tn i = some k) : i < tn ∧ tx i = 48 + k ∧ k ≤ 9 := by
  unfold fig at h
  split at h
  · next q => cases h; omega
  · cases h
theorem fig_none {tx : Nat → Nat} {tn i : Nat} (h : fig tx tn i = none) (hi : i < tn) : tx i < 48 ∨ 57 < tx i := by
  unfold fig at h
  split at h
  · cases h
  · next q => omega
theorem fig_of {tx : Nat → Nat} {tn i : Nat} (hi : i < tn) (h1 : 48 ≤ tx i) (h2 : tx i ≤ 57) : fig tx tn i = some (tx i - 48) := by unfold fig; rw [if_pos ⟨hi, h1, h2⟩]
theorem fig_end {tx : Nat → Nat} {tn i : Nat} (hi : tn ≤ i) : fig tx tn i = none := by unfold fig; rw [if_neg (by omega)]
abbrev room (B : Nat) (d : Dy) : Prop := sm (fun b => (dpl d b).length) B < 9 * B
def stp (tx : Nat → Nat) (tn : Nat) (B M : Nat) (kb km : Nat → Nat) (d : Dy) (i : Nat) : Nat ⊕ (PS × Nat) :=
  if tx i = 71 then
    if B < 3 then
      match fig tx tn (i + 1) with
      | some k => if k ≤ 3 then .inr ((B + 1, M, va_up kb B k, km, d), i + 2) else .inl (i + 1)
      | none => .inl (i + 1)
    else .inl i
  else if tx i = 77 then
    if M < 5 then
      match fig tx tn (i + 1) with
      | some s => match fig tx tn (i + 2) with
        | some k => if k ≤ 3 then .inr ((B, M + 1, kb, va_up km M k, setSd d M s), i + 3) else .inl (i + 2)
        | none => .inl (i + 2)
      | none => .inl (i + 1)
    else .inl i
  else if tx i = 80 then
    if 0 < M ∧ room B d then
      match fig tx tn (i + 1) with
      | some m => if m < M then
          match fig tx tn (i + 2) with
          | some b => if b < B ∧ (dpl d b).length < 9 then .inr ((B, M, kb, km, opLay d m b), i + 3) else .inl (i + 2)
          | none => .inl (i + 2)
        else .inl (i + 1)
      | none => .inl (i + 1)
    else .inl i
  else .inl i
def PI (B M : Nat) (d : Dy) : Prop := WF B M d ∧ ∀ m, M ≤ m → dsd d m = 0
def prun (tx : Nat → Nat) (tn : Nat) : Nat → PS → Nat → Int32 × PS
  | 0, s, _ => (-9, s)
  | f + 1, s, i => if tn ≤ i then (-9, s) else match stp tx tn s.1 s.2.1 s.2.2.1 s.2.2.2.1 s.2.2.2.2 i with
    | .inl w => (nI w, s)
    | .inr (s', i') => prun tx tn f s' i'
def s0 : PS := (0, 0, fun _ => 0, fun _ => 0, dz)
def rgm (tx : Nat → Nat) (tn : Nat) : Int32 × PS := if tn = 0 ∨ ¬ tx 0 = 66 then (0, s0) else prun tx tn tn s0 1
theorem wf_z : WF 0 0 dz := ⟨by omega, by omega, fun b => Nat.zero_le _, fun b x hx => absurd hx List.not_mem_nil, fun b _ => rfl, by decide, fun m => Nat.zero_le _⟩
theorem pi_z : PI 0 0 dz := ⟨wf_z, fun m _ => rfl⟩
theorem sk_0 {k : Nat → Nat} {f : Nat → Int32} : SK 0 k f := fun b hb => absurd hb (Nat.not_lt_zero b)
theorem sk_up {n x : Nat} {k : Nat → Nat} {f : Nat → Int32} (h : SK n k f) (hx : x ≤ 3) : SK (n + 1) (va_up k n x) (upd f n (nI x)) := by
  intro b hb
  by_cases e : b = n
  · subst e; rw [pk_us, up_s]; exact ⟨rfl, hx⟩
  · rw [pk_un e, up_n _ _ e]; exact h b (by omega)
theorem pi_B {B M : Nat} {d : Dy} (h : PI B M d) (hB : B < 3) : PI (B + 1) M d := by
  obtain ⟨⟨h1, h2, h3, h4, h5, h6, h7⟩, h8⟩ := h
  exact ⟨⟨by omega, h2, h3, h4, fun b hb => h5 b (by omega), h6, h7⟩, h8⟩
theorem wf_M {B M : Nat} {d : Dy} (h : WF B M d) (hM : M < 5) : WF B (M + 1) d := by
  obtain ⟨h1, h2, h3, h4, h5, h6, h7⟩ := h
  exact ⟨h1, by omega, h3, fun b x hx => Nat.lt_succ_of_lt (h4 b x hx), h5, Nat.lt_of_lt_of_le h6 (Nat.pow_le_pow_right (by omega) (Nat.le_succ M)), h7⟩
theorem pi_M {B M s : Nat} {d : Dy} (h : PI B M d) (hM : M < 5) (hs : s ≤ 9) : PI B (M + 1) (setSd d M s) := by
  refine ⟨(wf_M h.1 hM).kSd (by omega), fun m hm => ?_⟩
  show va_up _ _ _ _ = _
  rw [up_n _ _ (by omega)]; exact h.2 m (by omega)
theorem pi_L {B M m b : Nat} {d : Dy} (h : PI B M d) (hm : m < M) (hb : b < B) (hl : (dpl d b).length < 9) : PI B M (opLay d m b) := ⟨h.1.kLay hm hb hl, h.2⟩
section TC
variable {tx : Nat → Nat} {tn : Nat} {L T : Nat → Int32} {B M : Nat} {kb km : Nat → Nat} {d : Dy} {bk mk c : Nat → Int32}
theorem C_letterAt (hn : tn ≤ 60) (hT : ∀ i, i < tn → tx i < 256 ∧ L i = nI (tx i) ∧ T i = nI (tx i)) {i : Nat} (hi : i < 100) {post : Int32 → Prop} (h : post (if i < tn then nI (tx i) else -1)) : wpX5_letterAt L (nI tn) (nI i) post := by
  refine ⟨fun q => absurd q (nI_pos (by omega)), fun _ => pk_le tn i (fun q => ?_) (fun q => ⟨fun z => absurd z (nI_ge (b := 60) (by omega) (by omega)), fun _ => ⟨vin (by omega) (by omega), ?_⟩⟩)⟩
  · rw [if_neg (by omega)] at h; exact h
  · rw [if_pos q] at h
    rw [nI_clamp (by omega), (hT i q).2.1]; exact h
theorem C_figureAt (hn : tn ≤ 60) (hT : ∀ i, i < tn → tx i < 256 ∧ L i = nI (tx i) ∧ T i = nI (tx i)) {i : Nat} (hi : i < 100) {post : Int32 → Prop} (h0 : fig tx tn i = none → post (-1)) (h1 : ∀ k, fig tx tn i = some k → post (nI k)) : wpX5_figureAt L (nI tn) (nI i) post := by
  refine C_letterAt hn hT hi ?_
  rcases Nat.lt_or_ge i tn with q | q
  · rw [if_pos q]
    have hx := (hT i q).1
    refine pk_lt (tx i) 48 (fun z => h0 ?_) (fun z => pk_lt 57 (tx i) (fun y => h0 ?_) (fun y => ?_))
    · unfold fig; rw [if_neg (by omega)]
    · unfold fig; rw [if_neg (by omega)]
    · rw [show nI (tx i) - (48 : Int32) = nI (tx i - 48) from pk_sub (b := 48) z]
      exact h1 _ (fig_of q z y)
  · rw [if_neg (by omega)]
    exact ⟨fun _ => h0 (fig_end q), fun z => absurd (show (-1 : Int32) < 48 by decide) z⟩
theorem C_hasRoom (hW : WF B M d) (hR : RC d c) {post : Int32 → Prop} (h1 : room B d → post 1) (h0 : ¬ room B d → post 0) : wpX0_hasRoom (nI B) c post := by
  have hB := hW.1
  have hs := sm_le (f := fun b => (dpl d b).length) (c := 9) (n := B) (fun k _ => hW.2.2.1 k)
  refine C_breathsInAll hW hR ?_
  rw [show (9 : Int32) * nI B = nI (9 * B) from pk_mul 9 B]
  refine pk_le (9 * B) (sm (fun b => (dpl d b).length) B) (fun q => h0 ?_) (fun q => h1 q)
  unfold room; omega
theorem C_tellThing (hn : tn ≤ 60) (hT : ∀ i, i < tn → tx i < 256 ∧ L i = nI (tx i) ∧ T i = nI (tx i)) {i : Nat} (hi : i < tn) (hP : PI B M d) (hb : SK B kb bk) (hm : SK M km mk) (hR : RC d c) {post : Int32 → Int32 → Int32 → (Nat → Int32) → (Nat → Int32) → (Nat → Int32) → Prop} (h0 : ∀ w, w < 100 → stp tx tn B M kb km d i = .inl w → post (nI w) (nI B) (nI M) bk mk c) (h1 : ∀ B' M' kb' km' d' bk' mk' c', stp tx tn B M kb km d i = .inr ((B', M', kb', km', d'), i + (if tx i = 71 then 2 else 3)) → PI B' M' d' → SK B' kb' bk' → SK M' km' mk' → RC d' c' → post (-9) (nI B') (nI M') bk' mk' c') : wpX5_tellThing L (nI tn) (nI B) (nI M) bk mk c (nI i) post := by
  have hB3 := hP.1.1
  have hM5 := hP.1.2.1
  have hx := (hT i hi).1
  have i1 : nI i + (1 : Int32) = nI (i + 1) := nI_1 i
  have i2 : nI i + (2 : Int32) = nI (i + 2) := nI_add i 2
  refine C_letterAt hn hT (by omega) ?_
  rw [if_pos hi]
  refine ⟨fun q => ?_, fun q => ⟨fun z => ?_, fun z => ⟨fun y => ?_, fun y => ?_⟩⟩⟩
  · have e : tx i = 71 := (nI_eq (b := 71) (by omega) (by omega)).mp q
    refine pk_lt B 3 (fun q1 => ?_) (fun q1 => h0 i (by omega) (by simp [stp, e, Nat.not_lt.mpr q1]))
    rw [i1]
    refine C_figureAt hn hT (by omega) (fun f => ⟨fun _ => ?_, fun z => absurd (show (-1 : Int32) < 0 by decide) z⟩) (fun k f => ?_)
    · unfold wpX5_tellBag_J27
      rw [i1]
      exact h0 (i + 1) (by omega) (by simp [stp, e, q1, f])
    · obtain ⟨-, -, k9⟩ := fig_some f
      refine ⟨fun z => absurd z (nI_pos (by omega)), fun _ => pk_le k 3 (fun z => ?_) (fun z => ?_)⟩
      · refine ⟨fun y => absurd y (nI_pos (by omega)), fun _ => ⟨fun y => absurd y (nI_ge (b := 3) q1 (by omega)), fun _ => ⟨vin q1 (by omega), ?_⟩⟩⟩
        rw [nI_clamp (by omega)]
        rintro _ rfl _ rfl
        rw [show nI B + (1 : Int32) = nI (B + 1) from nI_1 B]
        exact h1 (B + 1) M (va_up kb B k) km d _ _ _ (by simp [stp, e, q1, f, z]) (pi_B hP q1) (sk_up hb z) hm hR
      · unfold wpX5_tellBag_J27
        rw [i1]
        exact h0 (i + 1) (by omega) (by simp [stp, e, q1, f, Nat.not_le.mpr z])
  · have e : tx i = 77 := (nI_eq (b := 77) (by omega) (by omega)).mp z
    refine pk_lt M 5 (fun q1 => ?_) (fun q1 => h0 i (by omega) (by simp [stp, e, Nat.not_lt.mpr q1]))
    rw [i1]
    refine C_figureAt hn hT (by omega) (fun f => ⟨fun w => absurd w (by decide), fun _ => h0 (i + 1) (by omega) (by simp [stp, e, q1, f])⟩) (fun s f => ?_)
    obtain ⟨-, -, s9⟩ := fig_some f
    refine ⟨fun _ => ?_, fun w => absurd (nI_le (a := 0) (by omega) (by omega)) w⟩
    rw [i2]
    refine C_figureAt hn hT (by omega) (fun g => ⟨fun _ => ?_, fun z => absurd (show (-1 : Int32) < 0 by decide) z⟩) (fun k g => ?_)
    · unfold wpX5_tellMan_J46
      rw [i2]
      exact h0 (i + 2) (by omega) (by simp [stp, e, q1, f, g])
    · obtain ⟨-, -, k9⟩ := fig_some g
      refine ⟨fun z => absurd z (nI_pos (by omega)), fun _ => pk_le k 3 (fun z => ?_) (fun z => ?_)⟩
      · refine ⟨fun y => absurd y (nI_pos (by omega)), fun _ => ⟨fun y => absurd y (nI_ge (b := 5) q1 (by omega)), fun _ => ⟨vin q1 (by omega), ?_⟩⟩⟩
        rw [nI_clamp (by omega)]
        rintro _ rfl _ rfl
        rw [show nI M + (1 : Int32) = nI (M + 1) from nI_1 M]
        refine C_addTo (2 + M) ?_ (by omega) ?_
        · rw [show (2 : Int32) + nI (M + 1) = nI (2 + (M + 1)) from nI_add 2 _, nI_s1 (by omega)]
          rfl
        · rw [hR.2.2.1 M q1, hP.2 M (Nat.le_refl M), nI_add, Nat.zero_add]
          exact h1 B (M + 1) kb (va_up km M k) (setSd d M s) _ _ _ (by simp [stp, e, q1, f, g, z]) (pi_M hP q1 s9) hb (sk_up hm z) (hR.setSd q1 s)
      · unfold wpX5_tellMan_J46
        rw [i2]
        exact h0 (i + 2) (by omega) (by simp [stp, e, q1, f, g, Nat.not_le.mpr z])
  · have e : tx i = 80 := (nI_eq (b := 80) (by omega) (by omega)).mp y
    refine ⟨fun w => ?_, fun w => C_hasRoom hP.1 hR (fun rm => ⟨fun _ => ?_, fun u => absurd u (by decide)⟩) (fun rm => ⟨fun u => absurd rfl u, fun _ => ?_⟩)⟩
    · have hM0 : M = 0 := (nI_eq (b := 0) (by omega) (by omega)).mp w
      exact h0 i (by omega) (by simp [stp, e, hM0])
    · have hM0 : 0 < M := Nat.pos_of_ne_zero (fun u => w (by rw [u]; rfl))
      rw [i1]
      refine C_figureAt hn hT (by omega) (fun f => ?_) (fun m f => ?_)
      · refine C_isMan_f (by omega) (fun ⟨j, hj, u⟩ => ?_) ⟨fun u => absurd rfl u, fun _ => h0 (i + 1) (by omega) (by simp [stp, e, hM0, rm, f])⟩
        have : (nI j).toInt = -1 := by rw [← u]; decide
        rw [nI_toInt (by omega)] at this
        omega
      · obtain ⟨-, -, m9⟩ := fig_some f
        by_cases hm1 : m < M
        · refine C_isMan_t hm1 (by omega) ⟨fun _ => ?_, fun u => absurd u (by decide)⟩
          rw [i2]
          refine C_figureAt hn hT (by omega) (fun g => ?_) (fun b g => ?_)
          · refine C_isBag_f (by omega) (fun ⟨j, hj, u⟩ => ?_) ⟨fun _ => ?_, fun u => absurd rfl u⟩
            · have : (nI j).toInt = -1 := by rw [← u]; decide
              rw [nI_toInt (by omega)] at this
              omega
            · unfold wpX5_tellBreath_J65
              rw [i2]
              exact h0 (i + 2) (by omega) (by simp [stp, e, hM0, rm, f, hm1, g])
          · obtain ⟨-, -, b9⟩ := fig_some g
            by_cases hb1 : b < B
            · refine C_isBag_t hb1 (by omega) ⟨fun u => absurd u (by decide), fun _ => C_breathsIn hP.1 hR (by omega) ?_⟩
              have l9 := hP.1.2.2.1 b
              refine pk_lt (dpl d b).length 9 (fun u => C_lay hP.1 hR hm1 hb1 u (fun c' hc' => ?_)) (fun u => ?_)
              · exact h1 B M kb km (opLay d m b) _ _ _ (by simp [stp, e, hM0, rm, f, hm1, g, hb1, u]) (pi_L hP hm1 hb1 u) hb hm hc'
              · unfold wpX5_tellBreath_J65
                rw [i2]
                exact h0 (i + 2) (by omega) (by simp [stp, e, hM0, rm, f, hm1, g, hb1, Nat.not_lt.mpr u])
            · refine C_isBag_f (by omega) (fun ⟨j, hj, u⟩ => hb1 ?_) ⟨fun _ => ?_, fun u => absurd rfl u⟩
              · rw [(nI_eq (by omega) (by omega)).mp u]; exact hj
              · unfold wpX5_tellBreath_J65
                rw [i2]
                exact h0 (i + 2) (by omega) (by simp [stp, e, hM0, rm, f, hm1, g, hb1])
        · refine C_isMan_f (by omega) (fun ⟨j, hj, u⟩ => hm1 ?_) ⟨fun u => absurd rfl u, fun _ => h0 (i + 1) (by omega) (by simp [stp, e, hM0, rm, f, hm1])⟩
          rw [(nI_eq (by omega) (by omega)).mp u]; exact hj
    · exact h0 i (by omega) (by simp [stp, e, rm])
  · exact h0 i (by omega) (by simp [stp, show ¬ tx i = 71 from fun u => q (by rw [u]; rfl), show ¬ tx i = 77 from fun u => z (by rw [u]; rfl), show ¬ tx i = 80 from fun u => y (by rw [u]; rfl)])
theorem C_tellL (hn : tn ≤ 60) (hT : ∀ i, i < tn → tx i < 256 ∧ L i = nI (tx i) ∧ T i = nI (tx i)) {post : Int32 → Int32 → Int32 → (Nat → Int32) → (Nat → Int32) → (Nat → Int32) → Prop} : ∀ (f i B M : Nat) (kb km : Nat → Nat) (d : Dy) (bk mk c : Nat → Int32), tn ≤ i + f → i < 70 → PI B M d → SK B kb bk → SK M km mk → RC d c → (∀ B' M' kb' km' d' bk' mk' c', (prun tx tn f (B, M, kb, km, d) i).2 = (B', M', kb', km', d') → PI B' M' d' → SK B' kb' bk' → SK M' km' mk' → RC d' c' → post (prun tx tn f (B, M, kb, km, d) i).1 (nI B') (nI M') bk' mk' c') → wpX5_tellTo_L18 L (nI tn) post (f + 1) (nI B) (nI M) bk mk c (nI i) := by
  intro f
  induction f with
  | zero =>
    intro i B M kb km d bk mk c hf hi hP hb hm hR h
    exact ⟨fun _ => h B M kb km d bk mk c rfl hP hb hm hR, fun q => absurd (nI_le (by omega) (by omega)) q⟩
  | succ f ih =>
    intro i B M kb km d bk mk c hf hi hP hb hm hR h
    refine pk_le tn i (fun q => ?_) (fun q => C_tellThing hn hT q hP hb hm hR (fun w hw e => ⟨fun z => ?_, fun _ => ?_⟩) (fun B' M' kb' km' d' bk' mk' c' e hP' hb' hm' hR' => ⟨fun _ => ?_, fun z => absurd rfl z⟩))
    · rw [prun, if_pos q] at h
      exact h B M kb km d bk mk c rfl hP hb hm hR
    · have : (nI w).toInt = -9 := by rw [show nI w = -9 from z]; decide
      rw [nI_toInt (by omega)] at this
      omega
    · rw [prun, if_neg (by omega)] at h
      simp only [e] at h
      exact h B M kb km d bk mk c rfl hP hb hm hR
    · rw [prun, if_neg (by omega)] at h
      simp only [e] at h
      have hx := (hT i q).1
      refine C_letterAt hn hT (by omega) ?_
      rw [if_pos q]
      refine ⟨fun z => ?_, fun z => ?_⟩
      · rw [if_neg (fun u => z (by rw [u]; rfl))] at h
        rintro _ rfl
        rw [show nI i + (3 : Int32) = nI (i + 3) from nI_add i 3]
        exact ih (i + 3) B' M' kb' km' d' bk' mk' c' (by omega) (by omega) hP' hb' hm' hR' h
      · rw [if_pos ((nI_eq (b := 71) (by omega) (by omega)).mp z)] at h
        rintro _ rfl
        rw [show nI i + (2 : Int32) = nI (i + 2) from nI_add i 2]
        exact ih (i + 2) B' M' kb' km' d' bk' mk' c' (by omega) (by omega) hP' hb' hm' hR' h
theorem C_tellTo (hn : tn ≤ 60) (hT : ∀ i, i < tn → tx i < 256 ∧ L i = nI (tx i) ∧ T i = nI (tx i)) {tb tm : Int32} {tc : Nat → Int32} {post : Int32 → Int32 → Int32 → (Nat → Int32) → (Nat → Int32) → (Nat → Int32) → Prop} (h : ∀ B' M' kb' km' d' bk' mk' c', (rgm tx tn).2 = (B', M', kb', km', d') → PI B' M' d' → SK B' kb' bk' → SK M' km' mk' → RC d' c' → post (rgm tx tn).1 (nI B') (nI M') bk' mk' c') : wpX5_tellTo L (nI tn) tb tm bk mk tc post := by
  refine pk_loop (fun f i e => wpX0_empty_L12 0 0 _ f e (nI i)) (fun i e => ∀ j, j < i → e j = 0) 23 0 tc (by omega) (fun j hj => absurd hj (Nat.not_lt_zero j)) ?_ ?_
  · intro f e he
    refine ⟨fun _ => ?_, fun q => absurd (show (23 : Int32) ≤ nI 23 by decide) q⟩
    have hR : RC dz e := ⟨he 0 (by omega), he 1 (by omega), fun m hm => he _ (by omega), fun m hm => he _ (by omega), fun m hm => he _ (by omega), fun m hm => he _ (by omega), fun m hm => he _ (by omega)⟩
    refine C_letterAt (i := 0) hn hT (by omega) ?_
    rcases Nat.eq_zero_or_pos tn with z | z
    · rw [if_neg (by omega)]
      have er : rgm tx tn = (0, s0) := by unfold rgm; rw [if_pos (Or.inl z)]
      rw [er] at h
      exact ⟨fun q => absurd q (by decide), fun _ => h 0 0 _ _ dz _ _ _ rfl pi_z sk_0 sk_0 hR⟩
    · rw [if_pos z]
      have hx := (hT 0 z).1
      refine ⟨fun q => ?_, fun q => ?_⟩
      · have e66 : tx 0 = 66 := (nI_eq (b := 66) (by omega) (by omega)).mp q
        have er : rgm tx tn = prun tx tn tn s0 1 := by unfold rgm; rw [if_neg (by omega)]
        rw [er] at h
        exact ⟨_, C_tellL hn hT tn 1 0 0 _ _ dz bk mk e (by omega) (by omega) pi_z sk_0 sk_0 hR h⟩
      · have er : rgm tx tn = (0, s0) := by unfold rgm; rw [if_pos (Or.inr (fun u => q (by rw [u]; rfl)))]
        rw [er] at h
        exact h 0 0 _ _ dz _ _ _ rfl pi_z sk_0 sk_0 hR
  · intro f i e hi he k
    refine ⟨fun q => absurd q (nI_ge (b := 23) hi (by omega)), fun _ => ⟨vin hi (by omega), ?_⟩⟩
    rw [nI_clamp (by omega)]
    rintro _ rfl _ rfl
    rw [show nI i + (1 : Int32) = nI (i + 1) from nI_1 i]
    refine k _ (fun j hj => ?_)
    by_cases e2 : j = i
    · subst e2; exact pk_us
    · rw [pk_un e2]; exact he j (by omega)
end TC
