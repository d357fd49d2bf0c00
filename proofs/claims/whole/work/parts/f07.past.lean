/-! copies; the acts that can be undone -/
def dz : Dy := (fun _ => [], fun _ => 0, fun _ => 0, fun _ => 0, 0, 0)
theorem C_becomeAll {tb tm fb fm : Int32} {tbk tmk tc fbk fmk fc : Nat → Int32} {post : Int32 → Int32 → (Nat → Int32) → (Nat → Int32) → (Nat → Int32) → Prop} (h : ∀ bk mk c, (∀ j, j < 3 → bk j = fbk j) → (∀ j, j < 5 → mk j = fmk j) → (∀ j, j < 23 → c j = fc j) → post fb fm bk mk c) : wpX0_becomeAll tb tm tbk tmk tc fb fm fbk fmk fc post := by
  refine pk_loop (fun n i g => wpX0_becomeAll_L18 fb fm fbk fmk fc fb fm tmk tc (wpX0_becomeAll_J41 fb fm fbk fmk fc post) post n g (nI i)) (fun i g => ∀ j, j < i → g j = fbk j) 3 0 tbk (by omega) (fun j hj => absurd hj (Nat.not_lt_zero j)) ?_ ?_
  · intro n g hg
    refine ⟨fun _ => ?_, fun q => absurd (Int32.le_refl _) q⟩
    refine pk_loop (fun n i g2 => wpX0_becomeAll_L43 fb fm fbk fmk fc fb fm g tc (wpX0_becomeAll_J66 fb fm fbk fmk fc post) post n g2 (nI i)) (fun i g => ∀ j, j < i → g j = fmk j) 5 0 tmk (by omega) (fun j hj => absurd hj (Nat.not_lt_zero j)) ?_ ?_
    · intro n g2 hg2
      refine ⟨fun _ => ?_, fun q => absurd (Int32.le_refl _) q⟩
      refine pk_loop (fun n i g3 => wpX0_becomeAll_L68 fb fm fbk fmk fc fb fm g g2 post n g3 (nI i)) (fun i g => ∀ j, j < i → g j = fc j) 23 0 tc (by omega) (fun j hj => absurd hj (Nat.not_lt_zero j)) ?_ ?_
      · intro n g3 hg3
        exact ⟨fun _ => h g g2 g3 hg hg2 hg3, fun q => absurd (Int32.le_refl _) q⟩
      · intro n i g3 hi hg3 k
        refine ⟨fun q => absurd q (nI_ge (b := 23) hi (by omega)), fun _ => ⟨vin hi (by omega), vin hi (by omega), ?_⟩⟩
        rw [nI_clamp (by omega), show nI i + (1 : Int32) = nI (i + 1) from nI_1 i]
        rintro _ rfl _ rfl
        refine k _ (fun j hj => ?_)
        by_cases e : j = i
        · subst e; exact pk_us
        · rw [pk_un e]; exact hg3 j (by omega)
    · intro n i g3 hi hg3 k
      refine ⟨fun q => absurd q (nI_ge (b := 5) hi (by omega)), fun _ => ⟨vin hi (by omega), vin hi (by omega), ?_⟩⟩
      rw [nI_clamp (by omega), show nI i + (1 : Int32) = nI (i + 1) from nI_1 i]
      rintro _ rfl _ rfl
      refine k _ (fun j hj => ?_)
      by_cases e : j = i
      · subst e; exact pk_us
      · rw [pk_un e]; exact hg3 j (by omega)
  · intro n i g3 hi hg3 k
    refine ⟨fun q => absurd q (nI_ge (b := 3) hi (by omega)), fun _ => ⟨vin hi (by omega), vin hi (by omega), ?_⟩⟩
    rw [nI_clamp (by omega), show nI i + (1 : Int32) = nI (i + 1) from nI_1 i]
    rintro _ rfl _ rfl
    refine k _ (fun j hj => ?_)
    by_cases e : j = i
    · subst e; exact pk_us
    · rw [pk_un e]; exact hg3 j (by omega)
theorem row_expr (r i : Nat) : (nI r * (23 : Int32)) + nI i = nI (23 * r + i) := by
  rw [show nI r * (23 : Int32) = nI (r * 23) from pk_mul r 23, nI_add, Nat.mul_comm]
theorem C_copyTo {n r : Nat} {c rows : Nat → Int32} (hn : n < 2 ^ 30) (hr : 23 * r + 23 ≤ n) {post : (Nat → Int32) → Prop} (h : ∀ g, (∀ j, j < 23 → g (23 * r + j) = c j) → (∀ j, ¬ (23 * r ≤ j ∧ j < 23 * r + 23) → g j = rows j) → post g) : wpX0_copyTo n c rows (nI r) post := by
  refine pk_loop (fun f i g => wpX0_copyTo_L2 n c (nI r) post f g (nI i)) (fun i g => (∀ j, j < i → g (23 * r + j) = c j) ∧ ∀ j, ¬ (23 * r ≤ j ∧ j < 23 * r + i) → g j = rows j) 23 0 rows (by omega) ⟨fun j hj => absurd hj (Nat.not_lt_zero j), fun _ _ => rfl⟩ ?_ ?_
  · intro f g hg
    exact ⟨fun _ => h g hg.1 hg.2, fun q => absurd (Int32.le_refl _) q⟩
  · intro f i g hi hg k
    refine ⟨fun q => absurd q (nI_ge (b := 23) hi (by omega)), fun _ => ?_⟩
    rw [row_expr]
    rintro _ rfl
    refine ⟨fun q => absurd q (nI_pos (by omega)), fun _ => ⟨fun q => absurd q (nI_ge (b := n) (by omega) (by omega)), fun _ => ⟨vin hi (by omega), vin (by omega) (by omega), ?_⟩⟩⟩
    rw [nI_clamp (by omega), nI_clamp (by omega)]
    rintro _ rfl _ rfl
    rw [show nI i + (1 : Int32) = nI (i + 1) from nI_1 i]
    refine k _ ⟨fun j hj => ?_, fun j hj => ?_⟩
    · by_cases e : j = i
      · subst e; exact pk_us
      · rw [pk_un (by omega)]; exact hg.1 j (by omega)
    · rw [pk_un (by omega)]; exact hg.2 j (by omega)
theorem C_copyFrom {n r : Nat} {c rows : Nat → Int32} (hn : n < 2 ^ 30) (hr : 23 * r + 23 ≤ n) {post : (Nat → Int32) → Prop} (h : ∀ g, (∀ j, j < 23 → g j = rows (23 * r + j)) → post g) : wpX0_copyFrom n c rows (nI r) post := by
  refine pk_loop (fun f i g => wpX0_copyFrom_L2 n rows (nI r) post f g (nI i)) (fun i g => ∀ j, j < i → g j = rows (23 * r + j)) 23 0 c (by omega) (fun j hj => absurd hj (Nat.not_lt_zero j)) ?_ ?_
  · intro f g hg
    exact ⟨fun _ => h g hg, fun q => absurd (Int32.le_refl _) q⟩
  · intro f i g hi hg k
    refine ⟨fun q => absurd q (nI_ge (b := 23) hi (by omega)), fun _ => ?_⟩
    rw [row_expr]
    rintro _ rfl
    refine ⟨fun q => absurd q (nI_pos (by omega)), fun _ => ⟨fun q => absurd q (nI_ge (b := n) (by omega) (by omega)), fun _ => ⟨vin (by omega) (by omega), vin hi (by omega), ?_⟩⟩⟩
    rw [nI_clamp (by omega), nI_clamp (by omega)]
    rintro _ rfl _ rfl
    rw [show nI i + (1 : Int32) = nI (i + 1) from nI_1 i]
    refine k _ (fun j hj => ?_)
    by_cases e : j = i
    · subst e; exact pk_us
    · rw [pk_un e]; exact hg j (by omega)
/-- the class's ring: the last act's row is the one behind 'next' -/
def CPast (h : List Dy) (rows : Nat → Int32) (next count : Int32) : Prop := ∃ nx : Nat, nx < 14 ∧ next = nI nx ∧ count = nI h.length ∧ h.length ≤ 14 ∧ ∀ k, k < h.length → RC (h.getD k dz) (fun j => rows (23 * ((nx + 13 - k) % 14) + j))
/-- the reference's book: the last act's page is the last -/
def MPast (h : List Dy) (book : Nat → Int32) (acts : Int32) : Prop := acts = nI h.length ∧ h.length ≤ 14 ∧ ∀ k, k < h.length → RM (h.getD k dz) (fun j => book (47 * (h.length - 1 - k) + j))
def pushH (a : Act) (d : Dy) (h : List Dy) : List Dy := match a.2 with
  | none => h
  | some _ => (d :: h).take 14
def sig (a : Act) : Prop := (a.2 = none ∧ a.1 < 0) ∨ ((∃ d, a.2 = some d) ∧ ¬ a.1 < 0)
theorem len_push {d : Dy} {h : List Dy} (hl : h.length ≤ 14) : ((d :: h).take 14).length = min 14 (h.length + 1) := by rw [List.length_take, List.length_cons]
theorem get_push {d : Dy} {h : List Dy} {k : Nat} (hk : k < 14) : ((d :: h).take 14).getD k dz = (d :: h).getD k dz := by
  rw [List.getD_eq_getElem?_getD, List.getD_eq_getElem?_getD, List.getElem?_take_of_lt hk]
theorem C_remember {d : Dy} {h : List Dy} {t rows : Nat → Int32} {next count : Int32} (hR : RC d t) (hP : CPast h rows next count) {post : (Nat → Int32) → Int32 → Int32 → Prop} (k : ∀ r n c, CPast ((d :: h).take 14) r n c → post r n c) : wpX2_remember rows next count t post := by
  obtain ⟨nx, h1, rfl, rfl, h4, h5⟩ := hP
  refine C_copyTo (by omega) (by omega) (fun g g1 g2 => ?_)
  rw [show nI nx + (1 : Int32) = nI (nx + 1) from nI_1 nx]
  have fin : ∀ v, v = (nx + 1) % 14 → wpX2_remember_J34 t post g (nI nx) (nI h.length) (nI v) := by
    intro v ev
    unfold wpX2_remember_J34
    rw [show nI h.length + (1 : Int32) = nI (h.length + 1) from nI_1 _]
    rintro _ rfl
    refine k _ _ _ ⟨v, by omega, rfl, ?_, by rw [len_push h4]; omega, fun q hq => ?_⟩
    · rw [len_push h4]
      split
      · next z => rw [show (14 : Int32) = nI 14 from rfl, nI_ltI (by omega) (by omega)] at z; rw [Nat.min_eq_right (by omega)]
      · next z => rw [show (14 : Int32) = nI 14 from rfl, nI_ltI (by omega) (by omega)] at z; rw [Nat.min_eq_left (by omega)]; rfl
    · rw [len_push h4] at hq
      rw [get_push (by omega)]
      cases q with
      | zero =>
        rw [List.getD_cons_zero, show (v + 13 - 0) % 14 = nx by omega]
        exact hR.kept (fun j hj => g1 j hj)
      | succ q =>
        rw [List.getD_cons_succ]
        have hq2 : q < h.length := by omega
        have e : (v + 13 - (q + 1)) % 14 = (nx + 13 - q) % 14 := by omega
        rw [e]
        refine (h5 q hq2).kept (fun j hj => ?_)
        exact g2 _ (by omega)
  refine pk_lt (nx + 1) 14 (fun z => fin _ (by omega)) (fun z => fin 0 (by omega))
theorem C_remembered {a : Act} (ha : sig a) {d : Dy} {h : List Dy} {t rows : Nat → Int32} {next count : Int32} (hR : RC d t) (hP : CPast h rows next count) {post : Int32 → (Nat → Int32) → Int32 → Int32 → Prop} (k : ∀ r n c, CPast (pushH a d h) r n c → post a.1 r n c) : wpX6_remembered t rows next count a.1 post := by
  unfold pushH at k
  rcases ha with ⟨h1, h2⟩ | ⟨⟨e, h1⟩, h2⟩
  · rw [h1] at k
    exact ⟨fun _ => k _ _ _ hP, fun q => absurd h2 q⟩
  · rw [h1] at k
    exact ⟨fun q => absurd q h2, fun _ => C_remember hR hP (fun r n c hc => k r n c hc)⟩
theorem C_undo {h : List Dy} {cells rows : Nat → Int32} {next count : Int32} (hP : CPast h rows next count) {post : Int32 → (Nat → Int32) → Int32 → Int32 → Prop} (k0 : h = [] → post (-3) cells next count) (k1 : ∀ d t, h = d :: t → ∀ c n ct, RC d c → CPast t rows n ct → post (nI t.length) c n ct) : wpX6_undo cells rows next count post := by
  obtain ⟨nx, h1, rfl, rfl, h4, h5⟩ := hP
  cases h with
  | nil => exact ⟨fun q => absurd rfl q, fun _ => k0 rfl⟩
  | cons d t =>
    have hl : (d :: t).length = t.length + 1 := rfl
    refine ⟨fun _ => ?_, fun q => absurd ((nI_eq (b := 0) (by omega) (by omega)).mp q) (by omega)⟩
    have fin : ∀ v, v = (nx + 13) % 14 → wpX2_goBack_J19 rows (fun r_5 t_past_next_2 t_past_count_3 t_now_cells_4 => post r_5 t_now_cells_4 t_past_next_2 t_past_count_3) (nI nx) (nI (d :: t).length) cells (nI v) := by
      intro v ev
      have e2 : (if (0 : Int32) < (nI (d :: t).length - (1 : Int32)) then (nI (d :: t).length - (1 : Int32)) else (0 : Int32)) = nI t.length := by
        rw [nI_s1 (by omega), hl, Nat.add_sub_cancel]
        split
        · rfl
        · next z => rw [show (0 : Int32) = nI 0 from rfl, nI_ltI (by omega) (by omega)] at z; rw [show t.length = 0 by omega]; rfl
      unfold wpX2_goBack_J19
      rw [e2]
      rintro _ rfl
      refine C_copyFrom (by omega) (by omega) (fun g hg => ?_)
      refine k1 d t rfl _ _ _ ?_ ⟨v, by omega, rfl, rfl, by omega, fun q hq => ?_⟩
      · have := h5 0 (by omega)
        rw [List.getD_cons_zero, show (nx + 13 - 0) % 14 = v by omega] at this
        exact this.kept (fun j hj => hg j hj)
      · have := h5 (q + 1) (by omega)
        rw [List.getD_cons_succ, show (nx + 13 - (q + 1)) % 14 = (v + 13 - q) % 14 by omega] at this
        exact this
    unfold wpX2_goBack
    refine pk_lt 0 nx (fun z => ?_) (fun z => ?_)
    · rw [nI_s1 z]; exact fin _ (by omega)
    · exact fin 13 (by omega)
theorem M_note {d : Dy} {B M : Nat} (hW : WF B M d) {h : List Dy} (hh : ∀ e, e ∈ h → WF B M e) {p book : Nat → Int32} {acts : Int32} (hR : RM d p) (hP : MPast h book acts) {post : (Nat → Int32) → Int32 → Prop} (k : ∀ b a, MPast ((d :: h).take 14) b a → post b a) : wpX7_note p book acts post := by
  obtain ⟨rfl, h4, h5⟩ := hP
  have lw : ∀ k, k < h.length → ∀ b, (dpl (h.getD k dz) b).length ≤ 9 := by
    intro q hq b
    have hm : h.getD q dz ∈ h := by
      rw [List.getD_eq_getElem?_getD, List.getElem?_eq_getElem hq]
      exact List.getElem_mem hq
    exact (hh _ hm).2.2.1 b
  have store : ∀ (n : Nat) (g : Nat → Int32), n = min 13 h.length → (∀ q, q < n → RM (h.getD q dz) (fun j => g (47 * (n - 1 - q) + j))) → wpX7_note_J49 p post g (nI n) := by
    intro n g hn hg
    refine pk_loop (fun f i e => wpX7_note_L51 p (nI n) (wpX7_note_J83 p post) post f e (nI i)) (fun i e => (∀ j, j < i → e (47 * n + j) = p j) ∧ ∀ j, j < 47 * n → e j = g j) 47 0 g (by omega) ⟨fun j hj => absurd hj (Nat.not_lt_zero j), fun _ _ => rfl⟩ ?_ ?_
    · intro f e he
      refine ⟨fun _ => ?_, fun q => absurd (Int32.le_refl _) q⟩
      rintro _ rfl
      refine k _ _ ⟨?_, ?_, fun q hq => ?_⟩
      · rw [len_push h4, show nI n + (1 : Int32) = nI (n + 1) from nI_1 n]; congr 1; omega
      · rw [len_push h4]; omega
      · rw [len_push h4] at hq ⊢
        rw [get_push (by omega)]
        cases q with
        | zero =>
          rw [List.getD_cons_zero, show min 14 (h.length + 1) - 1 - 0 = n by omega]
          exact hR.kept (fun q => hW.2.2.1 q) (fun j hj => he.1 j hj)
        | succ q =>
          rw [List.getD_cons_succ, show min 14 (h.length + 1) - 1 - (q + 1) = n - 1 - q by omega]
          refine (hg q (by omega)).kept (lw q (by omega)) (fun j hj => ?_)
          exact he.2 _ (by omega)
    · intro f i e hi he kk
      refine ⟨fun q => absurd q (nI_ge (b := 47) hi (by omega)), fun _ => ?_⟩
      rw [show (47 : Int32) * nI n = nI (47 * n) from pk_mul 47 n, nI_add, nI_clamp (by omega), nI_clamp (by omega), show nI i + (1 : Int32) = nI (i + 1) from nI_1 i]
      refine ⟨vin hi (by omega), vin (by omega) (by omega), ?_⟩
      rintro _ rfl _ rfl
      refine kk _ ⟨fun j hj => ?_, fun j hj => ?_⟩
      · by_cases e2 : j = i
        · subst e2; exact pk_us
        · rw [pk_un (by omega)]; exact he.1 j (by omega)
      · rw [pk_un (by omega)]; exact he.2 j hj
  refine ⟨fun q => ?_, fun q => ?_⟩
  · have hne : ¬ h.length = 14 := fun z => q (by rw [z]; rfl)
    exact store h.length book (by omega) h5
  · have he14 : h.length = 14 := (nI_eq (b := 14) (by omega) (by omega)).mp q
    refine pk_loop (fun f i e => wpX7_note_L11 p (nI h.length) (wpX7_note_J39 p post) post f e (nI i)) (fun i e => (∀ j, j < i → e j = book (j + 47)) ∧ ∀ j, i ≤ j → e j = book j) 611 0 book (by omega) ⟨fun j hj => absurd hj (Nat.not_lt_zero j), fun _ _ => rfl⟩ ?_ ?_
    · intro f e he
      refine ⟨fun _ => ?_, fun q => absurd (Int32.le_refl _) q⟩
      unfold wpX7_note_J39
      rw [nI_s1 (by omega)]
      rintro _ rfl
      refine store _ e (by omega) (fun q hq => ?_)
      have := h5 q (by omega)
      refine this.kept (lw q (by omega)) (fun j hj => ?_)
      show e _ = book _
      rw [he.1 _ (by omega)]
      congr 1; omega
    · intro f i e hi he kk
      refine ⟨fun q => absurd q (nI_ge (b := 611) hi (by omega)), fun _ => ?_⟩
      rw [show nI i + (47 : Int32) = nI (i + 47) from nI_add i 47, nI_clamp (by omega), nI_clamp (by omega), show nI i + (1 : Int32) = nI (i + 1) from nI_1 i]
      refine ⟨vin (by omega) (by omega), vin (by omega) (by omega), ?_⟩
      rintro _ rfl _ rfl
      refine kk _ ⟨fun j hj => ?_, fun j hj => ?_⟩
      · by_cases e2 : j = i
        · subst e2; rw [pk_us]; exact he.2 _ (by omega)
        · rw [pk_un e2]; exact he.1 j (by omega)
      · rw [pk_un (by omega)]; exact he.2 j (by omega)
theorem M_undo {h : List Dy} {B M : Nat} (hh : ∀ e, e ∈ h → WF B M e) {p book : Nat → Int32} {th acts : Int32} (hP : MPast h book acts) {post : Int32 → Int32 → (Nat → Int32) → Int32 → Prop} (k0 : h = [] → post (-3) 0 p acts) (k1 : ∀ d t, h = d :: t → ∀ p' a, RM d p' → MPast t book a → post (nI t.length) 0 p' a) : wpX7_undo th p book acts post := by
  obtain ⟨rfl, h4, h5⟩ := hP
  cases h with
  | nil => exact ⟨fun q => absurd rfl q, fun _ => k0 rfl⟩
  | cons d t =>
    have hl : (d :: t).length = t.length + 1 := rfl
    refine ⟨fun _ => ?_, fun q => absurd ((nI_eq (b := 0) (by omega) (by omega)).mp q) (by omega)⟩
    rw [nI_s1 (by omega), hl, Nat.add_sub_cancel]
    rintro _ rfl
    have hd := hh d List.mem_cons_self
    refine pk_loop (fun f i e => wpX7_undo_L27 book 0 (nI t.length) (wpX7_undo_J59 book post) post f e (nI i)) (fun i e => ∀ j, j < i → e j = book (47 * t.length + j)) 47 0 p (by omega) (fun j hj => absurd hj (Nat.not_lt_zero j)) ?_ ?_
    · intro f e he
      refine ⟨fun _ => k1 d t rfl _ _ ?_ ⟨rfl, by omega, fun q hq => ?_⟩, fun q => absurd (Int32.le_refl _) q⟩
      · have := h5 0 (by omega)
        rw [List.getD_cons_zero, hl, show t.length + 1 - 1 - 0 = t.length by omega] at this
        exact this.kept (fun q => hd.2.2.1 q) (fun j hj => he j hj)
      · have := h5 (q + 1) (by omega)
        rw [List.getD_cons_succ, hl, show t.length + 1 - 1 - (q + 1) = t.length - 1 - q by omega] at this
        exact this
    · intro f i e hi he kk
      refine ⟨fun q => absurd q (nI_ge (b := 47) hi (by omega)), fun _ => ?_⟩
      rw [show (47 : Int32) * nI t.length = nI (47 * t.length) from pk_mul 47 _, nI_add, nI_clamp (by omega), nI_clamp (by omega), show nI i + (1 : Int32) = nI (i + 1) from nI_1 i]
      refine ⟨vin (by omega) (by omega), vin hi (by omega), ?_⟩
      rintro _ rfl _ rfl
      refine kk _ (fun j hj => ?_)
      by_cases e2 : j = i
      · subst e2; exact pk_us
      · rw [pk_un e2]; exact he j (by omega)
