/-! route -/
theorem sub_sub32 (a b c : Int32) : a - b - c = a - (b + c) := by rw [Int32.sub_eq_add_neg, Int32.sub_eq_add_neg, Int32.sub_eq_add_neg, Int32.neg_add, Int32.sub_eq_add_neg, Int32.add_assoc]
theorem dig3 {i j t w : Nat} (hj : j ≤ 9) (ht : t ≤ 9) (hw : w = 100 * i + 10 * j + t) : w / 100 = i ∧ w / 10 % 10 = j ∧ w % 10 = t := by
  have h1 : w / 10 = 10 * i + j := by omega
  refine ⟨by omega, ?_, by omega⟩
  rw [h1]; omega
theorem digr {i j w : Nat} (hj : j ≤ 9) (h1 : 100 * i + 10 * j ≤ w) (h2 : w < 100 * i + 10 * j + 10) : w / 100 = i ∧ w / 10 % 10 = j ∧ w % 10 = w - (100 * i + 10 * j) := dig3 hj (by omega) (by omega)
section RT
variable {B M : Nat} {d : Dy} {c p bk sort : Nat → Int32} {kb : Nat → Nat}
def pb (kb : Nat → Nat) (d : Dy) (b x : Nat) : Nat := orr (fun k => (dpl d b).getD (plc (kb b) (dpl d b).length k) 0) (min x (dpl d b).length)
theorem pb_lt (hW : WF B M d) (b x : Nat) : pb kb d b x < 2 ^ M := orr_lt (fun k hk => hW.own (plc_lt (by omega)))
theorem pb_none {b : Nat} (h : dpl d b = []) (x : Nat) : pb kb d b x = 0 := by unfold pb; rw [h, List.length_nil, Nat.min_zero]; rfl
theorem C_playedBits3 (hW : WF B M d) (hR : RC d c) (hK : SK B kb bk) {b x : Nat} (hb : b < 3) (hx : x < 2 ^ 30) {post : Int32 → Prop} (h : post (nI (pb kb d b x))) : wpX0_playedBits (nI B) bk c (nI b) (nI x) post := by
  have hB := hW.1
  by_cases q : b < B
  · refine C_kindOfBag hB hK q ?_
    have h3 := (hK b q).2
    refine C_playedBitsAs (gone := 0) hW hR (by omega) hx (by omega) (by omega) ?_
    have e : (fun k => (dpl d b).getD (if kb b = 1 then 0 + k else (dpl d b).length - 1 - k) 0) = (fun k => (dpl d b).getD (plc (kb b) (dpl d b).length k) 0) := by funext k; unfold plc; rw [Nat.zero_add]
    rw [e, Nat.sub_zero]; exact h
  · have e0 : dpl d b = [] := hW.2.2.2.2.1 b (by omega)
    rw [pb_none e0] at h
    refine ⟨fun z => absurd z (nI_pos (by omega)), fun _ => ⟨fun _ => ?_, fun z => absurd (nI_le (by omega) (by omega)) z⟩⟩
    refine C_breathsIn hW hR (by omega) ⟨1, ?_⟩
    rw [e0]
    exact ⟨fun _ => h, fun _ => ⟨fun _ => h, fun z => absurd (show nI 0 - (0 : Int32) ≤ 0 by decide) z⟩⟩
def los (kb : Nat → Nat) (d : Dy) (w : Nat) : Nat := pop ((pb kb d 0 (w / 100) ||| pb kb d 1 (w / 10 % 10)) ||| pb kb d 2 (w % 10))
theorem C_losersBy (hW : WF B M d) (hR : RC d c) (hK : SK B kb bk) {w : Nat} (hw : w < 1000) {post : Int32 → Prop} (h : post (nI (los kb d w))) : wpX4_losersBy (nI B) bk c (nI w) post := by
  have h5 := pw5 hW.2.1
  have l0 := pb_lt (kb := kb) hW 0 (w / 100)
  have l1 := pb_lt (kb := kb) hW 1 (w / 10 % 10)
  have l2 := pb_lt (kb := kb) hW 2 (w % 10)
  unfold wpX4_losersBy
  rw [show nI w - nI w / (10 : Int32) * (10 : Int32) = nI (w % 10) from pk_rem (d := 10) (by omega) (by omega) (by omega), show nI w / (100 : Int32) = nI (w / 100) from pk_div (d := 100) (by omega) (by omega) (by omega), show nI w / (10 : Int32) = nI (w / 10) from pk_div (d := 10) (by omega) (by omega) (by omega), show nI (w / 10) - nI (w / 10) / (10 : Int32) * (10 : Int32) = nI (w / 10 % 10) from pk_rem (d := 10) (by omega) (by omega) (by omega)]
  refine C_playedBits3 (b := 0) hW hR hK (by omega) (by omega) (C_playedBits3 (b := 1) hW hR hK (by omega) (by omega) (C_playedBits3 (b := 2) hW hR hK (by omega) (by omega) ?_))
  rintro _ rfl
  rw [nI_or, nI_or]
  exact C_bitCount (Nat.lt_of_lt_of_le (Nat.or_lt_two_pow (Nat.or_lt_two_pow l0 l1) l2) h5) h
abbrev fitP (d : Dy) (n w : Nat) : Prop := w / 100 ≤ (dpl d 0).length ∧ w / 10 % 10 ≤ (dpl d 1).length ∧ w % 10 ≤ (dpl d 2).length ∧ w / 100 + w / 10 % 10 + w % 10 = n
def bet (kb : Nat → Nat) (d : Dy) (o : Option Nat) (w : Nat) : Bool := match o with
  | none => true
  | some v => decide (los kb d w < los kb d v)
def bst (kb : Nat → Nat) (d : Dy) (n : Nat) : Nat → Option Nat
  | 0 => none
  | w + 1 => if fitP d n w ∧ bet kb d (bst kb d n w) w = true then some w else bst kb d n w
theorem bst_k {n : Nat} : ∀ (k a : Nat), (∀ w, a ≤ w → w < a + k → ¬ fitP d n w) → bst kb d n (a + k) = bst kb d n a
  | 0, a, _ => rfl
  | k + 1, a, h => by
    rw [← Nat.add_assoc, bst, if_neg (fun z => h (a + k) (by omega) (by omega) z.1), bst_k k a (fun w h1 h2 => h w h1 (by omega))]
theorem bst_skip {n a b : Nat} (hab : a ≤ b) (h : ∀ w, a ≤ w → w < b → ¬ fitP d n w) : bst kb d n b = bst kb d n a := by
  have := bst_k (kb := kb) (d := d) (n := n) (b - a) a (fun w h1 h2 => h w h1 (by omega))
  rw [show a + (b - a) = b by omega] at this
  exact this
theorem bst_lt {n : Nat} : ∀ {w v : Nat}, bst kb d n w = some v → v < w
  | 0, v, h => by cases h
  | w + 1, v, h => by
    rw [bst] at h
    split at h
    · cases h; omega
    · have := bst_lt h; omega
def sB (o : Option Nat) : Int32 := match o with
  | none => -9
  | some v => nI v
def sF (kb : Nat → Nat) (d : Dy) (o : Option Nat) : Int32 := match o with
  | none => 6
  | some v => nI (los kb d v)
theorem los_le (w : Nat) : los kb d w ≤ 5 := pop_le _
theorem C_bestWay (hW : WF B M d) (hR : RC d c) (hK : SK B kb bk) {n : Nat} (hn : n ≤ 20) {post : Int32 → Prop} (h : post (sB (bst kb d n 1000))) : wpX4_bestWay (nI B) bk c (nI n) post := by
  have l0 := hW.2.2.1 0
  have l1 := hW.2.2.1 1
  have l2 := hW.2.2.1 2
  refine for_up (P := fun f i => wpX4_bestWay_L9 (nI B) bk c (nI n) post f (sB (bst kb d n (100 * i))) (sF kb d (bst kb d n (100 * i))) (nI i)) ((dpl d 0).length + 1) ?_ ?_ 0 (by omega)
  · intro f
    refine C_breathsIn (b := 0) hW hR (by omega) ⟨fun _ => ?_, fun z => absurd (nI_lt (by omega) (by omega)) z⟩
    rw [← bst_skip (kb := kb) (d := d) (n := n) (a := 100 * ((dpl d 0).length + 1)) (b := 1000) (by omega) (fun w h1 h2 z => by have := z.1; omega)]
    exact h
  · intro f i hi ih
    have e1 : nI i + (1 : Int32) = nI (i + 1) := nI_1 i
    refine C_breathsIn (b := 0) hW hR (by omega) ⟨fun z => absurd z (nI_nlt (by omega) (by omega)), fun _ => ?_⟩
    refine for_up (P := fun f2 j => wpX4_bestWay_L22 (nI B) bk c (nI n) (nI i) (wpX4_bestWay_J101 (nI B) bk c (nI n) (wpX4_bestWay_L9 (nI B) bk c (nI n) post f) post) post f2 (sB (bst kb d n (100 * i + 10 * j))) (sF kb d (bst kb d n (100 * i + 10 * j))) (nI j)) ((dpl d 1).length + 1) ?_ ?_ 0 (by omega)
    · intro f2
      refine C_breathsIn (b := 1) hW hR (by omega) ⟨fun _ => ?_, fun z => absurd (nI_lt (by omega) (by omega)) z⟩
      rintro _ rfl
      rw [e1, ← bst_skip (kb := kb) (d := d) (n := n) (a := 100 * i + 10 * ((dpl d 1).length + 1)) (b := 100 * (i + 1)) (by omega) (fun w h1 h2 z => by have := z.2.1; omega)]
      exact ih
    · intro f2 j hj k
      have e2 : nI j + (1 : Int32) = nI (j + 1) := nI_1 j
      refine C_breathsIn (b := 1) hW hR (by omega) ⟨fun z => absurd z (nI_nlt (by omega) (by omega)), fun _ => ?_⟩
      rintro _ rfl
      rw [sub_sub32, nI_add]
      have no : (∀ w, 100 * i + 10 * j ≤ w → w < 100 * i + 10 * (j + 1) → ¬ fitP d n w) → wpX4_bestWay_J95 (nI B) bk c (nI n) (nI i) (wpX4_bestWay_L22 (nI B) bk c (nI n) (nI i) (wpX4_bestWay_J101 (nI B) bk c (nI n) (wpX4_bestWay_L9 (nI B) bk c (nI n) post f) post) post f2) post (sB (bst kb d n (100 * i + 10 * j))) (sF kb d (bst kb d n (100 * i + 10 * j))) (nI j) := by
        intro hno
        rintro _ rfl
        rw [e2, ← bst_skip (kb := kb) (d := d) (n := n) (a := 100 * i + 10 * j) (b := 100 * i + 10 * (j + 1)) (by omega) hno]
        exact k
      rcases Nat.lt_or_ge n (i + j) with q | q
      · refine ⟨fun _ => no (fun w h1 h2 z => ?_), fun z => absurd ?_ z⟩
        · have := z.2.2.2
          obtain ⟨y1, y2, y3⟩ := digr (by omega) h1 (by omega)
          omega
        · rw [Int32.lt_iff_toInt_lt, pk_sub_toInt (by omega) (by omega)]
          show _ < (0 : Int)
          omega
      · rw [pk_sub q]
        refine ⟨fun z => absurd z (nI_pos (by omega)), fun _ => C_breathsIn (b := 2) hW hR (by omega) (pk_le (n - (i + j)) (dpl d 2).length (fun z => ?_) (fun z => no (fun w h1 h2 y => ?_)))⟩
        · rintro _ rfl
          rw [show (100 : Int32) * nI i = nI (100 * i) from pk_mul 100 i, show (10 : Int32) * nI j = nI (10 * j) from pk_mul 10 j, nI_add, nI_add]
          refine C_losersBy hW hR hK (by omega) ?_
          have hl := los_le (kb := kb) (d := d) (100 * i + 10 * j + (n - (i + j)))
          have hfit : fitP d n (100 * i + 10 * j + (n - (i + j))) := by
            obtain ⟨y1, y2, y3⟩ := dig3 (i := i) (j := j) (t := n - (i + j)) (by omega) (by omega) rfl
            refine ⟨?_, ?_, ?_, ?_⟩ <;> omega
          have s1 : bst kb d n (100 * i + 10 * j + (n - (i + j))) = bst kb d n (100 * i + 10 * j) := bst_skip (by omega) (fun w h1 h2 y => by have := y.2.2.2; obtain ⟨y1, y2, y3⟩ := digr (i := i) (j := j) (w := w) (by omega) (by omega) (by omega); omega)
          have s2 : bst kb d n (100 * i + 10 * (j + 1)) = bst kb d n (100 * i + 10 * j + (n - (i + j)) + 1) := bst_skip (by omega) (fun w h1 h2 y => by have := y.2.2.2; obtain ⟨y1, y2, y3⟩ := digr (i := i) (j := j) (w := w) (by omega) (by omega) (by omega); omega)
          rw [s2, bst, s1] at k
          refine ⟨fun y => ?_, fun y => ?_⟩
          · rw [if_neg] at k
            · rintro _ rfl
              rw [e2]; exact k
            · rintro ⟨-, hb⟩
              cases ho : bst kb d n (100 * i + 10 * j) with
              | none =>
                rw [ho] at y
                exact absurd y (nI_ge (b := 6) (by omega) (by omega))
              | some v =>
                rw [ho] at y hb
                have hl2 := los_le (kb := kb) (d := d) v
                have := (nI_leI (by omega) (by omega)).mp y
                have := of_decide_eq_true hb
                omega
          · rw [if_pos] at k
            · rintro _ rfl
              rw [e2]; exact k
            · refine ⟨hfit, ?_⟩
              cases ho : bst kb d n (100 * i + 10 * j) with
              | none => rfl
              | some v =>
                rw [ho] at y
                have hl2 := los_le (kb := kb) (d := d) v
                refine decide_eq_true (Nat.lt_of_not_le (fun x => y (nI_le x (by omega))))
        · have h5 := y.2.2.1
          have h6 := y.2.2.2
          obtain ⟨y1, y2, y3⟩ := digr (i := i) (j := j) (w := w) (by omega) (by omega) (by omega)
          omega
theorem C_figuresOf (hB : B ≤ 3) {v : Nat} (hv : v < 2 ^ 30) {post : Int32 → Prop} (h : post (nI (v / 10 ^ (3 - B)))) : wpX4_figuresOf (nI B) (nI v) post := by
  have key : ∀ k i, i + k = 3 → B ≤ i → wpX4_figuresOf_L7 (nI B) (nI v) post (k + 1) (nI (v / 10 ^ (i - B))) (nI i) := by
    intro k
    induction k with
    | zero =>
      intro i hi hBi
      rw [show i = 3 by omega]
      exact ⟨fun _ => h, fun q => absurd (show (3 : Int32) ≤ nI 3 by decide) q⟩
    | succ k ih =>
      intro i hi hBi
      refine ⟨fun q => absurd q (nI_ge (b := 3) (by omega) (by omega)), fun _ => ?_⟩
      have := ih (i + 1) (by omega) (by omega)
      have hd : v / 10 ^ (i - B) ≤ v := Nat.div_le_self _ _
      rintro _ rfl _ rfl
      rw [show nI i + (1 : Int32) = nI (i + 1) from nI_1 i, show nI (v / 10 ^ (i - B)) / (10 : Int32) = nI (v / 10 ^ (i - B) / 10) from pk_div (d := 10) (by omega) (by omega) (by omega), Nat.div_div_eq_div_mul, ← Nat.pow_succ, show (i - B).succ = i + 1 - B by omega]
      exact this
  have := key (3 - B) B (by omega) (Nat.le_refl B)
  rw [Nat.sub_self, Nat.pow_zero, Nat.div_one] at this
  exact ⟨_, this⟩
theorem M_losers (hW : WF B M d) (hR : RM d p) (hK : SK B kb sort) {b x : Nat} (hb : b < B) (hx : x ≤ (dpl d b).length) {post : Int32 → Prop} (h : post (nI (pb kb d b x))) : wpX7_losers sort p (nI b) (nI x) post := by
  have hB := hW.1
  have hM := hW.2.1
  have h9 := hW.2.2.1 b
  unfold pb at h
  rw [Nat.min_eq_left hx] at h
  refine for_up (P := fun f i => wpX7_losers_L5 sort p (nI b) (nI x) post f (nI (orr (fun k => (dpl d b).getD (plc (kb b) (dpl d b).length k) 0) i)) (nI i)) x ?_ ?_ 0 (by omega)
  · intro f; exact ⟨fun _ => h, fun q => absurd (Int32.le_refl _) q⟩
  · intro f i hi k
    have hp := plc_lt (kind := kb b) (show i < (dpl d b).length by omega)
    have ho := hW.own hp
    have h3 := (hK b hb).2
    refine ⟨fun q => absurd q (nI_ge hi (by omega)), fun _ => ⟨vin (by omega) (by omega), vin (by omega) (by omega), ?_⟩⟩
    rw [nI_clamp (by omega), hR.2.2.2.2.2.1 b (by omega), (hK b hb).1]
    refine M_placeOf (by omega) (by omega) (M_breath hW hR hp ?_)
    rintro _ rfl _ rfl
    rw [orr] at k
    rw [show (1 : Int32) <<< (nI ((dpl d b).getD (plc (kb b) (dpl d b).length i) 0) &&& 31) = nI (2 ^ (dpl d b).getD (plc (kb b) (dpl d b).length i) 0) from sh1 (by omega), nI_or, show nI i + (1 : Int32) = nI (i + 1) from nI_1 i]
    exact k
def dg (w b : Nat) : Nat := w / 10 ^ (2 - b) % 10
def fto (d : Dy) (w : Nat) : Nat → Bool
  | 0 => true
  | j + 1 => fto d w j && decide (dg w j ≤ (dpl d j).length)
def sw (kb : Nat → Nat) (d : Dy) (w : Nat) : Nat → Nat
  | 0 => 0
  | j + 1 => sw kb d w j ||| (if fto d w (j + 1) = true then pb kb d j (dg w j) else 0)
theorem sw_lt (hW : WF B M d) (w : Nat) : ∀ j, sw kb d w j < 2 ^ M
  | 0 => Nat.two_pow_pos M
  | j + 1 => by
    rw [sw]
    refine Nat.or_lt_two_pow (sw_lt hW w j) ?_
    split
    · exact pb_lt hW _ _
    · exact Nat.two_pow_pos M
theorem dg_eq (hB : B ≤ 3) {k b : Nat} (hb : b < B) : k / 10 ^ (B - 1 - b) % 10 = dg (k * 10 ^ (3 - B)) b := by
  unfold dg
  rw [show 2 - b = (B - 1 - b) + (3 - B) by omega, Nat.pow_add, Nat.mul_div_mul_right _ _ (Nat.pow_pos (by omega))]
theorem sm_dg (w : Nat) : ∀ j, sm (dg w) j ≤ j * 9 := fun j => sm_le (fun k _ => by unfold dg; omega)
theorem dg3 {w : Nat} (hw : w < 1000) : dg w 0 = w / 100 ∧ dg w 1 = w / 10 % 10 ∧ dg w 2 = w % 10 := by
  refine ⟨?_, rfl, ?_⟩
  · show w / 100 % 10 = _; omega
  · show w / 1 % 10 = _; omega
theorem fit_iff (hW : WF B M d) {n k : Nat} (hn : 1 ≤ n) (hk : k < 10 ^ B) (hw : k * 10 ^ (3 - B) < 1000) : fitP d n (k * 10 ^ (3 - B)) ↔ (fto d (k * 10 ^ (3 - B)) B = true ∧ sm (dg (k * 10 ^ (3 - B))) B = n) := by
  have hB := hW.1
  have e := hW.2.2.2.2.1
  obtain ⟨d0, d1, d2⟩ := dg3 hw
  have z2 : B ≤ 2 → k * 10 ^ (3 - B) % 10 = 0 := by
    intro h
    rw [show 3 - B = (2 - B) + 1 by omega, Nat.pow_succ, ← Nat.mul_assoc]; omega
  have z1 : B ≤ 1 → k * 10 ^ (3 - B) / 10 % 10 = 0 := by
    intro h
    rw [show 3 - B = (1 - B) + 1 + 1 by omega, Nat.pow_succ, Nat.pow_succ, ← Nat.mul_assoc, ← Nat.mul_assoc]; omega
  generalize k * 10 ^ (3 - B) = w at hw d0 d1 d2 z2 z1
  rcases (show B = 0 ∨ B = 1 ∨ B = 2 ∨ B = 3 by omega) with rfl | rfl | rfl | rfl
  · have e0 : (dpl d 0).length = 0 := by rw [e 0 (by omega)]; rfl
    simp only [fto, sm]
    constructor
    · rintro ⟨h1, -, -, h4⟩
      have := z2 (by omega)
      have := z1 (by omega)
      omega
    · rintro ⟨-, h⟩; omega
  · have e1 : (dpl d 1).length = 0 := by rw [e 1 (by omega)]; rfl
    have e2 : (dpl d 2).length = 0 := by rw [e 2 (by omega)]; rfl
    have y2 := z2 (by omega)
    have y1 := z1 (by omega)
    simp only [fto, sm, d0, Bool.true_and, decide_eq_true_eq]
    simp only [fitP, e1, e2, y1, y2]
    constructor
    · rintro ⟨h1, h2, h3, h4⟩; omega
    · rintro ⟨h1, h2⟩; omega
  · have e2 : (dpl d 2).length = 0 := by rw [e 2 (by omega)]; rfl
    have y2 := z2 (by omega)
    simp only [fto, sm, d0, d1, Bool.true_and, Bool.and_eq_true, decide_eq_true_eq]
    simp only [fitP, e2, y2]
    constructor
    · rintro ⟨h1, h2, h3, h4⟩; exact ⟨⟨h1, h2⟩, by omega⟩
    · rintro ⟨⟨h1, h2⟩, h3⟩; exact ⟨h1, h2, by omega, by omega⟩
  · simp only [fto, sm, d0, d1, d2, Bool.true_and, Bool.and_eq_true, decide_eq_true_eq]
    simp only [fitP]
    constructor
    · rintro ⟨h1, h2, h3, h4⟩; exact ⟨⟨⟨h1, h2⟩, h3⟩, by omega⟩
    · rintro ⟨⟨⟨h1, h2⟩, h3⟩, h4⟩; exact ⟨h1, h2, h3, by omega⟩
theorem fto_mono {w : Nat} : ∀ {j i : Nat}, fto d w j = true → i ≤ j → fto d w i = true
  | 0, i, h, hi => by rw [show i = 0 by omega]; rfl
  | j + 1, i, h, hi => by
    rcases Nat.lt_or_ge i (j + 1) with z | z
    · rw [fto, Bool.and_eq_true] at h
      exact fto_mono h.1 (by omega)
    · rw [show i = j + 1 by omega]; exact h
theorem sw_los (hW : WF B M d) {w : Nat} (hw : w < 1000) (hf : fto d w B = true) : pop (sw kb d w B) = los kb d w := by
  have hB := hW.1
  have e := hW.2.2.2.2.1
  obtain ⟨d0, d1, d2⟩ := dg3 hw
  unfold los
  congr 1
  rcases (show B = 0 ∨ B = 1 ∨ B = 2 ∨ B = 3 by omega) with rfl | rfl | rfl | rfl
  · rw [pb_none (e 0 (by omega)), pb_none (e 1 (by omega)), pb_none (e 2 (by omega))]; rfl
  · rw [sw, if_pos (fto_mono hf (by omega)), pb_none (e 1 (by omega)), pb_none (e 2 (by omega)), d0, sw]; simp
  · rw [sw, if_pos (fto_mono hf (by omega)), sw, if_pos (fto_mono hf (by omega)), pb_none (e 2 (by omega)), d0, d1, sw]; simp
  · rw [sw, if_pos (fto_mono hf (by omega)), sw, if_pos (fto_mono hf (by omega)), sw, if_pos (fto_mono hf (by omega)), d0, d1, d2, sw]; simp
def mW (B : Nat) (o : Option Nat) : Int32 := match o with
  | none => -9
  | some v => nI (v / 10 ^ (3 - B))
def mF (kb : Nat → Nat) (d : Dy) (o : Option Nat) : Int32 := match o with
  | none => -9
  | some v => nI (los kb d v)
theorem bst_next (hW : WF B M d) {n k : Nat} (hn : 1 ≤ n) (hk : k < 10 ^ B) : bst kb d n ((k + 1) * 10 ^ (3 - B)) = bst kb d n (k * 10 ^ (3 - B) + 1) := by
  have hB := hW.1
  have e := hW.2.2.2.2.1
  have hp : 0 < 10 ^ (3 - B) := Nat.pow_pos (by omega)
  rw [Nat.add_mul, Nat.one_mul]
  refine bst_skip (by omega) (fun w h1 h2 z => ?_)
  obtain ⟨z1, z2, z3, z4⟩ := z
  rcases (show B = 0 ∨ B = 1 ∨ B = 2 ∨ B = 3 by omega) with rfl | rfl | rfl | rfl
  · have e0 : (dpl d 0).length = 0 := by rw [e 0 (by omega)]; rfl
    have e1 : (dpl d 1).length = 0 := by rw [e 1 (by omega)]; rfl
    have e2 : (dpl d 2).length = 0 := by rw [e 2 (by omega)]; rfl
    omega
  · have e1 : (dpl d 1).length = 0 := by rw [e 1 (by omega)]; rfl
    have e2 : (dpl d 2).length = 0 := by rw [e 2 (by omega)]; rfl
    omega
  · have e2 : (dpl d 2).length = 0 := by rw [e 2 (by omega)]; rfl
    omega
  · omega
theorem M_findRoute (hW : WF B M d) (hR : RM d p) (hK : SK B kb sort) {n : Nat} (hn1 : 1 ≤ n) (hn : n ≤ 20) {rf rw' : Int32} {post : Int32 → Int32 → Prop} (h : post (mF kb d (bst kb d n 1000)) (mW B (bst kb d n 1000))) : wpX7_findRoute (nI B) sort p rf rw' (nI n) post := by
  have hB := hW.1
  have hM := hW.2.1
  have h5 := pw5 hM
  have h10 : 10 ^ B ≤ 10 ^ 3 := Nat.pow_le_pow_right (by omega) hB
  have hpe : 10 ^ B * 10 ^ (3 - B) = 1000 := by rw [← Nat.pow_add, show B + (3 - B) = 3 by omega]
  suffices main : ∃ f, wpX7_findRoute_L14 (nI B) sort p (nI n) post f (mF kb d (bst kb d n (0 * 10 ^ (3 - B)))) (mW B (bst kb d n (0 * 10 ^ (3 - B)))) (nI 0) by
    rw [Nat.zero_mul] at main; exact main
  refine for_up (P := fun f k => wpX7_findRoute_L14 (nI B) sort p (nI n) post f (mF kb d (bst kb d n (k * 10 ^ (3 - B)))) (mW B (bst kb d n (k * 10 ^ (3 - B)))) (nI k)) (10 ^ B) ?_ ?_ 0 (Nat.zero_le _)
  · intro f
    refine M_power (a := 10) (by omega) ⟨fun _ => ?_, fun q => absurd (Int32.le_refl _) q⟩
    rw [hpe]; exact h
  · intro f k hk ih
    refine M_power (a := 10) (by omega) ⟨fun q => absurd q (nI_ge hk (by omega)), fun _ => ?_⟩
    have hp : 0 < 10 ^ (3 - B) := Nat.pow_pos (by omega)
    have hw : k * 10 ^ (3 - B) < 1000 := by rw [← hpe]; exact Nat.mul_lt_mul_of_pos_right hk hp
    have hfi := fit_iff (d := d) hW hn1 hk hw
    rw [bst_next hW hn1 hk, bst] at ih
    generalize hwe : k * 10 ^ (3 - B) = w at hw hfi ih
    have e1 : nI k + (1 : Int32) = nI (k + 1) := nI_1 k
    refine for_up (P := fun f2 j => wpX7_findRoute_L38 (nI B) sort p (nI n) (mF kb d (bst kb d n w)) (mW B (bst kb d n w)) (nI k) (wpX7_findRoute_J125 (nI B) sort p (nI n) (wpX7_findRoute_L14 (nI B) sort p (nI n) post f) post) post f2 (nI (sm (dg w) j)) (nI (sw kb d w j)) (if fto d w j = true then (1 : Int32) else 0) (nI j)) B ?_ ?_ 0 (by omega)
    · intro f2
      refine ⟨fun _ => ?_, fun q => absurd (Int32.le_refl _) q⟩
      have hsm := sm_dg w B
      have hsl := sw_lt (kb := kb) hW w B
      have no : ¬ (fitP d n w ∧ bet kb d (bst kb d n w) w = true) → wpX7_findRoute_J170 (nI B) sort p (nI n) (wpX7_findRoute_L14 (nI B) sort p (nI n) post f) post (mF kb d (bst kb d n w)) (mW B (bst kb d n w)) (nI k) := by
        intro hno
        rw [if_neg hno] at ih
        rintro _ rfl
        rw [e1]; exact ih
      have yes : fitP d n w ∧ bet kb d (bst kb d n w) w = true → fto d w B = true → wpX7_findRoute_J156 (nI B) sort p (nI n) (wpX7_findRoute_L14 (nI B) sort p (nI n) post f) post (mF kb d (bst kb d n w)) (mW B (bst kb d n w)) (nI k) (nI (sw kb d w B)) := by
        intro hy hft
        rw [if_pos hy] at ih
        refine M_many (by omega) ?_
        rw [sw_los hW hw hft]
        rintro _ rfl
        rw [e1]
        have ih : wpX7_findRoute_L14 (nI B) sort p (nI n) post f (nI (los kb d w)) (nI (w / 10 ^ (3 - B))) (nI (k + 1)) := ih
        rw [← hwe, Nat.mul_div_cancel _ hp] at ih
        rw [← hwe]; exact ih
      refine ⟨fun z => no (fun y => ?_), fun z => ⟨fun y => no (fun x => ?_), fun y => ⟨fun x => yes ?_ ?_, fun x => ?_⟩⟩⟩
      · rw [(hfi.mp y.1).1] at z; exact absurd z (by decide)
      · exact y (by rw [(hfi.mp x.1).2])
      all_goals
        have hft : fto d w B = true := by
          cases q : fto d w B with
          | true => rfl
          | false => rw [q] at z; exact absurd rfl z
        have hfit := hfi.mpr ⟨hft, (nI_eq (by omega) (by omega)).mp y⟩
      · refine ⟨hfit, ?_⟩
        cases ho : bst kb d n w with
        | none => rfl
        | some v =>
          rw [ho] at x
          have hl2 := los_le (kb := kb) (d := d) v
          have : (nI (los kb d v)).toInt = -9 := by rw [show nI (los kb d v) = -9 from x]; decide
          rw [nI_toInt (by omega)] at this
          omega
      · exact hft
      · refine M_many (by omega) ?_
        rw [sw_los hW hw hft]
        have hl := los_le (kb := kb) (d := d) w
        cases ho : bst kb d n w with
        | none => rw [ho] at x; exact absurd rfl x
        | some v =>
          have hl2 := los_le (kb := kb) (d := d) v
          rw [← ho]
          rw [show mF kb d (bst kb d n w) = nI (los kb d v) by rw [ho]; rfl] at *
          refine pk_le (los kb d v) (los kb d w) (fun q => no (fun r => ?_)) (fun q => yes ⟨hfit, ?_⟩ hft)
          · have r2 := r.2
            rw [ho] at r2
            have := of_decide_eq_true r2
            omega
          · rw [ho]; exact decide_eq_true q
    · intro f2 j hj k2
      have hsm := sm_dg w j
      have hdg : dg w j ≤ 9 := by unfold dg; omega
      have e2 : nI j + (1 : Int32) = nI (j + 1) := nI_1 j
      have hpp : 0 < 10 ^ (B - 1 - j) := Nat.pow_pos (by omega)
      have hp3 : 10 ^ (B - 1 - j) ≤ 10 ^ 3 := Nat.pow_le_pow_right (by omega) (by omega)
      have hkd : k / 10 ^ (B - 1 - j) ≤ k := Nat.div_le_self _ _
      have l9 := hW.2.2.1 j
      refine ⟨fun q => absurd q (nI_ge hj (by omega)), fun _ => ?_⟩
      rw [nI_s1 (by omega), pk_sub (by omega)]
      refine M_power (a := 10) (by omega) ⟨fun q => absurd ((nI_eq (b := 0) (by omega) (by omega)).mp q) (by omega), ?_⟩
      rw [pk_div (by omega) hpp (by omega), show nI (k / 10 ^ (B - 1 - j)) - nI (k / 10 ^ (B - 1 - j)) / (10 : Int32) * (10 : Int32) = nI (k / 10 ^ (B - 1 - j) % 10) from pk_rem (d := 10) (by omega) (by omega) (by omega), dg_eq hB hj, hwe]
      rintro _ rfl
      rw [nI_add]
      rintro _ rfl
      rw [sm, sw, fto] at k2
      have bad : (fto d w j && decide (dg w j ≤ (dpl d j).length)) = false → wpX7_findRoute_J94 (nI B) sort p (nI n) (mF kb d (bst kb d n w)) (mW B (bst kb d n w)) (nI k) (wpX7_findRoute_L38 (nI B) sort p (nI n) (mF kb d (bst kb d n w)) (mW B (bst kb d n w)) (nI k) (wpX7_findRoute_J125 (nI B) sort p (nI n) (wpX7_findRoute_L14 (nI B) sort p (nI n) post f) post) post f2) post (nI (sm (dg w) j + dg w j)) (nI (sw kb d w j)) (nI j) (nI (dg w j)) := by
        intro hb
        rw [hb] at k2
        refine ⟨fun _ => ?_, fun q => absurd rfl q⟩
        rintro _ rfl _ rfl
        rw [e2, show nI (sw kb d w j) ||| (0 : Int32) = nI (sw kb d w j ||| 0) from nI_or _ 0]
        exact k2
      refine ⟨fun q => bad ?_, fun q => ⟨vin (by omega) (by omega), ?_⟩⟩
      · rw [if10.mp q]; rfl
      · have hft : fto d w j = true := by
          cases z : fto d w j with
          | true => rfl
          | false => rw [z] at q; exact absurd rfl q
        rw [nI_clamp (by omega), hR.2.2.2.2.2.1 j (by omega)]
        refine pk_lt (dpl d j).length (dg w j) (fun z => bad ?_) (fun z => ⟨fun y => absurd y (by decide), fun _ => M_losers hW hR hK hj z ?_⟩)
        · rw [decide_eq_false (by omega), Bool.and_false]
        · rw [hft, decide_eq_true z] at k2
          rintro _ rfl _ rfl
          rw [e2, nI_or]
          exact k2
end RT
section OB
variable {c_text_letters : Nat → Int32} {c_text_length : Int32} {c_now_bags : Int32} {c_now_men : Int32} {c_now_bagKinds : Nat → Int32} {c_now_manKinds : Nat → Int32} {c_now_cells : Nat → Int32} {c_trial_bags : Int32} {c_trial_men : Int32} {c_trial_bagKinds : Nat → Int32} {c_trial_manKinds : Nat → Int32} {c_trial_cells : Nat → Int32} {c_past_rows : Nat → Int32} {c_past_next : Int32} {c_past_count : Int32} {c_slots_rows : Nat → Int32} {c_slots_keptBits : Int32} {c_felt_men : Nat → Int32} {c_felt_bags : Nat → Int32} {c_felt_lengths : Nat → Int32} {c_felt_played : Nat → Int32} {c_felt_count : Int32} {c_chance : Int64} {m_thrown : Int32} {m_text : Nat → Int32} {m_textSize : Int32} {m_place : Int32} {m_bags : Int32} {m_sort : Nat → Int32} {m_men : Int32} {m_kind : Nat → Int32} {m_readBags : Int32} {m_readSort : Nat → Int32} {m_readMen : Int32} {m_readMan : Nat → Int32} {m_readPage : Nat → Int32} {m_page : Nat → Int32} {m_trial : Nat → Int32} {m_book : Nat → Int32} {m_acts : Int32} {m_kept : Nat → Int32} {m_isKept : Nat → Int32} {m_felt : Int32} {m_feltMan : Nat → Int32} {m_feltBag : Nat → Int32} {m_feltMany : Nat → Int32} {m_feltIs : Nat → Int32} {m_seed : Int64} {m_routeFew : Int32} {m_routeWay : Int32} {m_whichMany : Int32} {m_whichFirst : Int32} {m_restMany : Int32} {m_restFirst : Int32} {m_gains : Nat → Int32} {m_value : Nat → Int32}
set_option maxRecDepth 20000 in
set_option maxHeartbeats 2000000 in
theorem O_route (hR : Rel c_text_letters c_text_length c_now_bags c_now_men c_now_bagKinds c_now_manKinds c_now_cells c_trial_bags c_trial_men c_trial_bagKinds c_trial_manKinds c_trial_cells c_past_rows c_past_next c_past_count c_slots_rows c_slots_keptBits c_felt_men c_felt_bags c_felt_lengths c_felt_played c_felt_count c_chance m_thrown m_text m_textSize m_place m_bags m_sort m_men m_kind m_readBags m_readSort m_readMen m_readMan m_readPage m_page m_trial m_book m_acts m_kept m_isKept m_felt m_feltMan m_feltBag m_feltMany m_feltIs m_seed m_routeFew m_routeWay m_whichMany m_whichFirst m_restMany m_restFirst m_gains m_value) (x1 : Int32) (x2 : Int32) : wpX6_route c_now_bags c_now_bagKinds c_now_cells x1 x2 (fun r => wpX7_route m_thrown m_bags m_sort m_page m_routeFew m_routeWay x1 x2 (fun r' m_thrown' m_routeFew' m_routeWay' => r = r' ∧ Rel c_text_letters c_text_length c_now_bags c_now_men c_now_bagKinds c_now_manKinds c_now_cells c_trial_bags c_trial_men c_trial_bagKinds c_trial_manKinds c_trial_cells c_past_rows c_past_next c_past_count c_slots_rows c_slots_keptBits c_felt_men c_felt_bags c_felt_lengths c_felt_played c_felt_count c_chance m_thrown' m_text m_textSize m_place m_bags m_sort m_men m_kind m_readBags m_readSort m_readMen m_readMan m_readPage m_page m_trial m_book m_acts m_kept m_isKept m_felt m_feltMan m_feltBag m_feltMany m_feltIs m_seed m_routeFew' m_routeWay' m_whichMany m_whichFirst m_restMany m_restFirst m_gains m_value)) := by
  obtain ⟨B, M, kb, km, d, h, kp, fe, fn, tx, tn, ⟨hW, rfl, rfl, hbk, hmk, hC, rfl, rfl, hso, hki, hM⟩, ⟨hh, hcp, hmp⟩, hS, hF, hT, hE⟩ := id hR
  have hB3 := hW.1
  have hM5 := hW.2.1
  cases h1 : rg 1 20 x1 with
  | none => exact rgn_lt (lo := 1) (hi := 20) (by omega) (by omega) h1 (M_in_n (lo := 1) (hi := 20) rfl rfl (by omega) (by omega) h1 ⟨fun _ => ⟨rfl, ⟨B, M, kb, km, d, h, kp, fe, fn, tx, tn, ⟨hW, rfl, rfl, hbk, hmk, hC, rfl, rfl, hso, hki, hM⟩, ⟨hh, hcp, hmp⟩, hS, hF, hT, hE⟩⟩, fun q => absurd rfl q⟩)
  | some n =>
    refine rgs_lt (lo := 1) (hi := 20) (by omega) (by omega) h1 ?_
    cases h2 : rg 0 1 x2 with
    | none => exact rgn_le (lo := 0) (hi := 1) (by omega) (by omega) h2 (M_in_s (lo := 1) (hi := 20) rfl rfl (by omega) (by omega) h1 ⟨fun q => absurd q (by decide), fun _ => M_in_n (lo := 0) (hi := 1) rfl rfl (by omega) (by omega) h2 ⟨fun q => absurd rfl q, fun _ => ⟨rfl, ⟨B, M, kb, km, d, h, kp, fe, fn, tx, tn, ⟨hW, rfl, rfl, hbk, hmk, hC, rfl, rfl, hso, hki, hM⟩, ⟨hh, hcp, hmp⟩, hS, hF, hT, hE⟩⟩⟩⟩)
    | some k =>
      refine rgs_le (lo := 0) (hi := 1) (by omega) (by omega) h2 ?_
      obtain ⟨n1, n2, rfl⟩ := rg_some h1
      obtain ⟨-, k1, rfl⟩ := rg_some h2
      refine C_bestWay hW hC hbk n2 ?_
      have mod : ∀ r, r = (if k = 0 then mF kb d (bst kb d n 1000) else mW B (bst kb d n 1000)) → wpX7_route m_thrown (nI B) m_sort m_page m_routeFew m_routeWay (nI n) (nI k) (fun r' m_thrown' m_routeFew' m_routeWay' => r = r' ∧ Rel c_text_letters c_text_length (nI B) (nI M) c_now_bagKinds c_now_manKinds c_now_cells c_trial_bags c_trial_men c_trial_bagKinds c_trial_manKinds c_trial_cells c_past_rows c_past_next c_past_count c_slots_rows c_slots_keptBits c_felt_men c_felt_bags c_felt_lengths c_felt_played c_felt_count c_chance m_thrown' m_text m_textSize m_place (nI B) m_sort (nI M) m_kind m_readBags m_readSort m_readMen m_readMan m_readPage m_page m_trial m_book m_acts m_kept m_isKept m_felt m_feltMan m_feltBag m_feltMany m_feltIs m_seed m_routeFew' m_routeWay' m_whichMany m_whichFirst m_restMany m_restFirst m_gains m_value) := by
        intro r er
        refine M_in_s (lo := 1) (hi := 20) rfl rfl (by omega) (by omega) h1 ⟨fun q => absurd q (by decide), fun _ => M_in_s (lo := 0) (hi := 1) rfl rfl (by omega) (by omega) h2 ⟨fun _ => M_findRoute hW hM hso n1 n2 ⟨fun q => ⟨?_, ⟨B, M, kb, km, d, h, kp, fe, fn, tx, tn, ⟨hW, rfl, rfl, hbk, hmk, hC, rfl, rfl, hso, hki, hM⟩, ⟨hh, hcp, hmp⟩, hS, hF, hT, hE⟩⟩, fun q => ⟨?_, ⟨B, M, kb, km, d, h, kp, fe, fn, tx, tn, ⟨hW, rfl, rfl, hbk, hmk, hC, rfl, rfl, hso, hki, hM⟩, ⟨hh, hcp, hmp⟩, hS, hF, hT, hE⟩⟩⟩, fun q => absurd q (by decide)⟩⟩
        · rw [if_neg (fun z => q (by rw [z]; rfl))] at er; exact er
        · rw [if_pos ((nI_eq (b := 0) (by omega) (by omega)).mp q)] at er; exact er
      cases ho : bst kb d n 1000 with
      | none =>
        rw [ho] at mod
        exact ⟨fun q => absurd rfl q, fun _ => mod _ (by split <;> rfl)⟩
      | some v =>
        rw [ho] at mod
        have hv := bst_lt ho
        refine ⟨fun _ => ⟨fun q => C_figuresOf hB3 (by omega) (mod _ ?_), fun q => C_losersBy hW hC hbk hv (mod _ ?_)⟩, fun q => ?_⟩
        · rw [if_neg (fun z => q (by rw [z]; rfl))]; rfl
        · rw [if_pos ((nI_eq (b := 0) (by omega) (by omega)).mp q)]; rfl
        · have : (nI v).toInt = -9 := by rw [show nI v = -9 from q]; decide
          rw [nI_toInt (by omega)] at this
          omega
end OB
