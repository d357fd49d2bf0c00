/-! the reference: its leaves and its doings -/
theorem sub1 (x : Int32) : x - (1 : Int32) = x + (-1 : Int32) := by
  apply Int32.toBitVec_inj.mp
  simp only [Int32.toBitVec_sub, Int32.toBitVec_add]
  rw [BitVec.sub_eq_add_neg]
  rfl
theorem lgc_lt (a b : Int64) : lg_cmp a b < 0 ↔ a < b := by
  unfold lg_cmp
  by_cases h1 : a > b
  · rw [if_pos h1]
    exact ⟨fun h => absurd h (by decide), fun h => absurd h (lg_lt_not h1)⟩
  · rw [if_neg h1]
    by_cases h2 : a = b
    · rw [if_pos h2]
      exact ⟨fun h => absurd h (by decide), fun h => absurd h2 (lg_lt_ne h)⟩
    · rw [if_neg h2]
      refine ⟨fun _ => ?_, fun _ => by decide⟩
      simp only [GT.gt, Int64.lt_iff_toInt_lt, ← Int64.toInt_inj] at *
      omega
theorem lgc_gt (a b : Int64) : 0 < lg_cmp a b ↔ b < a := by
  unfold lg_cmp
  by_cases h1 : a > b
  · rw [if_pos h1]
    exact ⟨fun _ => h1, fun _ => by decide⟩
  · rw [if_neg h1]
    by_cases h2 : a = b
    · rw [if_pos h2]
      exact ⟨fun h => absurd h (by decide), fun h => absurd h h1⟩
    · rw [if_neg h2]
      exact ⟨fun h => absurd h (by decide), fun h => absurd h h1⟩
theorem wide_lt (a b : Int32) : a.toInt64 < b.toInt64 ↔ a < b := by
  rw [Int64.lt_iff_toInt_lt, Int32.lt_iff_toInt_lt, Int32.toInt_toInt64, Int32.toInt_toInt64]
theorem M_in_t {v a b : Int64} {post : Int32 → Prop} (h1 : ¬ v < a) (h2 : ¬ b < v) (h : post 1) : wpX7_in v a b post := ⟨fun q => absurd ((lgc_lt _ _).mp q) h1, fun _ => ⟨fun q => absurd ((lgc_gt _ _).mp q) h2, fun _ => h⟩⟩
theorem M_in_f {v a b : Int64} {post : Int32 → Prop} (h1 : v < a ∨ b < v) (h : post 0) : wpX7_in v a b post := by
  refine ⟨fun _ => h, fun q => ⟨fun _ => h, fun q2 => ?_⟩⟩
  rcases h1 with z | z
  · exact absurd ((lgc_lt _ _).mpr z) q
  · exact absurd ((lgc_gt _ _).mpr z) q2
theorem M_in {x : Int32} {a b : Int64} (lo hi : Nat) {post : Int32 → Prop} (ha : a = (nI lo).toInt64) (hb : b = (nI hi).toInt64) (hl : lo < 2 ^ 31) (hh : hi < 2 ^ 31) (h1 : ∀ k, rg lo hi x = some k → post 1) (h0 : rg lo hi x = none → post 0) : wpX7_in x.toInt64 a b post := by
  subst ha hb
  cases q : rg lo hi x with
  | none =>
    refine M_in_f ?_ (h0 q)
    rw [wide_lt, wide_lt]
    exact rg_none hh hl q
  | some k =>
    obtain ⟨k1, k2, rfl⟩ := rg_some q
    refine M_in_t ?_ ?_ (h1 k q)
    · rw [wide_lt]; exact nI_nlt k1 (by omega)
    · rw [wide_lt]; exact nI_nlt k2 hh
theorem M_no_t {n b : Nat} {post : Int32 → Prop} (hb : b < n) (hn : n < 2 ^ 31) (h : post 0) : wpX7_noBag (nI n) (nI b) post := by
  refine M_in_t ?_ ?_ ⟨fun _ => h, fun q => absurd q (by decide)⟩
  · rw [show (0 : Int64) = (0 : Int32).toInt64 from rfl, wide_lt]; exact nI_pos (by omega)
  · rw [wide_lt, nI_s1 (by omega)]; exact nI_nlt (by omega) (by omega)
theorem M_no_f {n : Nat} {x : Int32} {post : Int32 → Prop} (hn : n < 2 ^ 31) (hx : ¬ ∃ b, b < n ∧ x = nI b) (h : post 1) : wpX7_noBag (nI n) x post := by
  refine M_in_f ?_ ⟨fun q => absurd rfl q, fun _ => h⟩
  rw [show (0 : Int64) = (0 : Int32).toInt64 from rfl, wide_lt, wide_lt]
  rcases pk_ix x hn with q | q | ⟨j, hj, e⟩
  · exact Or.inl q
  · right
    rw [Int32.le_iff_toInt_le, nI_toInt hn] at q
    rw [Int32.lt_iff_toInt_lt]
    rcases Nat.eq_zero_or_pos n with z | z
    · subst z
      rw [show nI 0 - (1 : Int32) = -1 from rfl]
      have : (-1 : Int32).toInt = -1 := by decide
      omega
    · rw [nI_s1 z, nI_toInt (by omega)]; omega
  · exact absurd ⟨j, hj, e⟩ hx
theorem M_noM_t {n b : Nat} {post : Int32 → Prop} (hb : b < n) (hn : n < 2 ^ 31) (h : post 0) : wpX7_noMan (nI n) (nI b) post := M_no_t hb hn h
theorem M_noM_f {n : Nat} {x : Int32} {post : Int32 → Prop} (hn : n < 2 ^ 31) (hx : ¬ ∃ b, b < n ∧ x = nI b) (h : post 1) : wpX7_noMan (nI n) x post := M_no_f hn hx h
theorem M_has {f m : Nat} {post : Int32 → Prop} (hf : f < 2 ^ 31) (hm : m < 32) (h : post (nI (bitN f m))) : wpX7_has (nI f) (nI m) post := by
  unfold wpX7_has
  rw [bit_expr hf hm]
  refine ⟨fun q => ?_, fun q => ?_⟩
  · have e : bitN f m = 0 := by
      have := bitN_le f m
      rcases Nat.lt_or_ge (bitN f m) 1 with z | z
      · omega
      · exact absurd (show nI (bitN f m) = 1 by rw [show bitN f m = 1 by omega]; rfl) q
    rw [e] at h; exact h
  · rw [q] at h; exact h
theorem bixe (b i : Nat) : ((3 : Int32) + ((9 : Int32) * nI b)) + nI i = nI (3 + 9 * b + i) := by
  rw [show (9 : Int32) * nI b = nI (9 * b) from pk_mul 9 b, show (3 : Int32) + nI (9 * b) = nI (3 + 9 * b) from nI_add 3 _, nI_add]
theorem vin {k N : Nat} (h : k < N) (hN : N < 2 ^ 31) : vp_in (nI k) N := vp_in_nI h hN
section MR
variable {B M : Nat} {d : Dy} {p : Nat → Int32} {kb km : Nat → Nat} {sort kind : Nat → Int32}
theorem M_breath (hW : WF B M d) (hR : RM d p) {b i : Nat} (hi : i < (dpl d b).length) {post : Int32 → Prop} (h : post (nI ((dpl d b).getD i 0))) : wpX7_breath p (nI b) (nI i) post := by
  have hb := hW.bag hi
  have hB := hW.1
  have h9 := hW.2.2.1 b
  unfold wpX7_breath
  rw [bixe]
  refine ⟨vin (by omega) (by omega), ?_⟩
  rw [nI_clamp (by omega), hR.2.2.2.2.2.2 b (by omega) i hi]; exact h
theorem M_placeOf {n k q : Nat} (hq : q < 2 ^ 31) (hk : k < n) {post : Int32 → Prop} (h : post (nI (plc q n k))) : wpX7_placeOf (nI n) (nI q) (nI k) post := by
  refine ⟨fun z => ?_, fun z => ?_⟩
  · have e : ¬ q = 1 := fun y => z (by rw [y]; rfl)
    rw [plc, if_neg e] at h
    rw [nI_s1 (by omega), pk_sub (by omega)]; exact h
  · have e : q = 1 := (nI_eq (b := 1) hq (by omega)).mp z
    rw [plc, if_pos e] at h; exact h
theorem M_lay (hW : WF B M d) (hR : RM d p) {m b : Nat} (hb : b < B) (hl : (dpl d b).length < 9) {post : (Nat → Int32) → Prop} (h : ∀ p', RM (opLay d m b) p' → post p') : wpX7_lay p (nI m) (nI b) post := by
  have hB := hW.1
  unfold wpX7_lay
  rw [nI_clamp (by omega), hR.2.2.2.2.2.1 b (by omega), bixe, nI_clamp (by omega)]
  refine ⟨vin (by omega) (by omega), vin (by omega) (by omega), ?_⟩
  rintro _ rfl
  refine ⟨vin (by omega) (by omega), vin (by omega) (by omega), ?_⟩
  rintro _ rfl
  refine h _ (hR.setPl (fun q => hW.2.2.1 q) (by omega) _ (fun j hj h1 h2 => ?_) ?_ (fun i hi => ?_))
  · rw [pk_un h1, pk_un (by omega)]
  · rw [pk_us, pk_un (by omega), hR.2.2.2.2.2.1 b (by omega), List.length_append]
    exact nI_1 _
  · rw [List.length_append] at hi
    have hi2 : i < (dpl d b).length + 1 := hi
    rw [pk_un (by omega)]
    rcases Nat.lt_or_ge i (dpl d b).length with z | z
    · rw [pk_un (by omega), hR.2.2.2.2.2.2 b (by omega) i z, List.getD_eq_getElem?_getD, List.getD_eq_getElem?_getD, List.getElem?_append_left z]
    · have e : i = (dpl d b).length := by omega
      subst e
      rw [pk_us, List.getD_eq_getElem?_getD, List.getElem?_append_right (Nat.le_refl _), Nat.sub_self]
      rfl
theorem getD_erase {L : List Nat} {i j : Nat} : (L.eraseIdx i).getD j 0 = if j < i then L.getD j 0 else L.getD (j + 1) 0 := by
  rw [List.getD_eq_getElem?_getD, List.getD_eq_getElem?_getD, List.getD_eq_getElem?_getD, List.getElem?_eraseIdx]
  split <;> rfl
theorem M_takeOut (hW : WF B M d) (hR : RM d p) {b i : Nat} (hi : i < (dpl d b).length) {post : (Nat → Int32) → Prop} (h : ∀ p', RM (opLift d b i) p' → post p') : wpX7_takeOut p (nI b) (nI i) post := by
  have hB := hW.1
  have hb := hW.bag hi
  have h9 := hW.2.2.1 b
  unfold wpX7_takeOut
  rw [nI_clamp (by omega), hR.2.2.2.2.2.1 b (by omega), nI_s1 (by omega)]
  refine ⟨vin (by omega) (by omega), vin (by omega) (by omega), ?_⟩
  rintro _ rfl
  refine pk_loop (fun f k g => wpX7_takeOut_L9 (nI b) (nI i) post f g (nI k)) (fun k g => i ≤ k ∧ ∀ j, g j = (if j = b then nI ((dpl d b).length - 1) else if 3 + 9 * b + i ≤ j ∧ j < 3 + 9 * b + k then p (j + 1) else p j)) ((dpl d b).length - 1) i _ (by omega) ⟨Nat.le_refl i, fun j => ?_⟩ ?_ ?_
  · by_cases e : j = b
    · subst e; rw [pk_us, if_pos rfl]
    · rw [pk_un e, if_neg e, if_neg (by omega)]
  · intro f g hg
    unfold wpX7_takeOut_L9
    rw [nI_clamp (by omega), hg.2 b, if_pos rfl]
    refine ⟨vin (by omega) (by omega), fun _ => h _ (hR.setPl (fun q => hW.2.2.1 q) (by omega) _ (fun j hj h1 h2 => ?_) ?_ (fun q hq => ?_)), fun q => absurd (Int32.le_refl _) q⟩
    · rw [hg.2 j, if_neg h1, if_neg (by omega)]
    · rw [hg.2 b, if_pos rfl, List.length_eraseIdx, if_pos hi]
    · rw [List.length_eraseIdx, if_pos hi] at hq
      rw [hg.2, if_neg (by omega), getD_erase]
      by_cases z : q < i
      · rw [if_neg (by omega), if_pos z, hR.2.2.2.2.2.2 b (by omega) q (by omega)]
      · rw [if_pos (by omega), if_neg z, show 3 + 9 * b + q + 1 = 3 + 9 * b + (q + 1) by omega, hR.2.2.2.2.2.2 b (by omega) (q + 1) (by omega)]
  · intro f k g hk hg kk
    unfold wpX7_takeOut_L9
    rw [nI_clamp (n := b) (by omega), hg.2 b, if_pos rfl, bixe, show nI (3 + 9 * b + k) + (1 : Int32) = nI (3 + 9 * b + k + 1) from nI_1 _, nI_clamp (n := 3 + 9 * b + k) (by omega), nI_clamp (n := 3 + 9 * b + k + 1) (by omega), show nI k + (1 : Int32) = nI (k + 1) from nI_1 k]
    refine ⟨vin (by omega) (by omega), fun q => absurd q (nI_ge hk (by omega)), fun _ => ⟨vin (by omega) (by omega), vin (by omega) (by omega), ?_⟩⟩
    rintro _ rfl _ rfl
    refine kk _ ⟨by omega, fun j => ?_⟩
    by_cases e : j = 3 + 9 * b + k
    · subst e
      rw [pk_us, hg.2, if_neg (by omega), if_neg (by omega), if_neg (by omega), if_pos (by omega)]
    · rw [pk_un e, hg.2 j]
      by_cases e2 : j = b
      · rw [if_pos e2, if_pos e2]
      · rw [if_neg e2, if_neg e2]
        by_cases e3 : 3 + 9 * b + i ≤ j ∧ j < 3 + 9 * b + k
        · rw [if_pos e3, if_pos (by omega)]
        · rw [if_neg e3, if_neg (by omega)]
theorem M_lose (hW : WF B M d) (hR : RM d p) {b i : Nat} (hi : i < (dpl d b).length) {post : (Nat → Int32) → Prop} (h : ∀ p', RM (opLose d b i) p' → post p') : wpX7_lose p (nI b) (nI i) post := by
  have ho := hW.own hi
  have hM := hW.2.1
  refine M_breath hW hR hi ?_
  rw [show (40 : Int32) + nI ((dpl d b).getD i 0) = nI (40 + (dpl d b).getD i 0) from nI_add 40 _, nI_clamp (by omega), hR.2.2.2.2.1 _ (by omega)]
  refine ⟨vin (by omega) (by omega), vin (by omega) (by omega), ?_⟩
  rintro _ rfl
  exact M_takeOut (d := setLo d _ _) hW.kLo (hR.setLo (fun q => hW.2.2.1 q) (by omega) _) hi h
abbrev cnt (m : Nat) (L : List Nat) : Nat := ls (fun x => if x = m then 1 else 0) L
theorem M_breathsOf (hW : WF B M d) (hR : RM d p) {b m : Nat} (hb : b < 3) (hm : m < 2 ^ 30) {post : Int32 → Prop} (h : post (nI (cnt m (dpl d b)))) : wpX7_breathsOf p (nI m) (nI b) post := by
  have h9 := hW.2.2.1 b
  have hM := hW.2.1
  refine for_up (P := fun n i => wpX7_breathsOf_L5 p (nI m) (nI b) post n (nI (sm (fun i => (fun x => if x = m then 1 else 0) ((dpl d b).getD i 0)) i)) (nI i)) (dpl d b).length ?_ ?_ 0 (by omega)
  · intro n
    unfold wpX7_breathsOf_L5
    rw [nI_clamp (by omega), hR.2.2.2.2.2.1 b hb]
    exact ⟨vin (by omega) (by omega), fun _ => h, fun q => absurd (Int32.le_refl _) q⟩
  · intro n i hi k
    have ho := hW.own hi
    unfold wpX7_breathsOf_L5
    rw [nI_clamp (by omega), hR.2.2.2.2.2.1 b hb]
    refine ⟨vin (by omega) (by omega), fun q => absurd q (nI_ge hi (by omega)), fun _ => M_breath hW hR hi ⟨fun q => ?_, fun q => ?_⟩⟩
    · rintro _ rfl _ rfl
      have e : ¬ (dpl d b).getD i 0 = m := fun z => q (by rw [z])
      simp only [sm, if_neg e] at k
      rw [show nI i + (1 : Int32) = nI (i + 1) from nI_1 i, show (0 : Int32) = nI 0 from rfl, nI_add]; exact k
    · rintro _ rfl _ rfl
      have e : (dpl d b).getD i 0 = m := (nI_eq (by omega) (by omega)).mp q
      simp only [sm, if_pos e] at k
      rw [show nI i + (1 : Int32) = nI (i + 1) from nI_1 i, show (1 : Int32) = nI 1 from rfl, nI_add]; exact k
/-- all of a man's, in three bags -/
def all3 (d : Dy) (m : Nat) : Nat := cnt m (dpl d 0) + cnt m (dpl d 1) + cnt m (dpl d 2)
theorem M_allOf (hW : WF B M d) (hR : RM d p) {m : Nat} (hm : m < 2 ^ 30) {post : Int32 → Prop} (h : post (nI (all3 d m))) : wpX7_allOf p (nI m) post := by
  refine M_breathsOf (b := 0) hW hR (by omega) hm (M_breathsOf (b := 1) hW hR (by omega) hm (M_breathsOf (b := 2) hW hR (by omega) hm ?_))
  rw [nI_add, nI_add]; exact h
theorem M_leftR (hW : WF B M d) (hR : RM d p) {post : Int32 → Prop} (h : post (nI (sm (fun m => if bitN (dfl d) m = 1 then all3 d m else 0) M))) : wpX7_left (nI M) p post := by
  have hM := hW.2.1
  have hf := hW.fl
  refine for_up (P := fun n i => wpX7_left_L4 (nI M) p post n (nI (sm (fun m => if bitN (dfl d) m = 1 then all3 d m else 0) i)) (nI i)) M ?_ ?_ 0 (by omega)
  · intro n; exact ⟨fun _ => h, fun q => absurd (Int32.le_refl _) q⟩
  · intro n i hi k
    refine ⟨fun q => absurd q (nI_ge hi (by omega)), fun _ => ?_⟩
    rw [hR.2.1]
    refine M_has (by omega) (by omega) ?_
    have fin : ∀ v : Nat, v = (if bitN (dfl d) i = 1 then all3 d i else 0) → wpX7_left_J33 (nI M) p (wpX7_left_L4 (nI M) p post n) post (nI i) (nI v) (nI (sm (fun m => if bitN (dfl d) m = 1 then all3 d m else 0) i)) := by
      intro v ev
      rintro _ rfl _ rfl
      rw [nI_add, show nI i + (1 : Int32) = nI (i + 1) from nI_1 i, ev]
      exact k
    by_cases f : bitN (dfl d) i = 1
    · rw [f]
      exact ⟨fun q => absurd q (by decide), fun _ => M_allOf hW hR (by omega) (fin _ (by rw [if_pos f]))⟩
    · rw [bit0 f]
      exact ⟨fun _ => fin 0 (by rw [if_neg f]), fun q => absurd rfl q⟩
theorem M_sum {post : Int32 → Prop} {x : Int32} (r : Nat) (hx : x = nI r) (hM : M ≤ 5) (hr : r ≤ 40) (h : post (l_sum (fun m => p (r + m)) M)) : wpX7_sum (nI M) p x post := by
  refine for_up (P := fun n i => wpX7_sum_L4 (nI M) p x post n (l_sum (fun m => p (r + m)) i) (nI i)) M ?_ ?_ 0 (by omega)
  · intro n; exact ⟨fun _ => h, fun q => absurd (Int32.le_refl _) q⟩
  · intro n i hi k
    refine ⟨fun q => absurd q (nI_ge hi (by omega)), fun _ => ?_⟩
    rw [hx, nI_add, nI_clamp (by omega), show nI i + (1 : Int32) = nI (i + 1) from nI_1 i]
    refine ⟨vin (by omega) (by omega), ?_⟩
    rintro _ rfl _ rfl
    rw [hx] at k; exact k
theorem M_inAll (hW : WF B M d) (hR : RM d p) {post : Int32 → Prop} (h : post (nI (sm (fun b => (dpl d b).length) B))) : wpX7_inAll p post := by
  have hB := hW.1
  unfold wpX7_inAll
  rw [hR.2.2.2.2.2.1 0 (by omega), hR.2.2.2.2.2.1 1 (by omega), hR.2.2.2.2.2.1 2 (by omega), nI_add, nI_add]
  have e : (dpl d 0).length + (dpl d 1).length + (dpl d 2).length = sm (fun b => (dpl d b).length) B := by
    have z : ∀ b, B ≤ b → (dpl d b).length = 0 := fun b hb => by rw [hW.2.2.2.2.1 b hb]; rfl
    rcases (show B = 0 ∨ B = 1 ∨ B = 2 ∨ B = 3 by omega) with rfl | rfl | rfl | rfl
    · simp [sm, z 0, z 1, z 2]
    · simp [sm, z 1, z 2]
    · simp [sm, z 2]
    · simp [sm]
  rw [e]; exact h
theorem M_play (hW : WF B M d) (hR : RM d p) (hK : SK B kb sort) {b n : Nat} (hb : b < B) (hn : n ≤ (dpl d b).length) {post : (Nat → Int32) → Prop} (h : ∀ p', RM (itr (lose1 kb b) n d) p' → post p') : wpX7_play sort p (nI b) (nI n) post := by
  have hB := hW.1
  have h9 := hW.2.2.1 b
  have h3 := (hK b hb).2
  refine pk_loop (fun f i e => wpX7_play_L3 sort (nI b) (nI n) post f e (nI i)) (fun i e => RM (itr (lose1 kb b) i d) e) n 0 p (by omega) hR ?_ ?_
  · intro f e he
    exact ⟨fun _ => h e he, fun q => absurd (Int32.le_refl _) q⟩
  · intro f i e hi he k
    obtain ⟨w1, w2⟩ := itr_lose (kb := kb) hW (b := b) (n := i) (by omega)
    refine ⟨fun q => absurd q (nI_ge hi (by omega)), fun _ => ⟨vin (by omega) (by omega), vin (by omega) (by omega), ?_⟩⟩
    rw [nI_clamp (by omega), he.2.2.2.2.2.1 b (by omega), (hK b hb).1]
    refine M_placeOf (k := 0) (by omega) (by omega) (M_lose w1 he (plc_lt (by omega)) (fun p' hp => ?_))
    rintro _ rfl
    rw [show nI i + (1 : Int32) = nI (i + 1) from nI_1 i]
    exact k p' hp
theorem M_begin {t : Nat → Int32} {post : (Nat → Int32) → Prop} (h : ∀ t', (∀ j, j < 47 → t' j = p j) → post t') : wpX7_begin p t post := by
  refine pk_loop (fun f i g => wpX7_begin_L2 p post f g (nI i)) (fun i g => ∀ j, j < i → g j = p j) 47 0 t (by omega) (fun j hj => absurd hj (Nat.not_lt_zero j)) ?_ ?_
  · intro f g hg
    exact ⟨fun _ => h g hg, fun q => absurd (Int32.le_refl _) q⟩
  · intro f i g hi hg k
    refine ⟨fun q => absurd q (nI_ge (b := 47) hi (by omega)), fun _ => ?_⟩
    rw [nI_clamp (by omega), show nI i + (1 : Int32) = nI (i + 1) from nI_1 i]
    refine ⟨vin hi (by omega), vin hi (by omega), ?_⟩
    rintro _ rfl _ rfl
    refine k _ (fun j hj => ?_)
    by_cases e : j = i
    · subst e; exact pk_us
    · rw [pk_un e]; exact hg j (by omega)
theorem M_give (hW : WF B M d) (hR : RM d p) {m b : Nat} (hm : m < M) (hb : b < B) (hl : (dpl d b).length < 9) (hs : 0 < dsd d m) {post : (Nat → Int32) → Prop} (h : ∀ p', RM (opGive d m b) p' → post p') : wpX7_give p (nI m) (nI b) post := by
  have hM := hW.2.1
  have h99 := hW.2.2.2.2.2.2 m
  unfold wpX7_give
  rw [show (30 : Int32) + nI m = nI (30 + m) from nI_add 30 m, nI_clamp (by omega), hR.2.2.1 m (by omega), nI_s1 hs]
  refine ⟨vin (by omega) (by omega), vin (by omega) (by omega), ?_⟩
  rintro _ rfl
  exact M_lay (d := setSd d m (dsd d m - 1)) (hW.kSd (by omega)) (hR.setSd (fun q => hW.2.2.1 q) (by omega) _) hb hl h
theorem M_canGive (hW : WF B M d) (hR : RM d p) {m : Nat} (hm : m < M) {post : Int32 → Prop} (h : post (if bitN (dfl d) m = 1 ∨ dsd d m = 0 then 0 else 1)) : wpX7_canGive p (nI m) post := by
  have hM := hW.2.1
  have hf := hW.fl
  have h99 := hW.2.2.2.2.2.2 m
  unfold wpX7_canGive
  rw [hR.2.1]
  refine M_has (by omega) (by omega) ?_
  by_cases f : bitN (dfl d) m = 1
  · rw [if_pos (Or.inl f)] at h
    rw [f]
    exact ⟨fun _ => h, fun q => absurd q (by decide)⟩
  · rw [bit0 f]
    refine ⟨fun q => absurd rfl q, fun _ => ?_⟩
    rw [show (30 : Int32) + nI m = nI (30 + m) from nI_add 30 m, nI_clamp (by omega), hR.2.2.1 m (by omega)]
    refine ⟨vin (by omega) (by omega), pk_le (dsd d m) 0 (fun z => ?_) (fun z => ?_)⟩
    · rw [if_pos (by omega)] at h; exact h
    · rw [if_neg (by omega)] at h; exact h
end MR
