/-! the class's camp: what its reading methods answer -/
theorem nI_suble {a b k : Nat} (ha : a < 2 ^ 30) (hb : b < 2 ^ 30) (hk : k < 2 ^ 30) : (nI a - nI b ≤ nI k) ↔ a ≤ b + k := by
  rw [Int32.le_iff_toInt_le, pk_sub_toInt ha hb, nI_toInt (by omega)]
  omega
theorem for_up {P : Nat → Nat → Prop} (N : Nat) (hx : ∀ n, P (n + 1) N) (hs : ∀ n i, i < N → P n (i + 1) → P (n + 1) i) : ∀ i, i ≤ N → ∃ n, P n i := by
  have key : ∀ k i, i + k = N → P (k + 1) i := by
    intro k
    induction k with
    | zero => intro i h; rw [show i = N by omega]; exact hx 0
    | succ k ih => intro i h; exact hs _ i (by omega) (ih (i + 1) (by omega))
  exact fun i h => ⟨_, key (N - i) i (by omega)⟩
def sm (f : Nat → Nat) : Nat → Nat
  | 0 => 0
  | n + 1 => sm f n + f n
theorem sm_cong {f g : Nat → Nat} : ∀ {n : Nat}, (∀ k, k < n → f k = g k) → sm f n = sm g n
  | 0, _ => rfl
  | n + 1, h => by rw [sm, sm, sm_cong (fun k hk => h k (by omega)), h n (by omega)]
theorem sm_le {f : Nat → Nat} {c : Nat} : ∀ {n : Nat}, (∀ k, k < n → f k ≤ c) → sm f n ≤ n * c
  | 0, _ => by simp [sm]
  | n + 1, h => by
    have h1 := sm_le (n := n) (fun k hk => h k (by omega))
    have h2 := h n (by omega)
    rw [sm, Nat.succ_mul]
    omega
theorem l_cong {f g : Nat → Int32} : ∀ {n : Nat}, (∀ k, k < n → f k = g k) → l_sum f n = l_sum g n
  | 0, _ => rfl
  | n + 1, h => by rw [l_sum, l_sum, l_cong (fun k hk => h k (by omega)), h n (by omega)]
/-- over a pile -/
def ls (g : Nat → Nat) (L : List Nat) : Nat := sm (fun i => g (L.getD i 0)) L.length
def bitN (f m : Nat) : Nat := f / 2 ^ m % 2
theorem bitN_le (f m : Nat) : bitN f m ≤ 1 := by unfold bitN; omega
def orr (f : Nat → Nat) : Nat → Nat
  | 0 => 0
  | n + 1 => orr f n ||| 2 ^ f n
theorem orr_lt {f : Nat → Nat} {m : Nat} : ∀ {n : Nat}, (∀ k, k < n → f k < m) → orr f n < 2 ^ m
  | 0, _ => Nat.two_pow_pos m
  | n + 1, h => Nat.or_lt_two_pow (orr_lt (fun k hk => h k (by omega))) (Nat.pow_lt_pow_right (by omega) (h n (by omega)))
theorem orr_cong {f g : Nat → Nat} : ∀ {n : Nat}, (∀ k, k < n → f k = g k) → orr f n = orr g n
  | 0, _ => rfl
  | n + 1, h => by rw [orr, orr, orr_cong (fun k hk => h k (by omega)), h n (by omega)]
theorem getD_mem {L : List Nat} {i : Nat} (h : i < L.length) : L.getD i 0 ∈ L := by
  rw [List.getD_eq_getElem?_getD, List.getElem?_eq_getElem h]
  exact List.getElem_mem h
/-- the kinds, as the class and the reference keep them -/
def SK (n : Nat) (k : Nat → Nat) (f : Nat → Int32) : Prop := ∀ b, b < n → f b = nI (k b) ∧ k b ≤ 3
section CR
variable {B M : Nat} {d : Dy} {c : Nat → Int32} {kb km : Nat → Nat} {bk mk : Nat → Int32}
theorem WF.lt8 (hW : WF B M d) (b : Nat) : ∀ x, x ∈ dpl d b → x < 8 := fun x hx => by have := hW.2.2.2.1 b x hx; have := hW.2.1; omega
theorem WF.own (hW : WF B M d) {b i : Nat} (hi : i < (dpl d b).length) : (dpl d b).getD i 0 < M := hW.2.2.2.1 b _ (getD_mem hi)
theorem WF.bag (hW : WF B M d) {b i : Nat} (hi : i < (dpl d b).length) : b < B := by
  rcases Nat.lt_or_ge b B with h | h
  · exact h
  · rw [hW.2.2.2.2.1 b h] at hi; exact absurd hi (Nat.not_lt_zero _)
theorem WF.pak31 (hW : WF B M d) (b : Nat) : pak (dpl d b) < 2 ^ 27 := by
  have h1 := pak_lt (hW.lt8 b)
  have h2 := hW.2.2.1 b
  have h3 : 8 ^ (dpl d b).length ≤ 8 ^ 9 := Nat.pow_le_pow_right (by omega) h2
  have h4 : (8 : Nat) ^ 9 = 2 ^ 27 := by decide
  omega
theorem C_cell {x : Int32} {post : Int32 → Prop} (k : Nat) (hx : x = nI k) (hk : k < 23) (h : post (c k)) : wpX0_cell c x post := by
  subst hx
  refine ⟨fun q => absurd q (nI_pos (by omega)), fun _ => ⟨fun q => absurd q (nI_ge (b := 23) hk (by omega)), fun _ => ⟨vp_in_nI hk (by omega), ?_⟩⟩⟩
  rw [nI_clamp (by omega)]; exact h
theorem C_setCell {x v : Int32} {post : (Nat → Int32) → Prop} (k : Nat) (hx : x = nI k) (hk : k < 23) (h : post (upd c k v)) : wpX0_setCell c x v post := by
  subst hx
  refine ⟨fun q => absurd q (nI_pos (by omega)), fun _ => ⟨fun q => absurd q (nI_ge (b := 23) hk (by omega)), fun _ => ⟨vp_in_nI hk (by omega), ?_⟩⟩⟩
  rw [nI_clamp (by omega)]; rintro _ rfl; exact h
theorem C_addTo {x v : Int32} {post : (Nat → Int32) → Prop} (k : Nat) (hx : x = nI k) (hk : k < 23) (h : post (upd c k (c k + v))) : wpX0_addTo c x v post := C_cell k hx hk (C_setCell k hx hk h)
theorem C_isBag_t {n b : Nat} {post : Int32 → Prop} (hb : b < n) (hn : n < 2 ^ 31) (h : post 1) : wpX0_isBag (nI n) (nI b) post := ⟨fun q => absurd q (nI_pos (by omega)), fun _ => ⟨fun q => absurd q (nI_ge hb hn), fun _ => h⟩⟩
theorem C_isBag_f {n : Nat} {x : Int32} {post : Int32 → Prop} (hn : n < 2 ^ 31) (hx : ¬ ∃ b, b < n ∧ x = nI b) (h : post 0) : wpX0_isBag (nI n) x post := by
  rcases pk_ix x hn with q | q | ⟨j, hj, e⟩
  · exact ⟨fun _ => h, fun z => absurd q z⟩
  · exact ⟨fun _ => h, fun _ => ⟨fun _ => h, fun z => absurd q z⟩⟩
  · exact absurd ⟨j, hj, e⟩ hx
theorem C_isMan_t {n b : Nat} {post : Int32 → Prop} (hb : b < n) (hn : n < 2 ^ 31) (h : post 1) : wpX0_isMan (nI n) (nI b) post := C_isBag_t hb hn h
theorem C_isMan_f {n : Nat} {x : Int32} {post : Int32 → Prop} (hn : n < 2 ^ 31) (hx : ¬ ∃ b, b < n ∧ x = nI b) (h : post 0) : wpX0_isMan (nI n) x post := C_isBag_f hn hx h
theorem C_kindOfBag {post : Int32 → Prop} (hB : B ≤ 3) (hK : SK B kb bk) {b : Nat} (hb : b < B) (h : post (nI (kb b))) : wpX0_kindOfBag (nI B) bk (nI b) post := by
  refine ⟨fun q => absurd q (nI_pos (by omega)), fun _ => ⟨fun q => absurd q (nI_ge hb (by omega)), fun _ => ⟨fun q => absurd q (nI_ge (b := 3) (by omega) (by omega)), fun _ => ⟨vp_in_nI (by omega) (by omega), ?_⟩⟩⟩⟩
  rw [nI_clamp (by omega), (hK b hb).1]; exact h
theorem C_kindOfMan {post : Int32 → Prop} (hM : M ≤ 5) (hK : SK M km mk) {m : Nat} (hm : m < M) (h : post (nI (km m))) : wpX0_kindOfMan (nI M) mk (nI m) post := by
  refine ⟨fun q => absurd q (nI_pos (by omega)), fun _ => ⟨fun q => absurd q (nI_ge hm (by omega)), fun _ => ⟨fun q => absurd q (nI_ge (b := 5) (by omega) (by omega)), fun _ => ⟨vp_in_nI (by omega) (by omega), ?_⟩⟩⟩⟩
  rw [nI_clamp (by omega), (hK m hm).1]; exact h
theorem C_today (hR : RC d c) {post : Int32 → Prop} (h : post (ddy d)) : wpX0_today c post := C_cell 0 rfl (by omega) (by rw [hR.1]; exact h)
theorem C_fallenBits (hR : RC d c) {post : Int32 → Prop} (h : post (nI (dfl d))) : wpX0_fallenBits c post := C_cell 1 rfl (by omega) (by rw [hR.2.1]; exact h)
theorem WF.fl (hW : WF B M d) : dfl d < 32 := Nat.lt_of_lt_of_le hW.2.2.2.2.2.1 (Nat.pow_le_pow_right (by omega) hW.2.1)
theorem bit_expr {f m : Nat} (hf : f < 2 ^ 31) (hm : m < 32) : (nI f >>> (nI m &&& 31)) &&& 1 = nI (bitN f m) := by
  rw [nI_shr hf hm]
  exact nI_mask (f / 2 ^ m) 1
theorem C_hasFallen (hW : WF B M d) (hR : RC d c) {post : Int32 → Prop} {m : Nat} (hm : m < 32) (h : post (nI (bitN (dfl d) m))) : wpX0_hasFallen c (nI m) post := by
  have hf := hW.fl
  refine C_fallenBits hR ?_
  rw [bit_expr (by omega) hm]
  have hb := bitN_le (dfl d) m
  refine ⟨fun q => ?_, fun q => ?_⟩
  · have e : bitN (dfl d) m = 0 := by
      rcases Nat.lt_or_ge (bitN (dfl d) m) 1 with z | z
      · omega
      · exact absurd (show nI (bitN (dfl d) m) = 1 by rw [show bitN (dfl d) m = 1 by omega]; rfl) q
    rw [e] at h; exact h
  · rw [q] at h; exact h
theorem C_ofMan {post : Int32 → Prop} {x : Int32} (r : Nat) (hx : x = nI r) {m : Nat} (hM : M ≤ 5) (hm : m < M) (hr : r + m < 23) (h : post (c (r + m))) : wpX0_ofMan (nI M) c x (nI m) post := by
  refine C_isMan_t hm (by omega) ⟨fun q => absurd q (by decide), fun _ => C_cell (r + m) (by rw [hx, nI_add]) hr h⟩
theorem C_sumOfMen {post : Int32 → Prop} {x : Int32} (r : Nat) (hx : x = nI r) (hM : M ≤ 5) (hr : r ≤ 12) (h : post (l_sum (fun m => c (r + m)) M)) : wpX0_sumOfMen (nI M) c x post := by
  refine for_up (P := fun n i => wpX0_sumOfMen_L4 (nI M) c x post n (l_sum (fun m => c (r + m)) i) (nI i)) M ?_ ?_ 0 (by omega)
  · intro n; exact ⟨fun _ => h, fun q => absurd (Int32.le_refl _) q⟩
  · intro n i hi k
    refine ⟨fun q => absurd q (nI_ge hi (by omega)), fun _ => C_ofMan r hx hM hi (by omega) ?_⟩
    rintro _ rfl _ rfl
    rw [show nI i + (1 : Int32) = nI (i + 1) from nI_1 i]; exact k
theorem C_breathsIn (hW : WF B M d) (hR : RC d c) {post : Int32 → Prop} {b : Nat} (hb : b < 2 ^ 30) (h : post (nI (dpl d b).length)) : wpX0_breathsIn (nI B) c (nI b) post := by
  have hB := hW.1
  by_cases q : b < B
  · exact C_isBag_t q (by omega) ⟨fun z => absurd z (by decide), fun _ => C_cell (17 + b) (nI_add 17 b) (by omega) (by rw [hR.2.2.2.2.2.1 b (by omega)]; exact h)⟩
  · refine C_isBag_f (by omega) (fun ⟨j, hj, e⟩ => q ?_) ⟨fun _ => ?_, fun z => absurd rfl z⟩
    · rw [(nI_eq (by omega) (by omega)).mp e]; exact hj
    · rw [hW.2.2.2.2.1 b (by omega)] at h; exact h
theorem C_breathsInAll (hW : WF B M d) (hR : RC d c) {post : Int32 → Prop} (h : post (nI (sm (fun b => (dpl d b).length) B))) : wpX0_breathsInAll (nI B) c post := by
  have hB := hW.1
  refine for_up (P := fun n i => wpX0_breathsInAll_L4 (nI B) c post n (nI (sm (fun b => (dpl d b).length) i)) (nI i)) B ?_ ?_ 0 (by omega)
  · intro n; exact ⟨fun _ => h, fun q => absurd (Int32.le_refl _) q⟩
  · intro n i hi k
    refine ⟨fun q => absurd q (nI_ge hi (by omega)), fun _ => C_cell (17 + i) (nI_add 17 i) (by omega) ?_⟩
    rw [hR.2.2.2.2.2.1 i (by omega)]
    rintro _ rfl _ rfl
    rw [nI_add, show nI i + (1 : Int32) = nI (i + 1) from nI_1 i]; exact k
theorem owner_expr {L : List Nat} (h8 : ∀ x, x ∈ L → x < 8) (hl : L.length ≤ 9) {i : Nat} (hi : i < L.length) : (nI (pak L) >>> (((3 : Int32) * nI i) &&& 31)) &&& 7 = nI (L.getD i 0) := by
  have h1 := pak_lt h8
  have h3 : 8 ^ L.length ≤ 8 ^ 9 := Nat.pow_le_pow_right (by omega) hl
  have h4 : (8 : Nat) ^ 9 = 2 ^ 27 := by decide
  rw [show (3 : Int32) * nI i = nI (3 * i) from pk_mul 3 i, nI_shr (by omega) (by omega), ← p8]
  refine (nI_mask (pak L / 8 ^ i) 3).trans ?_
  rw [show (2 : Nat) ^ 3 = 8 from rfl, pak_get h8 hi]
theorem C_owner (hW : WF B M d) (hR : RC d c) {post : Int32 → Prop} {b i : Nat} (hi : i < (dpl d b).length) (h : post (nI ((dpl d b).getD i 0))) : wpX0_owner c (nI b) (nI i) post := by
  have hb := hW.bag hi
  have hB := hW.1
  refine C_cell (20 + b) (nI_add 20 b) (by omega) ?_
  rw [hR.2.2.2.2.2.2 b (by omega), owner_expr (hW.lt8 b) (hW.2.2.1 b) hi]; exact h
theorem C_breathsOfIn (hW : WF B M d) (hR : RC d c) {post : Int32 → Prop} {b m : Nat} (hb : b < 2 ^ 30) (hm : m < 2 ^ 30) (h : post (nI (ls (fun x => if x = m then 1 else 0) (dpl d b)))) : wpX0_breathsOfIn (nI B) c (nI m) (nI b) post := by
  have h9 := hW.2.2.1 b
  have hM := hW.2.1
  refine for_up (P := fun n i => wpX0_breathsOfIn_L5 (nI B) c (nI m) (nI b) post n (nI (sm (fun i => (fun x => if x = m then 1 else 0) ((dpl d b).getD i 0)) i)) (nI i)) (dpl d b).length ?_ ?_ 0 (by omega)
  · intro n; exact C_breathsIn hW hR hb ⟨fun _ => h, fun q => absurd (Int32.le_refl _) q⟩
  · intro n i hi k
    have ho := hW.own hi
    refine C_breathsIn hW hR hb ⟨fun q => absurd q (nI_ge hi (by omega)), fun _ => C_owner hW hR hi ?_⟩
    refine ⟨fun q => ?_, fun q => ?_⟩
    · rintro _ rfl _ rfl
      have e : ¬ (dpl d b).getD i 0 = m := fun z => q (by rw [z])
      simp only [sm, if_neg e] at k
      rw [show nI i + (1 : Int32) = nI (i + 1) from nI_1 i, show (0 : Int32) = nI 0 from rfl, nI_add]; exact k
    · rintro _ rfl _ rfl
      have e : (dpl d b).getD i 0 = m := (nI_eq (by omega) (by omega)).mp q
      simp only [sm, if_pos e] at k
      rw [show nI i + (1 : Int32) = nI (i + 1) from nI_1 i, show (1 : Int32) = nI 1 from rfl, nI_add]; exact k
theorem C_breathsOfThese (hW : WF B M d) (hR : RC d c) {post : Int32 → Prop} {f : Nat} (hf : f < 2 ^ 30) (h : post (nI (sm (fun b => ls (bitN f) (dpl d b)) B))) : wpX0_breathsOfThese (nI B) c (nI f) post := by
  have hB := hW.1
  have hM := hW.2.1
  refine for_up (P := fun n i => wpX0_breathsOfThese_L4 (nI B) c (nI f) post n (nI (sm (fun b => ls (bitN f) (dpl d b)) i)) (nI i)) B ?_ ?_ 0 (by omega)
  · intro n; exact ⟨fun _ => h, fun q => absurd (Int32.le_refl _) q⟩
  · intro n b hb k
    refine ⟨fun q => absurd q (nI_ge hb (by omega)), fun _ => ?_⟩
    have h9 := hW.2.2.1 b
    refine for_up (P := fun n2 i => wpX0_breathsOfThese_L15 (nI B) c (nI f) (nI b) (wpX0_breathsOfThese_J45 (nI B) c (nI f) (wpX0_breathsOfThese_L4 (nI B) c (nI f) post n) post) post n2 (nI (sm (fun b => ls (bitN f) (dpl d b)) b + sm (fun i => bitN f ((dpl d b).getD i 0)) i)) (nI i)) (dpl d b).length ?_ ?_ 0 (by omega)
    · intro n2
      refine C_breathsIn hW hR (by omega) ⟨fun _ => ?_, fun q => absurd (Int32.le_refl _) q⟩
      rintro _ rfl
      rw [show nI b + (1 : Int32) = nI (b + 1) from nI_1 b]; exact k
    · intro n2 i hi k2
      have ho := hW.own hi
      refine C_breathsIn hW hR (by omega) ⟨fun q => absurd q (nI_ge hi (by omega)), fun _ => C_owner hW hR hi ?_⟩
      rw [bit_expr (by omega) (by omega), nI_add, show nI i + (1 : Int32) = nI (i + 1) from nI_1 i]
      rintro _ rfl _ rfl
      rw [Nat.add_assoc]; exact k2
theorem C_left (hW : WF B M d) (hR : RC d c) {post : Int32 → Prop} (h : post (nI (sm (fun b => ls (bitN (dfl d)) (dpl d b)) B))) : wpX0_left (nI B) c post := by
  have := hW.fl
  exact C_fallenBits hR (C_breathsOfThese hW hR (by omega) h)
theorem C_breathsOf (hW : WF B M d) (hR : RC d c) {post : Int32 → Prop} {m : Nat} (hm : m < 5) (h : post (nI (sm (fun b => ls (bitN (2 ^ m)) (dpl d b)) B))) : wpX0_breathsOf (nI B) c (nI m) post := by
  have h2 : 2 ^ m ≤ 2 ^ 5 := Nat.pow_le_pow_right (by omega) (by omega)
  refine (show wpX0_breathsOfThese (nI B) c ((1 : Int32) <<< (nI m &&& 31)) _ from ?_)
  rw [show (1 : Int32) <<< (nI m &&& 31) = nI (1 * 2 ^ m) from nI_shl (n := 1) (by omega) (by omega), Nat.one_mul]
  exact C_breathsOfThese hW hR (by omega) h
/-- the place of the breath that is played when k were played ahead of it -/
def plc (kind n k : Nat) : Nat := if kind = 1 then k else n - 1 - k
theorem plc_lt {kind n k : Nat} (h : k < n) : plc kind n k < n := by unfold plc; split <;> omega
theorem C_placePlayed (hW : WF B M d) (hR : RC d c) (hK : SK B kb bk) {post : Int32 → Prop} {b k : Nat} (hk : k < (dpl d b).length) (h : post (nI (plc (kb b) (dpl d b).length k))) : wpX0_placePlayed (nI B) bk c (nI b) (nI k) post := by
  have hb := hW.bag hk
  have hB := hW.1
  have h9 := hW.2.2.1 b
  have h3 := (hK b hb).2
  refine C_kindOfBag hB hK hb ⟨fun q => ?_, fun q => ?_⟩
  · have e : ¬ kb b = 1 := fun z => q (by rw [z]; rfl)
    refine C_breathsIn hW hR (by omega) ?_
    rw [plc, if_neg e] at h
    rw [nI_s1 (by omega), pk_sub (by omega)]; exact h
  · have e : kb b = 1 := (nI_eq (b := 1) (by omega) (by omega)).mp q
    rw [plc, if_pos e] at h; exact h
theorem C_playedBitsAs (hW : WF B M d) (hR : RC d c) {post : Int32 → Prop} {b n kind gone : Nat} (hb : b < 2 ^ 30) (hn : n < 2 ^ 30) (hk : kind < 2 ^ 30) (hg : gone < 2 ^ 30) (h : post (nI (orr (fun k => (dpl d b).getD (if kind = 1 then gone + k else (dpl d b).length - 1 - k) 0) (min n ((dpl d b).length - gone))))) : wpX0_playedBitsAs (nI B) c (nI b) (nI n) (nI kind) (nI gone) post := by
  have h9 := hW.2.2.1 b
  have hM := hW.2.1
  refine C_breathsIn hW hR hb ?_
  refine for_up (P := fun n2 i => wpX0_playedBitsAs_L13 (nI B) c (nI b) (nI n) (nI kind) (nI gone) (nI (dpl d b).length) post n2 (nI (orr (fun k => (dpl d b).getD (if kind = 1 then gone + k else (dpl d b).length - 1 - k) 0) i)) (nI i)) (min n ((dpl d b).length - gone)) ?_ ?_ 0 (by omega)
  · intro n2
    refine ⟨fun _ => h, fun q => ⟨fun _ => h, fun q2 => ?_⟩⟩
    rw [nI_leI (by omega) (by omega)] at q
    rw [nI_suble (by omega) (by omega) (by omega)] at q2
    exact absurd q2 (by omega)
  · intro n2 i hi k2
    have hlt : (if kind = 1 then gone + i else (dpl d b).length - 1 - i) < (dpl d b).length := by split <;> omega
    have ho := hW.own hlt
    have hor : orr (fun k => (dpl d b).getD (if kind = 1 then gone + k else (dpl d b).length - 1 - k) 0) i < 2 ^ M := orr_lt (fun k hk => hW.own (by split <;> omega))
    have h32 : 2 ^ M ≤ 2 ^ 5 := Nat.pow_le_pow_right (by omega) hM
    have ho2 : 2 ^ (dpl d b).getD (if kind = 1 then gone + i else (dpl d b).length - 1 - i) 0 < 2 ^ 5 := Nat.pow_lt_pow_right (by omega) (by omega)
    refine ⟨fun q => absurd q (nI_ge (by omega) (by omega)), fun _ => ⟨fun q => ?_, fun _ => ⟨fun q => ?_, fun q => ?_⟩⟩⟩
    · rw [nI_suble (by omega) (by omega) (by omega)] at q
      exact absurd q (by omega)
    · have e : ¬ kind = 1 := fun z => q (by rw [z]; rfl)
      rw [orr] at k2
      simp only [if_neg e] at k2 hlt ho ho2 ⊢
      rw [nI_s1 (by omega), pk_sub (by omega)]
      refine C_owner hW hR hlt ?_
      rw [show (1 : Int32) <<< (nI ((dpl d b).getD ((dpl d b).length - 1 - i) 0) &&& 31) = nI (1 * 2 ^ (dpl d b).getD ((dpl d b).length - 1 - i) 0) from nI_shl (n := 1) (by omega) (by omega), Nat.one_mul, nI_or, show nI i + (1 : Int32) = nI (i + 1) from nI_1 i]
      rintro _ rfl _ rfl
      exact k2
    · have e : kind = 1 := (nI_eq (b := 1) (by omega) (by omega)).mp q
      rw [orr] at k2
      simp only [if_pos e] at k2 hlt ho ho2 ⊢
      rw [nI_add]
      refine C_owner hW hR hlt ?_
      rw [show (1 : Int32) <<< (nI ((dpl d b).getD (gone + i) 0) &&& 31) = nI (1 * 2 ^ (dpl d b).getD (gone + i) 0) from nI_shl (n := 1) (by omega) (by omega), Nat.one_mul, nI_or, show nI i + (1 : Int32) = nI (i + 1) from nI_1 i]
      rintro _ rfl _ rfl
      exact k2
end CR
