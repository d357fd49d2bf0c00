/-! the class's camp: what its writing methods do -/
section CM
variable {B M : Nat} {d : Dy} {c : Nat → Int32} {kb km : Nat → Nat} {bk mk : Nat → Int32}
theorem C_lay (hW : WF B M d) (hR : RC d c) {post : (Nat → Int32) → Prop} {m b : Nat} (hm : m < M) (hb : b < B) (hl : (dpl d b).length < 9) (h : ∀ c', RC (opLay d m b) c' → post c') : wpX0_lay (nI B) c (nI m) (nI b) post := by
  have hB := hW.1
  have hM := hW.2.1
  refine C_breathsIn hW hR (by omega) ⟨fun q => absurd q (nI_ge (b := 9) hl (by omega)), fun _ => ?_⟩
  refine C_cell (20 + b) (nI_add 20 b) (by omega) (C_setCell (20 + b) (nI_add 20 b) (by omega) (C_setCell (17 + b) (nI_add 17 b) (by omega) (h _ ?_)))
  have h1 := pak_lt (hW.lt8 b)
  have h2 : 8 ^ (dpl d b).length ≤ 8 ^ 8 := Nat.pow_le_pow_right (by omega) (by omega)
  have h3 : (8 : Nat) ^ 8 = 2 ^ 24 := by decide
  have e : nI (pak (dpl d b)) ||| (nI m <<< (((3 : Int32) * nI (dpl d b).length) &&& 31)) = nI (pak (dpl d b ++ [m])) := by
    rw [show (3 : Int32) * nI (dpl d b).length = nI (3 * (dpl d b).length) from pk_mul 3 _, nI_shl (by omega) (by rw [← p8]; have : m * 8 ^ (dpl d b).length ≤ 5 * 8 ^ 8 := Nat.mul_le_mul (by omega) h2; omega), nI_or, Nat.or_comm, ← nI_or, nI_orsum m (by rw [← p8]; exact h1), pak_app, p8, Nat.add_comm]
  rw [hR.2.2.2.2.2.2 b (by omega), e, show nI (dpl d b).length + (1 : Int32) = nI ((dpl d b).length + 1) from nI_1 _]
  have := hR.setPl (b := b) (by omega) (dpl d b ++ [m])
  rw [List.length_append] at this
  exact this
theorem C_lift (hW : WF B M d) (hR : RC d c) {post : (Nat → Int32) → Prop} {b i : Nat} (hi : i < (dpl d b).length) (h : ∀ c', RC (opLift d b i) c' → post c') : wpX0_lift c (nI b) (nI i) post := by
  have hB := hW.1
  have hb := hW.bag hi
  have h9 := hW.2.2.1 b
  have h1 := pak_lt (hW.lt8 b)
  have h2 : 8 ^ (dpl d b).length ≤ 8 ^ 9 := Nat.pow_le_pow_right (by omega) h9
  have h3 : (8 : Nat) ^ 9 = 2 ^ 27 := by decide
  have h4 : 2 ^ (3 * i) ≤ 2 ^ 24 := Nat.pow_le_pow_right (by omega) (by omega)
  refine C_cell (20 + b) (nI_add 20 b) (by omega) ?_
  rintro _ rfl _ rfl
  refine C_setCell (20 + b) (nI_add 20 b) (by omega) (C_addTo (17 + b) (nI_add 17 b) (by omega) (h _ ?_))
  have e1 : nI (pak (dpl d b)) &&& (((1 : Int32) <<< (((3 : Int32) * nI i) &&& 31)) - (1 : Int32)) = nI (pak (dpl d b) % 8 ^ i) := by
    rw [show (3 : Int32) * nI i = nI (3 * i) from pk_mul 3 i, show (1 : Int32) <<< (nI (3 * i) &&& 31) = nI (1 * 2 ^ (3 * i)) from nI_shl (n := 1) (by omega) (by omega), Nat.one_mul, nI_s1 (Nat.two_pow_pos _), nI_mask, p8]
  have hq : pak (dpl d b) / 8 ^ (i + 1) * 8 ^ i + pak (dpl d b) % 8 ^ i = pak ((dpl d b).eraseIdx i) := pak_erase (hW.lt8 b) hi
  have hq2 : pak (dpl d b) / 8 ^ (i + 1) * 8 ^ i ≤ pak (dpl d b) := by
    refine Nat.le_trans (Nat.mul_le_mul_left _ (Nat.pow_le_pow_right (by omega) (Nat.le_succ i))) (Nat.div_mul_le_self _ _)
  have e2 : (nI (pak (dpl d b)) >>> (((3 : Int32) * (nI i + (1 : Int32))) &&& 31)) <<< (((3 : Int32) * nI i) &&& 31) = nI (pak (dpl d b) / 8 ^ (i + 1) * 2 ^ (3 * i)) := by
    rw [show nI i + (1 : Int32) = nI (i + 1) from nI_1 i, show (3 : Int32) * nI (i + 1) = nI (3 * (i + 1)) from pk_mul 3 _, show (3 : Int32) * nI i = nI (3 * i) from pk_mul 3 i, nI_shr (by omega) (by omega), nI_shl (by omega) (by rw [← p8, ← p8]; omega), p8 (i + 1)]
  rw [hR.2.2.2.2.2.2 b (by omega), e1, e2, nI_orsum _ (by rw [← p8]; exact Nat.mod_lt _ (Nat.pow_pos (by omega))), ← p8, hq, pk_un (by omega), hR.2.2.2.2.2.1 b (by omega), nI_m1 (by omega)]
  have := hR.setPl (b := b) (by omega) ((dpl d b).eraseIdx i)
  rw [List.length_eraseIdx, if_pos hi] at this
  exact this
theorem C_lose (hW : WF B M d) (hR : RC d c) {post : (Nat → Int32) → Prop} {b i : Nat} (hi : i < (dpl d b).length) (h : ∀ c', RC (opLose d b i) c' → post c') : wpX0_lose c (nI b) (nI i) post := by
  have ho := hW.own hi
  have hM := hW.2.1
  refine C_owner hW hR hi (C_addTo (12 + (dpl d b).getD i 0) (nI_add 12 _) (by omega) ?_)
  rw [hR.2.2.2.2.1 _ (by omega)]
  exact C_lift (d := setLo d _ _) hW.kLo (hR.setLo (by omega) _) hi h
/-- an answer and, where it was done, what is then -/
abbrev Act : Type := Int32 × Option Dy
def aGive (B M : Nat) (d : Dy) (x y : Int32) : Act := match ix M x, ix B y with
  | some m, some b => if bitN (dfl d) m = 1 ∨ dsd d m = 0 then (-3, none) else if 9 ≤ (dpl d b).length then (-4, none) else (nI ((dpl d b).length + 1), some (opGive d m b))
  | _, _ => (-1, none)
def aMarch (kb : Nat → Nat) (B : Nat) (d : Dy) (x y : Int32) : Act := match ix B x with
  | some b => match rg 1 9 y with
    | some n => if (dpl d b).length < n then (-3, none) else (nI ((dpl d b).length - n), some (itr (lose1 kb b) n d))
    | none => (-2, none)
  | none => (-1, none)
def aClaim (kb : Nat → Nat) (B M : Nat) (d : Dy) (x y : Int32) : Act := match ix M x, ix B y with
  | some m, some b => if bitN (dfl d) m = 1 ∨ kb b = 3 then (-3, none) else match his kb d m b with
    | some k => (nI (min 99 (dsd d m + 1)), some (opClaim kb d m b k))
    | none => (-3, none)
  | _, _ => (-1, none)
def aSlit (B : Nat) (d : Dy) (x : Int32) : Act := match ix B x with
  | some b => if (dpl d b).length = 0 then (-3, none) else (nI (dpl d b).length, some (itr (fun e => opLose e b 0) (dpl d b).length d))
  | none => (-1, none)
def left (B : Nat) (d : Dy) : Nat := sm (fun b => ls (bitN (dfl d)) (dpl d b)) B
def aFall (B M : Nat) (d : Dy) (x : Int32) : Act := match ix M x with
  | some m => if bitN (dfl d) m = 1 then (-3, none) else (nI (left B (opFall d m)), some (opFall d m))
  | none => (-1, none)
def aDay (kb km : Nat → Nat) (B M : Nat) (d : Dy) : Act := (nI (leak kb B d).1, some (opDay kb km B M d))
theorem bit0 {f m : Nat} (h : ¬ bitN f m = 1) : bitN f m = 0 := by have := bitN_le f m; omega
theorem dpl_lay {m b : Nat} : dpl (opLay d m b) b = dpl d b ++ [m] := up_s _ _ _
theorem C_giveBreath (hW : WF B M d) (hR : RC d c) (x y : Int32) {post : Int32 → (Nat → Int32) → Prop} (h : ∀ c', RC ((aGive B M d x y).2.getD d) c' → post (aGive B M d x y).1 c') : wpX0_giveBreath (nI B) (nI M) c x y post := by
  have hB := hW.1
  have hM := hW.2.1
  cases hm : ix M x with
  | none =>
    simp only [aGive, hm] at h
    exact C_isMan_f (by omega) (ix_none (by omega) hm) ⟨fun _ => h c hR, fun q => absurd rfl q⟩
  | some m =>
    obtain ⟨m1, rfl⟩ := ix_some hm
    refine C_isMan_t m1 (by omega) ⟨fun q => absurd q (by decide), fun _ => ?_⟩
    cases hb : ix B y with
    | none =>
      simp only [aGive, hm, hb] at h
      exact C_isBag_f (by omega) (ix_none (by omega) hb) ⟨fun q => absurd rfl q, fun _ => h c hR⟩
    | some b =>
      obtain ⟨b1, rfl⟩ := ix_some hb
      simp only [aGive, hm, hb] at h
      refine C_isBag_t b1 (by omega) ⟨fun _ => ?_, fun q => absurd q (by decide)⟩
      refine C_hasFallen hW hR (by omega) ?_
      by_cases f1 : bitN (dfl d) m = 1
      · rw [if_pos (Or.inl f1)] at h
        rw [f1]
        exact ⟨fun _ => h c hR, fun q => absurd q (by decide)⟩
      · rw [bit0 f1]
        refine ⟨fun q => absurd rfl q, fun _ => C_ofMan 2 rfl hM m1 (by omega) ?_⟩
        rw [hR.2.2.1 m (by omega)]
        have h99 := hW.2.2.2.2.2.2 m
        by_cases f2 : dsd d m = 0
        · rw [if_pos (Or.inr f2)] at h
          rw [f2]
          exact ⟨fun q => absurd rfl q, fun _ => h c hR⟩
        · rw [if_neg (by omega)] at h
          refine ⟨fun _ => C_breathsIn hW hR (by omega) ?_, fun q => absurd ((nI_eq (b := 0) (by omega) (by omega)).mp q) f2⟩
          have h9 := hW.2.2.1 b
          refine pk_lt (dpl d b).length 9 (fun z => ?_) (fun z => ?_)
          · rw [if_neg (by omega)] at h
            refine C_addTo (2 + m) (nI_add 2 m) (by omega) ?_
            rw [hR.2.2.1 m (by omega), nI_m1 (by omega)]
            refine C_lay (d := setSd d m (dsd d m - 1)) (hW.kSd (by omega)) (hR.setSd (by omega) _) m1 b1 z (fun c' hc => ?_)
            refine C_breathsIn (d := opGive d m b) (hW.kGive m1 b1 z) hc (by omega) ?_
            rw [show (dpl (opGive d m b) b).length = (dpl d b).length + 1 by rw [opGive, dpl_lay, List.length_append]; rfl]
            exact h c' hc
          · rw [if_pos z] at h
            exact h c hR
theorem C_playLoop (hW : WF B M d) (hR : RC d c) (hK : SK B kb bk) {b n : Nat} (hn : n ≤ (dpl d b).length) {post : Int32 → (Nat → Int32) → Prop} {kx : (Nat → Int32) → Prop} (h : ∀ c', RC (itr (lose1 kb b) n d) c' → kx c') : ∃ f, wpX0_playBreaths_L38 (nI B) bk (nI b) (nI n) kx post f c (nI 0) := by
  have h9 := hW.2.2.1 b
  refine pk_loop (fun f i e => wpX0_playBreaths_L38 (nI B) bk (nI b) (nI n) kx post f e (nI i)) (fun i e => RC (itr (lose1 kb b) i d) e) n 0 c (by omega) hR ?_ ?_
  · intro f e he
    exact ⟨fun _ => h e he, fun q => absurd (Int32.le_refl _) q⟩
  · intro f i e hi he k
    obtain ⟨w1, w2⟩ := itr_lose (kb := kb) hW (b := b) (n := i) (by omega)
    refine ⟨fun q => absurd q (nI_ge hi (by omega)), fun _ => C_placePlayed w1 he hK (k := 0) (by omega) (C_lose w1 he (plc_lt (by omega)) (fun c' hc => ?_))⟩
    rintro _ rfl
    rw [show nI i + (1 : Int32) = nI (i + 1) from nI_1 i]
    exact k c' hc
theorem C_playBreaths (hW : WF B M d) (hR : RC d c) (hK : SK B kb bk) (x y : Int32) {post : Int32 → (Nat → Int32) → Prop} (h : ∀ c', RC ((aMarch kb B d x y).2.getD d) c' → post (aMarch kb B d x y).1 c') : wpX0_playBreaths (nI B) bk c x y post := by
  have hB := hW.1
  cases hb : ix B x with
  | none =>
    simp only [aMarch, hb] at h
    exact C_isBag_f (by omega) (ix_none (by omega) hb) ⟨fun q => absurd rfl q, fun _ => h c hR⟩
  | some b =>
    obtain ⟨b1, rfl⟩ := ix_some hb
    refine C_isBag_t b1 (by omega) ⟨fun _ => ?_, fun q => absurd q (by decide)⟩
    have h9 := hW.2.2.1 b
    cases hy : rg 1 9 y with
    | none =>
      simp only [aMarch, hb, hy] at h
      rcases rg_none (by omega) (by omega) hy with q | q
      · exact ⟨fun _ => h c hR, fun z => absurd q z⟩
      · refine ⟨fun _ => h c hR, fun _ => ⟨fun z => ?_, fun _ => h c hR⟩⟩
        rw [Int32.lt_iff_toInt_lt] at q
        rw [Int32.le_iff_toInt_le] at z
        exact absurd q (Int.not_lt.mpr z)
    | some n =>
      obtain ⟨n1, n2, rfl⟩ := rg_some hy
      simp only [aMarch, hb, hy] at h
      refine ⟨fun q => absurd q (nI_nlt (b := 1) n1 (by omega)), fun _ => ⟨fun _ => C_breathsIn hW hR (by omega) ?_, fun q => absurd (nI_le (b := 9) n2 (by omega)) q⟩⟩
      refine pk_le n (dpl d b).length (fun z => ?_) (fun z => ?_)
      · rw [if_neg (by omega)] at h
        refine C_playLoop hW hR hK z (fun c' hc => ?_)
        obtain ⟨w1, w2⟩ := itr_lose (kb := kb) hW (b := b) (n := n) z
        refine C_breathsIn w1 hc (by omega) ?_
        rw [w2]; exact h c' hc
      · rw [if_pos z] at h
        exact h c hR
theorem C_takeBack (hW : WF B M d) (hR : RC d c) (hK : SK B kb bk) (x y : Int32) {post : Int32 → (Nat → Int32) → Prop} (h : ∀ c', RC ((aClaim kb B M d x y).2.getD d) c' → post (aClaim kb B M d x y).1 c') : wpX0_takeBack (nI B) (nI M) bk c x y post := by
  have hB := hW.1
  have hM := hW.2.1
  cases hm : ix M x with
  | none =>
    simp only [aClaim, hm] at h
    exact C_isMan_f (by omega) (ix_none (by omega) hm) ⟨fun _ => h c hR, fun q => absurd rfl q⟩
  | some m =>
    obtain ⟨m1, rfl⟩ := ix_some hm
    refine C_isMan_t m1 (by omega) ⟨fun q => absurd q (by decide), fun _ => ?_⟩
    cases hb : ix B y with
    | none =>
      simp only [aClaim, hm, hb] at h
      exact C_isBag_f (by omega) (ix_none (by omega) hb) ⟨fun q => absurd rfl q, fun _ => h c hR⟩
    | some b =>
      obtain ⟨b1, rfl⟩ := ix_some hb
      simp only [aClaim, hm, hb] at h
      have h9 := hW.2.2.1 b
      have h3 := (hK b b1).2
      refine C_isBag_t b1 (by omega) ⟨fun _ => ?_, fun q => absurd q (by decide)⟩
      refine C_hasFallen hW hR (by omega) ?_
      by_cases f1 : bitN (dfl d) m = 1
      · rw [if_pos (Or.inl f1)] at h
        rw [f1]
        exact ⟨fun _ => h c hR, fun q => absurd q (by decide)⟩
      · rw [bit0 f1]
        refine ⟨fun q => absurd rfl q, fun _ => C_kindOfBag hB hK b1 ?_⟩
        refine ⟨fun q => ?_, fun q => ?_⟩
        · have f2 : ¬ kb b = 3 := fun z => q (by rw [z]; rfl)
          rw [if_neg (by omega)] at h
          have key : ∀ (fu i : Nat), i + fu = (dpl d b).length → (∀ j, j < i → ¬ (dpl d b).getD (plc (kb b) (dpl d b).length j) 0 = m) → wpX0_takeBack_L40 (nI B) (nI M) bk (nI m) (nI b) c (wpX0_takeBack_J68 (nI B) (nI M) bk (nI m) (nI b) post) post (fu + 1) (nI i) := by
            intro fu
            induction fu with
            | zero =>
              intro i hi hno
              refine C_breathsIn hW hR (by omega) ⟨fun _ => ?_, fun q => absurd (nI_le (by omega) (by omega)) q⟩
              have hn : his kb d m b = none := fnd_of_none (fun j hj => by simpa using hno j (by omega))
              rw [hn] at h
              exact h c hR
            | succ fu ih =>
              intro i hi hno
              have hp : plc (kb b) (dpl d b).length i < (dpl d b).length := plc_lt (by omega)
              have ho := hW.own hp
              refine C_breathsIn hW hR (by omega) ⟨fun q => absurd q (nI_ge (by omega) (by omega)), fun _ => C_placePlayed hW hR hK (by omega) (C_owner hW hR hp ⟨fun q => ?_, fun q => ?_⟩)⟩
              · rintro _ rfl
                rw [show nI i + (1 : Int32) = nI (i + 1) from nI_1 i]
                refine ih (i + 1) (by omega) (fun j hj => ?_)
                rcases Nat.lt_or_ge j i with z | z
                · exact hno j z
                · rw [show j = i by omega]; exact fun z => q (by rw [z])
              · have e : (dpl d b).getD (plc (kb b) (dpl d b).length i) 0 = m := (nI_eq (by omega) (by omega)).mp q
                have hs : his kb d m b = some i := fnd_of (by simpa using e) (fun j hj => by simpa using hno j hj) (by omega)
                rw [hs] at h
                have h99 := hW.2.2.2.2.2.2 m
                refine C_lift hW hR hp (fun c1 hc1 => C_ofMan 2 rfl hM m1 (by omega) ?_)
                have w1 := hW.kLift hp
                rw [hc1.2.2.1 m (by omega)]
                have e2 : (if nI (dsd d m) + (1 : Int32) < (99 : Int32) then nI (dsd d m) + (1 : Int32) else (99 : Int32)) = nI (min 99 (dsd d m + 1)) := by
                  rw [show nI (dsd d m) + (1 : Int32) = nI (dsd d m + 1) from nI_1 _]
                  split
                  · next z => rw [show (99 : Int32) = nI 99 from rfl, nI_ltI (by omega) (by omega)] at z; rw [Nat.min_eq_right (by omega)]
                  · next z => rw [show (99 : Int32) = nI 99 from rfl, nI_ltI (by omega) (by omega)] at z; rw [Nat.min_eq_left (by omega)]; rfl
                rw [show dsd (opLift d b (plc (kb b) (dpl d b).length i)) m = dsd d m from rfl] 
                refine C_setCell (2 + m) (nI_add 2 m) (by omega) ?_
                rw [e2]
                have hc2 := hc1.setSd (m := m) (by omega) (min 99 (dsd d m + 1))
                refine C_ofMan 2 rfl hM m1 (by omega) ?_
                rw [pk_us]
                exact h _ hc2
          exact ⟨_, key (dpl d b).length 0 (by omega) (fun j hj => absurd hj (Nat.not_lt_zero j))⟩
        · have f2 : kb b = 3 := (nI_eq (b := 3) (by omega) (by omega)).mp q
          rw [if_pos (Or.inr f2)] at h
          exact h c hR
theorem C_cutOpen (hW : WF B M d) (hR : RC d c) (x : Int32) {post : Int32 → (Nat → Int32) → Prop} (h : ∀ c', RC ((aSlit B d x).2.getD d) c' → post (aSlit B d x).1 c') : wpX0_cutOpen (nI B) c x post := by
  have hB := hW.1
  cases hb : ix B x with
  | none =>
    simp only [aSlit, hb] at h
    exact C_isBag_f (by omega) (ix_none (by omega) hb) ⟨fun q => absurd rfl q, fun _ => h c hR⟩
  | some b =>
    obtain ⟨b1, rfl⟩ := ix_some hb
    simp only [aSlit, hb] at h
    have h9 := hW.2.2.1 b
    refine C_isBag_t b1 (by omega) ⟨fun _ => C_breathsIn hW hR (by omega) ?_, fun q => absurd q (by decide)⟩
    by_cases f : (dpl d b).length = 0
    · rw [if_pos f] at h
      rw [f]
      exact ⟨fun q => absurd rfl q, fun _ => h c hR⟩
    · rw [if_neg f] at h
      refine ⟨fun _ => ?_, fun q => absurd ((nI_eq (b := 0) (by omega) (by omega)).mp q) f⟩
      refine pk_loop (fun fu i e => wpX0_cutOpen_L25 (nI B) (nI b) (nI (dpl d b).length) post fu e (nI i)) (fun i e => RC (itr (fun e => opLose e b 0) i d) e) (dpl d b).length 0 c (by omega) hR ?_ ?_
      · intro fu e he
        exact ⟨fun _ => h e he, fun q => absurd (Int32.le_refl _) q⟩
      · intro fu i e hi he k
        obtain ⟨w1, w2⟩ := itr_lose0 hW (b := b) (n := i) (by omega)
        refine ⟨fun q => absurd q (nI_ge hi (by omega)), fun _ => C_lose (i := 0) w1 he (by omega) (fun c' hc => ?_)⟩
        rintro _ rfl
        rw [show nI i + (1 : Int32) = nI (i + 1) from nI_1 i]
        exact k c' hc
theorem C_loseMan (hW : WF B M d) (hR : RC d c) (x : Int32) {post : Int32 → (Nat → Int32) → Prop} (h : ∀ c', RC ((aFall B M d x).2.getD d) c' → post (aFall B M d x).1 c') : wpX0_loseMan (nI B) (nI M) c x post := by
  have hB := hW.1
  have hM := hW.2.1
  cases hm : ix M x with
  | none =>
    simp only [aFall, hm] at h
    exact C_isMan_f (by omega) (ix_none (by omega) hm) ⟨fun q => absurd rfl q, fun _ => h c hR⟩
  | some m =>
    obtain ⟨m1, rfl⟩ := ix_some hm
    simp only [aFall, hm] at h
    refine C_isMan_t m1 (by omega) ⟨fun _ => C_hasFallen hW hR (by omega) ?_, fun q => absurd q (by decide)⟩
    have h2 : 2 ^ m ≤ 2 ^ 5 := Nat.pow_le_pow_right (by omega) (by omega)
    by_cases f : bitN (dfl d) m = 1
    · rw [if_pos f] at h
      rw [f]
      exact ⟨fun q => absurd q (by decide), fun _ => h c hR⟩
    · rw [if_neg f] at h
      rw [bit0 f]
      refine ⟨fun _ => C_fallenBits hR (C_setCell 1 rfl (by omega) ?_), fun q => absurd rfl q⟩
      rw [show (1 : Int32) <<< (nI m &&& 31) = nI (1 * 2 ^ m) from nI_shl (n := 1) (by omega) (by omega), Nat.one_mul, nI_or]
      have hc := hR.setFl (dfl d ||| 2 ^ m)
      exact C_left (hW.kFall m1) hc (h _ hc)
theorem C_passSunday (hW : WF B M d) (hR : RC d c) (hK : SK M km mk) {post : (Nat → Int32) → Prop} (h : ∀ c', RC (foldN (sun1 km) M d) c' → post c') : wpX0_passSunday (nI M) mk c post := by
  have hM := hW.2.1
  refine pk_loop (fun fu i e => wpX0_passSunday_L2 (nI M) mk post fu e (nI i)) (fun i e => RC (foldN (sun1 km) i d) e) M 0 c (by omega) hR ?_ ?_
  · intro fu e he
    exact ⟨fun _ => h e he, fun q => absurd (Int32.le_refl _) q⟩
  · intro fu i e hi he k
    have w : WF B M (foldN (sun1 km) i d) := WF.kFold (fun n e h => h.kSun1) hW i
    have h99 := w.2.2.2.2.2.2 i
    have h3 := (hK i hi).2
    have step : ∀ c', RC (sun1 km i (foldN (sun1 km) i d)) c' → wpX0_passSunday_J84 (nI M) mk (wpX0_passSunday_L2 (nI M) mk post fu) post c' (nI i) := by
      intro c' hc
      rintro _ rfl
      rw [show nI i + (1 : Int32) = nI (i + 1) from nI_1 i]
      exact k c' hc
    obtain ⟨D, hDe⟩ : ∃ D, D = foldN (sun1 km) i d := ⟨_, rfl⟩
    rw [← hDe] at he w h99 step
    refine ⟨fun q => absurd q (nI_ge hi (by omega)), fun _ => C_hasFallen w he (by omega) ?_⟩
    unfold sun1 at step
    by_cases f : bitN (dfl D) i = 1
    · rw [f]
      simp only [f, if_true] at step
      exact ⟨fun q => absurd q (by decide), fun _ => step e he⟩
    · rw [bit0 f]
      rw [if_neg f] at step
      refine ⟨fun _ => C_kindOfMan hM hK hi (C_ofMan 2 rfl hM hi (by omega) ?_), fun q => absurd rfl q⟩
      rw [he.2.2.1 i (by omega)]
      have go : ∀ z : Nat, z ≤ 1 → z = (if km i = 1 then 1 else 0) → wpX0_passSunday_J43 (nI M) mk (wpX0_passSunday_L2 (nI M) mk post fu) post e (nI i) (nI (km i)) (nI z) (nI (dsd D i)) := by
        intro z hz ez
        rw [← ez] at step
        refine pk_le (dsd D i) z (fun q => ?_) (fun q => ?_)
        · rw [if_neg (by omega)] at step
          have fin : ∀ v : Int32, v = (if km i = 3 then 0 else if km i = 2 then 2 else 1) → wpX0_passSunday_J81 (nI M) mk (wpX0_passSunday_L2 (nI M) mk post fu) post e (nI i) v ((7 : Int32) + nI i) := by
            intro v ev
            refine C_addTo (7 + i) (nI_add 7 i) (by omega) ?_
            rw [he.2.2.2.1 i (by omega)]
            rw [← ev] at step
            exact step _ (he.setGr (by omega) _)
          refine ⟨fun q => ?_, fun q => ?_⟩
          · have e3 : ¬ km i = 3 := fun z => q (by rw [z]; rfl)
            refine ⟨fun q => ?_, fun q => ?_⟩
            · have e2 : ¬ km i = 2 := fun z => q (by rw [z]; rfl)
              exact fin 1 (by rw [if_neg e3, if_neg e2])
            · have e2 : km i = 2 := (nI_eq (b := 2) (by omega) (by omega)).mp q
              exact fin 2 (by rw [if_neg e3, if_pos e2])
          · have e3 : km i = 3 := (nI_eq (b := 3) (by omega) (by omega)).mp q
            exact fin 0 (by rw [if_pos e3])
        · rw [if_pos q] at step
          refine C_addTo (2 + i) (nI_add 2 i) (by omega) ?_
          rw [he.2.2.1 i (by omega), nI_m1 (by omega)]
          exact step _ (he.setSd (by omega) _)
      refine ⟨fun q => ?_, fun q => ?_⟩
      · have e1 : ¬ km i = 1 := fun z => q (by rw [z]; rfl)
        exact go 0 (by omega) (by rw [if_neg e1])
      · have e1 : km i = 1 := (nI_eq (b := 1) (by omega) (by omega)).mp q
        exact go 1 (by omega) (by rw [if_pos e1])
theorem leak_le (n : Nat) : (leak kb n d).1 ≤ n := by
  induction n with
  | zero => exact Nat.le_refl 0
  | succ n ih =>
    rw [leak]
    split
    · show (leak kb n d).1 + 1 ≤ n + 1; omega
    · omega
theorem C_passDay (hW : WF B M d) (hR : RC d c) (hKb : SK B kb bk) (hKm : SK M km mk) {post : Int32 → (Nat → Int32) → Prop} (h : ∀ c', RC (opDay kb km B M d) c' → post (nI (leak kb B d).1) c') : wpX0_passDay (nI B) (nI M) bk mk c post := by
  have hB := hW.1
  have h60 : ∀ c', RC (sunday km M (leak kb B d).2) c' → wpX0_passDay_J60 (nI B) (nI M) bk mk post c' (nI (leak kb B d).1) := by
    intro c' hc
    refine C_addTo 0 rfl (by omega) ?_
    rw [hc.1]
    exact h _ (hc.setDy _)
  have h44 : ∀ c', RC (leak kb B d).2 c' → wpX0_passDay_J44 (nI B) (nI M) bk mk post c' (nI (leak kb B d).1) := by
    intro c' hc
    refine C_today hc ⟨fun q => ?_, fun q => ?_⟩
    · have e : sunday km M (leak kb B d).2 = (leak kb B d).2 := if_neg q
      rw [e] at h60; exact h60 c' hc
    · have e : sunday km M (leak kb B d).2 = foldN (sun1 km) M (leak kb B d).2 := if_pos q
      rw [e] at h60
      exact C_passSunday (hW.kLeak B) hc hKm h60
  refine pk_loop (fun fu i (e : Nat → Int32) => wpX0_passDay_L4 (nI B) (nI M) bk mk (wpX0_passDay_J44 (nI B) (nI M) bk mk post) post fu e (nI (leak kb i d).1) (nI i)) (fun i e => RC (leak kb i d).2 e) B 0 c (by omega) hR ?_ ?_
  · intro fu e he
    exact ⟨fun _ => h44 e he, fun q => absurd (Int32.le_refl _) q⟩
  · intro fu i e hi he k
    have w := hW.kLeak (kb := kb) i
    have h9 := w.2.2.1 i
    have h3 := (hKb i hi).2
    have hle := leak_le (kb := kb) (d := d) i
    rw [leak] at k
    have same : ¬ (kb i = 2 ∧ 0 < (dpl (leak kb i d).2 i).length) → wpX0_passDay_J38 (nI B) (nI M) bk mk (wpX0_passDay_L4 (nI B) (nI M) bk mk (wpX0_passDay_J44 (nI B) (nI M) bk mk post) post fu) post e (nI (leak kb i d).1) (nI i) := by
      intro q
      rw [if_neg q] at k
      rintro _ rfl
      rw [show nI i + (1 : Int32) = nI (i + 1) from nI_1 i]
      exact k e he
    refine ⟨fun q => absurd q (nI_ge hi (by omega)), fun _ => C_kindOfBag hB hKb hi ⟨fun q => same (fun z => q (by rw [z.1]; rfl)), fun q => C_breathsIn w he (by omega) ?_⟩⟩
    have e2 : kb i = 2 := (nI_eq (b := 2) (by omega) (by omega)).mp q
    refine pk_le (dpl (leak kb i d).2 i).length 0 (fun z => same (fun y => by omega)) (fun z => ?_)
    refine C_lose (i := 0) w he z (fun c' hc => ?_)
    rw [if_pos ⟨e2, z⟩] at k
    rintro _ rfl _ rfl
    rw [show nI i + (1 : Int32) = nI (i + 1) from nI_1 i, show nI (leak kb i d).1 + (1 : Int32) = nI ((leak kb i d).1 + 1) from nI_1 _]
    exact k c' hc
end CM
