/-! the acts of the reference; a slit bag; Rel -/
theorem sm_shift {f : Nat → Nat} : ∀ n, sm f (n + 1) = f 0 + sm (fun i => f (i + 1)) n
  | 0 => by simp [sm]
  | n + 1 => by rw [sm, sm_shift n, sm]; omega
theorem ls_cons (g : Nat → Nat) (x : Nat) (t : List Nat) : ls g (x :: t) = g x + ls g t := by
  unfold ls
  rw [List.length_cons, sm_shift]
  rfl
theorem ls_erase (g : Nat → Nat) : ∀ {L : List Nat} {i : Nat}, i < L.length → ls g L = ls g (L.eraseIdx i) + g (L.getD i 0)
  | [], _, h => absurd h (Nat.not_lt_zero _)
  | x :: t, 0, _ => by rw [ls_cons, List.eraseIdx_cons_zero, List.getD_cons_zero]; omega
  | x :: t, i + 1, h => by
    rw [ls_cons, List.eraseIdx_cons_succ, ls_cons, List.getD_cons_succ, ls_erase g (L := t) (i := i) (by simpa using h)]; omega
theorem itr_comm (f : Dy → Dy) : ∀ n d, itr f (n + 1) d = itr f n (f d)
  | 0, _ => rfl
  | n + 1, d => by rw [itr, itr_comm f n d]; rfl
def drained (d : Dy) (b : Nat) : Dy := (va_up (dpl d) b [], dsd d, dgr d, fun m => dlo d m + nI (cnt m (dpl d b)), dfl d, ddy d)
theorem drain {f : Dy → Dy} {ι : Dy → Nat} {b : Nat} (hf : ∀ e, f e = opLose e b (ι e)) (hi : ∀ e, 0 < (dpl e b).length → ι e < (dpl e b).length) : ∀ n d, (dpl d b).length = n → itr f n d = drained d b := by
  intro n
  induction n with
  | zero =>
    intro d hd
    have e : dpl d b = [] := List.eq_nil_of_length_eq_zero hd
    show d = _
    unfold drained
    rw [e]
    have e1 : va_up (dpl d) b [] = dpl d := by
      funext q
      by_cases z : q = b
      · subst z; rw [up_s, e]
      · rw [up_n _ _ z]
    rw [e1]
    have e2 : (fun m => dlo d m + nI (cnt m [])) = dlo d := by
      funext m
      exact Int32.add_zero _
    rw [e2]
  | succ n ih =>
    intro d hd
    have hlt := hi d (by omega)
    rw [itr_comm, hf d, ih _ (by rw [len_lose hlt]; omega)]
    obtain ⟨o, ho⟩ : ∃ o, o = (dpl d b).getD (ι d) 0 := ⟨_, rfl⟩
    have p1 : dpl (opLose d b (ι d)) b = (dpl d b).eraseIdx (ι d) := up_s _ _ _
    unfold drained
    rw [p1]
    have e1 : va_up (dpl (opLose d b (ι d))) b [] = va_up (dpl d) b [] := bx_uu _ _ _ _
    have e2 : (fun m => dlo (opLose d b (ι d)) m + nI (cnt m ((dpl d b).eraseIdx (ι d)))) = fun m => dlo d m + nI (cnt m (dpl d b)) := by
      funext m
      rw [show cnt m (dpl d b) = cnt m ((dpl d b).eraseIdx (ι d)) + (if (dpl d b).getD (ι d) 0 = m then 1 else 0) from ls_erase _ hlt]
      show va_up (dlo d) ((dpl d b).getD (ι d) 0) (dlo d ((dpl d b).getD (ι d) 0) + 1) m + _ = _
      rw [← ho]
      by_cases z : m = o
      · subst z
        rw [up_s, if_pos rfl, ← nI_add, Int32.add_assoc, Int32.add_comm (1 : Int32)]
        rfl
      · rw [up_n _ _ z, if_neg (fun y => z y.symm)]
        rfl
    rw [e1, e2]
    rfl
theorem slit_same (kb : Nat → Nat) (d : Dy) (b : Nat) : itr (lose1 kb b) (dpl d b).length d = itr (fun e => opLose e b 0) (dpl d b).length d := by
  rw [drain (f := lose1 kb b) (ι := fun e => plc (kb b) (dpl e b).length 0) (fun _ => rfl) (fun e h => plc_lt h) _ d rfl, drain (f := fun e => opLose e b 0) (ι := fun _ => 0) (fun _ => rfl) (fun e h => h) _ d rfl]
theorem ltm1 : (-1 : Int32) < 0 := by decide
theorem ltm2 : (-2 : Int32) < 0 := by decide
theorem ltm3 : (-3 : Int32) < 0 := by decide
section SG
variable {B M : Nat} {d : Dy} {kb km : Nat → Nat}
theorem sig_give (hW : WF B M d) (x y : Int32) : sig (aGive B M d x y) := by
  unfold aGive
  cases hx : ix M x with
  | none => exact Or.inl ⟨rfl, ltm1⟩
  | some m =>
    cases hy : ix B y with
    | none => exact Or.inl ⟨rfl, ltm1⟩
    | some b =>
      have := hW.2.2.1 b
      by_cases f : bitN (dfl d) m = 1 ∨ dsd d m = 0
      · simp only [f, if_true]; exact Or.inl ⟨rfl, by decide⟩
      · simp only [f, if_false]
        by_cases g : 9 ≤ (dpl d b).length
        · rw [if_pos g]; exact Or.inl ⟨rfl, by decide⟩
        · rw [if_neg g]; exact Or.inr ⟨⟨_, rfl⟩, nI_pos (by omega)⟩
theorem sig_march (hW : WF B M d) (x y : Int32) : sig (aMarch kb B d x y) := by
  unfold aMarch
  cases hx : ix B x with
  | none => exact Or.inl ⟨rfl, ltm1⟩
  | some b =>
    cases hy : rg 1 9 y with
    | none => exact Or.inl ⟨rfl, ltm2⟩
    | some n =>
      have := hW.2.2.1 b
      simp only
      by_cases g : (dpl d b).length < n
      · rw [if_pos g]; exact Or.inl ⟨rfl, by decide⟩
      · rw [if_neg g]; exact Or.inr ⟨⟨_, rfl⟩, nI_pos (by omega)⟩
theorem sig_claim (hW : WF B M d) (x y : Int32) : sig (aClaim kb B M d x y) := by
  unfold aClaim
  cases hx : ix M x with
  | none => exact Or.inl ⟨rfl, ltm1⟩
  | some m =>
    cases hy : ix B y with
    | none => exact Or.inl ⟨rfl, ltm1⟩
    | some b =>
      have := hW.2.2.2.2.2.2 m
      by_cases f : bitN (dfl d) m = 1 ∨ kb b = 3
      · simp only [f, if_true]; exact Or.inl ⟨rfl, by decide⟩
      · simp only [f, if_false]
        cases hh : his kb d m b with
        | none => exact Or.inl ⟨rfl, ltm3⟩
        | some k => exact Or.inr ⟨⟨_, rfl⟩, nI_pos (by omega)⟩
theorem sig_slit (hW : WF B M d) (x : Int32) : sig (aSlit B d x) := by
  unfold aSlit
  cases hx : ix B x with
  | none => exact Or.inl ⟨rfl, ltm1⟩
  | some b =>
    have := hW.2.2.1 b
    simp only
    by_cases g : (dpl d b).length = 0
    · rw [if_pos g]; exact Or.inl ⟨rfl, by decide⟩
    · rw [if_neg g]; exact Or.inr ⟨⟨_, rfl⟩, nI_pos (by omega)⟩
theorem ls_le {g : Nat → Nat} (hg : ∀ x, g x ≤ 1) (L : List Nat) : ls g L ≤ L.length := by
  have := sm_le (f := fun i => g (L.getD i 0)) (c := 1) (n := L.length) (fun k _ => hg _)
  unfold ls; omega
theorem left_le (hW : WF B M d) : left B d ≤ 27 := by
  have hB := hW.1
  have := sm_le (f := fun b => ls (bitN (dfl d)) (dpl d b)) (c := 9) (n := B) (fun k _ => Nat.le_trans (ls_le (bitN_le _) _) (hW.2.2.1 k))
  unfold left; omega
theorem sig_fall (hW : WF B M d) (x : Int32) : sig (aFall B M d x) := by
  unfold aFall
  cases hx : ix M x with
  | none => exact Or.inl ⟨rfl, ltm1⟩
  | some m =>
    have hl := left_le (hW.kFall (ix_some hx).1)
    simp only
    by_cases g : bitN (dfl d) m = 1
    · rw [if_pos g]; exact Or.inl ⟨rfl, by decide⟩
    · rw [if_neg g]; exact Or.inr ⟨⟨_, rfl⟩, nI_pos (by omega)⟩
theorem sig_day (hW : WF B M d) : sig (aDay kb km B M d) := by
  have := leak_le (kb := kb) (d := d) B
  have := hW.1
  exact Or.inr ⟨⟨_, rfl⟩, nI_pos (by omega)⟩
theorem wf_give (hW : WF B M d) (x y : Int32) : WF B M ((aGive B M d x y).2.getD d) := by
  unfold aGive
  cases hx : ix M x with
  | none => exact hW
  | some m =>
    cases hy : ix B y with
    | none => exact hW
    | some b =>
      by_cases f : bitN (dfl d) m = 1 ∨ dsd d m = 0
      · simp only [f, if_true]; exact hW
      · simp only [f, if_false]
        by_cases g : 9 ≤ (dpl d b).length
        · rw [if_pos g]; exact hW
        · rw [if_neg g]; exact hW.kGive (ix_some hx).1 (ix_some hy).1 (by omega)
theorem wf_march (hW : WF B M d) (x y : Int32) : WF B M ((aMarch kb B d x y).2.getD d) := by
  unfold aMarch
  cases hx : ix B x with
  | none => exact hW
  | some b =>
    cases hy : rg 1 9 y with
    | none => exact hW
    | some n =>
      simp only
      by_cases g : (dpl d b).length < n
      · rw [if_pos g]; exact hW
      · rw [if_neg g]; exact (itr_lose hW (by omega)).1
theorem wf_claim (hW : WF B M d) (x y : Int32) : WF B M ((aClaim kb B M d x y).2.getD d) := by
  unfold aClaim
  cases hx : ix M x with
  | none => exact hW
  | some m =>
    cases hy : ix B y with
    | none => exact hW
    | some b =>
      by_cases f : bitN (dfl d) m = 1 ∨ kb b = 3
      · simp only [f, if_true]; exact hW
      · simp only [f, if_false]
        cases hh : his kb d m b with
        | none => exact hW
        | some k => exact hW.kClaim (fnd_lt hh).1
theorem wf_slit (hW : WF B M d) (x : Int32) : WF B M ((aSlit B d x).2.getD d) := by
  unfold aSlit
  cases hx : ix B x with
  | none => exact hW
  | some b =>
    simp only
    by_cases g : (dpl d b).length = 0
    · rw [if_pos g]; exact hW
    · rw [if_neg g]; exact (itr_lose0 hW (Nat.le_refl _)).1
theorem wf_fall (hW : WF B M d) (x : Int32) : WF B M ((aFall B M d x).2.getD d) := by
  unfold aFall
  cases hx : ix M x with
  | none => exact hW
  | some m =>
    simp only
    by_cases g : bitN (dfl d) m = 1
    · rw [if_pos g]; exact hW
    · rw [if_neg g]; exact hW.kFall (ix_some hx).1
theorem wf_day (hW : WF B M d) : WF B M ((aDay kb km B M d).2.getD d) := hW.kDay
theorem mem_push {a : Act} {h : List Dy} (hW : WF B M d) (hh : ∀ e, e ∈ h → WF B M e) : ∀ e, e ∈ pushH a d h → WF B M e := by
  unfold pushH
  intro e he
  cases q : a.2 with
  | none => rw [q] at he; exact hh e he
  | some z =>
    rw [q] at he
    rcases List.mem_cons.mp (List.mem_of_mem_take he) with r | r
    · rw [r]; exact hW
    · exact hh e r
end SG
section MA
variable {B M : Nat} {d : Dy} {p book : Nat → Int32} {kb km : Nat → Nat} {sort kind : Nat → Int32} {th acts : Int32} {h : List Dy}
theorem M_put (hW : WF B M d) (hh : ∀ e, e ∈ h → WF B M e) (hR : RM d p) (hP : MPast h book acts) (x y : Int32) {post : Int32 → Int32 → (Nat → Int32) → (Nat → Int32) → Int32 → Prop} (k : ∀ p' b a, RM ((aGive B M d x y).2.getD d) p' → MPast (pushH (aGive B M d x y) d h) b a → post (aGive B M d x y).1 0 p' b a) : wpX7_put th (nI B) (nI M) p book acts x y post := by
  have hB := hW.1
  have hM := hW.2.1
  cases hm : ix M x with
  | none =>
    simp only [aGive, hm, pushH] at k
    exact M_noM_f (by omega) (ix_none (by omega) hm) ⟨fun _ => k _ _ _ hR hP, fun q => absurd q (by decide)⟩
  | some m =>
    obtain ⟨m1, rfl⟩ := ix_some hm
    refine M_noM_t m1 (by omega) ⟨fun q => absurd rfl q, fun _ => ?_⟩
    cases hb : ix B y with
    | none =>
      simp only [aGive, hm, hb, pushH] at k
      exact M_no_f (by omega) (ix_none (by omega) hb) ⟨fun q => absurd q (by decide), fun _ => k _ _ _ hR hP⟩
    | some b =>
      obtain ⟨b1, rfl⟩ := ix_some hb
      simp only [aGive, hm, hb, pushH] at k
      have h9 := hW.2.2.1 b
      refine M_no_t b1 (by omega) ⟨fun _ => M_canGive hW hR m1 ?_, fun q => absurd rfl q⟩
      by_cases f : bitN (dfl d) m = 1 ∨ dsd d m = 0
      · rw [if_pos f] at k ⊢
        exact ⟨fun q => absurd rfl q, fun _ => k _ _ _ hR hP⟩
      · rw [if_neg f] at k ⊢
        refine ⟨fun _ => ?_, fun q => absurd q (by decide)⟩
        rw [nI_clamp (by omega), hR.2.2.2.2.2.1 b (by omega)]
        refine ⟨vin (by omega) (by omega), fun q => ?_, fun q => ?_⟩
        · have hlt : (dpl d b).length < 9 := by
            rcases Nat.lt_or_ge (dpl d b).length 9 with z | z
            · exact z
            · exact absurd (by rw [show (dpl d b).length = 9 by omega]; rfl) q
          rw [if_neg (by omega)] at k
          refine M_note hW hh hR hP (fun b' a' hp => M_give hW hR m1 b1 hlt (by omega) (fun p' hp' => ⟨vin (by omega) (by omega), ?_⟩))
          rw [hp'.2.2.2.2.2.1 b (by omega), show (dpl (opGive d m b) b).length = (dpl d b).length + 1 by rw [opGive, dpl_lay, List.length_append]; rfl]
          exact k _ _ _ hp' hp
        · have e9 : (dpl d b).length = 9 := (nI_eq (b := 9) (by omega) (by omega)).mp q
          rw [if_pos (by omega)] at k
          exact k _ _ _ hR hP
theorem M_march (hW : WF B M d) (hh : ∀ e, e ∈ h → WF B M e) (hR : RM d p) (hK : SK B kb sort) (hP : MPast h book acts) (x y : Int32) {post : Int32 → Int32 → (Nat → Int32) → (Nat → Int32) → Int32 → Prop} (k : ∀ p' b a, RM ((aMarch kb B d x y).2.getD d) p' → MPast (pushH (aMarch kb B d x y) d h) b a → post (aMarch kb B d x y).1 0 p' b a) : wpX7_march th (nI B) sort p book acts x y post := by
  have hB := hW.1
  cases hb : ix B x with
  | none =>
    simp only [aMarch, hb, pushH] at k
    exact M_no_f (by omega) (ix_none (by omega) hb) ⟨fun q => absurd q (by decide), fun _ => k _ _ _ hR hP⟩
  | some b =>
    obtain ⟨b1, rfl⟩ := ix_some hb
    have h9 := hW.2.2.1 b
    refine M_no_t b1 (by omega) ⟨fun _ => M_in 1 9 rfl rfl (by omega) (by omega) (fun n hy => ?_) (fun hy => ?_), fun q => absurd rfl q⟩
    · obtain ⟨n1, n2, rfl⟩ := rg_some hy
      simp only [aMarch, hb, hy, pushH] at k
      refine ⟨fun _ => ?_, fun q => absurd q (by decide)⟩
      rw [nI_clamp (by omega), hR.2.2.2.2.2.1 b (by omega)]
      refine ⟨vin (by omega) (by omega), pk_le n (dpl d b).length (fun z => ?_) (fun z => ?_)⟩
      · rw [if_neg (by omega)] at k
        refine M_note hW hh hR hP (fun b' a' hp => M_play hW hR hK b1 z (fun p' hp' => ⟨vin (by omega) (by omega), ?_⟩))
        rw [hp'.2.2.2.2.2.1 b (by omega), (itr_lose hW z).2]
        exact k _ _ _ hp' hp
      · rw [if_pos z] at k
        exact k _ _ _ hR hP
    · simp only [aMarch, hb, hy, pushH] at k
      exact ⟨fun q => absurd rfl q, fun _ => k _ _ _ hR hP⟩
theorem M_claim (hW : WF B M d) (hh : ∀ e, e ∈ h → WF B M e) (hR : RM d p) (hK : SK B kb sort) (hP : MPast h book acts) (x y : Int32) {post : Int32 → Int32 → (Nat → Int32) → (Nat → Int32) → Int32 → Prop} (k : ∀ p' b a, RM ((aClaim kb B M d x y).2.getD d) p' → MPast (pushH (aClaim kb B M d x y) d h) b a → post (aClaim kb B M d x y).1 0 p' b a) : wpX7_claim th (nI B) sort (nI M) p book acts x y post := by
  have hB := hW.1
  have hM := hW.2.1
  cases hm : ix M x with
  | none =>
    simp only [aClaim, hm, pushH] at k
    exact M_noM_f (by omega) (ix_none (by omega) hm) ⟨fun _ => k _ _ _ hR hP, fun q => absurd q (by decide)⟩
  | some m =>
    obtain ⟨m1, rfl⟩ := ix_some hm
    refine M_noM_t m1 (by omega) ⟨fun q => absurd rfl q, fun _ => ?_⟩
    cases hb : ix B y with
    | none =>
      simp only [aClaim, hm, hb, pushH] at k
      exact M_no_f (by omega) (ix_none (by omega) hb) ⟨fun q => absurd q (by decide), fun _ => k _ _ _ hR hP⟩
    | some b =>
      obtain ⟨b1, rfl⟩ := ix_some hb
      have h9 := hW.2.2.1 b
      refine M_no_t b1 (by omega) ⟨fun _ => M_placeToClaim hW hR hK m1 b1 ?_, fun q => absurd rfl q⟩
      have hac : aClaim kb B M d (nI m) (nI b) = if bitN (dfl d) m = 1 ∨ kb b = 3 then (-3, none) else match his kb d m b with | some k => (nI (min 99 (dsd d m + 1)), some (opClaim kb d m b k)) | none => (-3, none) := by unfold aClaim; rw [hm, hb]; rfl
      by_cases f : bitN (dfl d) m = 1 ∨ kb b = 3
      · rw [hac, if_pos f] at k
        rw [if_pos f]
        exact ⟨fun q => absurd rfl q, fun _ => k _ _ _ hR hP⟩
      · rw [if_neg f]
        cases hs : his kb d m b with
        | none =>
          rw [hac, if_neg f, hs] at k
          exact ⟨fun q => absurd rfl q, fun _ => k _ _ _ hR hP⟩
        | some j =>
          have hk := (fnd_lt hs).1
          have hp := plc_lt (kind := kb b) hk
          have hac2 : aClaim kb B M d (nI m) (nI b) = (nI (min 99 (dsd d m + 1)), some (opClaim kb d m b j)) := by rw [hac, if_neg f, hs]
          rw [hac2] at k
          refine ⟨fun _ => M_note hW hh hR hP (fun b' a' hp' => M_goClaim hW hR hK m1 b1 (fun z => ?_) (fun d' z p' hp2 => ?_)), fun q => ?_⟩
          · rw [hac2] at z; cases z
          · rw [hac2] at z
            cases z
            refine ⟨?_, ?_⟩
            · rw [show (30 : Int32) + nI m = nI (30 + m) from nI_add 30 m]; exact vin (by omega) (by omega)
            · rw [show (30 : Int32) + nI m = nI (30 + m) from nI_add 30 m, nI_clamp (by omega), hp2.2.2.1 m (by omega), show dsd (opClaim kb d m b j) m = min 99 (dsd d m + 1) from up_s _ _ _]
              exact k _ _ _ hp2 hp'
          · have q : nI (plc (kb b) (dpl d b).length j) = -9 := q
            have : (nI (plc (kb b) (dpl d b).length j)).toInt = -9 := by rw [q]; decide
            rw [nI_toInt (by omega)] at this
            omega
theorem M_slit (hW : WF B M d) (hh : ∀ e, e ∈ h → WF B M e) (hR : RM d p) (hK : SK B kb sort) (hP : MPast h book acts) (x : Int32) {post : Int32 → Int32 → (Nat → Int32) → (Nat → Int32) → Int32 → Prop} (k : ∀ p' b a, RM ((aSlit B d x).2.getD d) p' → MPast (pushH (aSlit B d x) d h) b a → post (aSlit B d x).1 0 p' b a) : wpX7_slit th (nI B) sort p book acts x post := by
  have hB := hW.1
  cases hb : ix B x with
  | none =>
    simp only [aSlit, hb, pushH] at k
    exact M_no_f (by omega) (ix_none (by omega) hb) ⟨fun q => absurd q (by decide), fun _ => k _ _ _ hR hP⟩
  | some b =>
    obtain ⟨b1, rfl⟩ := ix_some hb
    simp only [aSlit, hb, pushH] at k
    have h9 := hW.2.2.1 b
    refine M_no_t b1 (by omega) ⟨fun _ => ?_, fun q => absurd rfl q⟩
    rw [nI_clamp (by omega), hR.2.2.2.2.2.1 b (by omega)]
    refine ⟨vin (by omega) (by omega), ?_⟩
    rintro _ rfl
    by_cases f : (dpl d b).length = 0
    · rw [if_pos f] at k
      rw [f]
      exact ⟨fun q => absurd rfl q, fun _ => k _ _ _ hR hP⟩
    · rw [if_neg f] at k
      refine ⟨fun _ => M_note hW hh hR hP (fun b' a' hp => M_play hW hR hK b1 (Nat.le_refl _) (fun p' hp' => ?_)), fun q => absurd ((nI_eq (b := 0) (by omega) (by omega)).mp q) f⟩
      rw [slit_same] at hp'
      exact k _ _ _ hp' hp
theorem M_fall (hW : WF B M d) (hh : ∀ e, e ∈ h → WF B M e) (hR : RM d p) (hP : MPast h book acts) (x : Int32) {post : Int32 → Int32 → (Nat → Int32) → (Nat → Int32) → Int32 → Prop} (k : ∀ p' b a, RM ((aFall B M d x).2.getD d) p' → MPast (pushH (aFall B M d x) d h) b a → post (aFall B M d x).1 0 p' b a) : wpX7_fall th (nI M) p book acts x post := by
  have hM := hW.2.1
  have hf := hW.fl
  cases hm : ix M x with
  | none =>
    simp only [aFall, hm, pushH] at k
    exact M_noM_f (by omega) (ix_none (by omega) hm) ⟨fun q => absurd q (by decide), fun _ => k _ _ _ hR hP⟩
  | some m =>
    obtain ⟨m1, rfl⟩ := ix_some hm
    simp only [aFall, hm, pushH] at k
    have h2 : 2 ^ m ≤ 2 ^ 5 := Nat.pow_le_pow_right (by omega) (by omega)
    refine M_noM_t m1 (by omega) ⟨fun _ => ?_, fun q => absurd rfl q⟩
    rw [hR.2.1]
    refine M_has (by omega) (by omega) ?_
    by_cases f : bitN (dfl d) m = 1
    · rw [if_pos f] at k
      rw [f]
      exact ⟨fun q => absurd q (by decide), fun _ => k _ _ _ hR hP⟩
    · rw [if_neg f] at k
      rw [bit0 f]
      refine ⟨fun _ => M_note hW hh hR hP (fun b' a' hp => ?_), fun q => absurd rfl q⟩
      rw [show (1 : Int32) <<< (nI m &&& 31) = nI (1 * 2 ^ m) from nI_shl (n := 1) (by omega) (by omega), Nat.one_mul, nI_or]
      rintro _ rfl
      have hc := hR.setFl (fun q => hW.2.2.1 q) (dfl d ||| 2 ^ m)
      exact M_left (hW.kFall m1) hc (k _ _ _ hc hp)
theorem M_day (hW : WF B M d) (hh : ∀ e, e ∈ h → WF B M e) (hR : RM d p) (hKb : SK B kb sort) (hKm : SK M km kind) (hP : MPast h book acts) {post : Int32 → Int32 → (Nat → Int32) → (Nat → Int32) → Int32 → Prop} (k : ∀ p' b a, RM ((aDay kb km B M d).2.getD d) p' → MPast (pushH (aDay kb km B M d) d h) b a → post (aDay kb km B M d).1 0 p' b a) : wpX7_day th (nI B) sort (nI M) kind p book acts post :=
  M_note hW hh hR hP (fun b' a' hp => M_goDay hW hR hKb hKm (fun p' hp' => k _ _ _ hp' hp))
end MA
