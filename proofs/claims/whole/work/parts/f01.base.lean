/-! the pure side: numbers, packed piles, the state of a camp as a value, and what the class's and the reference's cells say of it -/
theorem nI_lit (n : Nat) : (OfNat.ofNat n : Int32) = nI n := rfl
theorem nI_m1 {n : Nat} (h : 0 < n) : nI n + (-1 : Int32) = nI (n - 1) := sb_m1 h
theorem nI_s1 {n : Nat} (h : 0 < n) : nI n - (1 : Int32) = nI (n - 1) := pk_sub (b := 1) h
theorem sh_l : ∀ n, n < 32 → ((nI n &&& 31).toBitVec.smod 32).toNat = n := by decide +kernel
theorem nI_shr {n k : Nat} (hn : n < 2 ^ 31) (hk : k < 32) : nI n >>> (nI k &&& 31) = nI (n / 2 ^ k) := pk_shrN hn _ k (sh_l k hk)
theorem nI_shl {n k : Nat} (hk : k < 32) (h : n * 2 ^ k < 2 ^ 32) : nI n <<< (nI k &&& 31) = nI (n * 2 ^ k) := pk_shlN _ k (sh_l k hk) h
theorem nI_and (a b : Nat) : nI a &&& nI b = nI (a &&& b) := by
  apply Int32.toBitVec_inj.1
  show BitVec.ofNat 32 a &&& BitVec.ofNat 32 b = BitVec.ofNat 32 (a &&& b)
  apply BitVec.eq_of_getLsbD_eq
  intro i hi
  simp [hi]
theorem nI_or (a b : Nat) : nI a ||| nI b = nI (a ||| b) := by
  apply Int32.toBitVec_inj.1
  show BitVec.ofNat 32 a ||| BitVec.ofNat 32 b = BitVec.ofNat 32 (a ||| b)
  apply BitVec.eq_of_getLsbD_eq
  intro i hi
  simp [hi]
theorem nI_mask (n k : Nat) : nI n &&& nI (2 ^ k - 1) = nI (n % 2 ^ k) := by rw [nI_and, Nat.and_two_pow_sub_one_eq_mod]
theorem nI_orsum {a k : Nat} (b : Nat) (h : a < 2 ^ k) : nI (b * 2 ^ k) ||| nI a = nI (b * 2 ^ k + a) := by
  rw [nI_or]
  congr 1
  rw [Nat.mul_comm, Nat.two_pow_add_eq_or_of_lt h b]
/-- a pile in one number -/
def pak : List Nat → Nat
  | [] => 0
  | x :: t => x + 8 * pak t
theorem pak_lt : ∀ {L : List Nat}, (∀ x, x ∈ L → x < 8) → pak L < 8 ^ L.length
  | [], _ => by simp [pak]
  | x :: t, h => by
    have h1 := pak_lt (L := t) (fun y hy => h y (List.mem_cons_of_mem x hy))
    have h2 := h x List.mem_cons_self
    simp only [pak, List.length_cons, Nat.pow_succ]
    omega
theorem pak_get : ∀ {L : List Nat} {i : Nat}, (∀ x, x ∈ L → x < 8) → i < L.length → pak L / 8 ^ i % 8 = L.getD i 0
  | [], _, _, hi => absurd hi (Nat.not_lt_zero _)
  | x :: t, 0, h, _ => by
    have h2 := h x List.mem_cons_self
    simp only [pak, Nat.pow_zero, Nat.div_one, List.getD_cons_zero]
    omega
  | x :: t, i + 1, h, hi => by
    have h2 := h x List.mem_cons_self
    have h3 := pak_get (L := t) (i := i) (fun y hy => h y (List.mem_cons_of_mem x hy)) (by simpa using hi)
    rw [List.getD_cons_succ, ← h3, pak, Nat.pow_succ, Nat.mul_comm (8 ^ i) 8, ← Nat.div_div_eq_div_mul, show (x + 8 * pak t) / 8 = pak t by omega]
theorem pak_erase : ∀ {L : List Nat} {i : Nat}, (∀ x, x ∈ L → x < 8) → i < L.length → pak L / 8 ^ (i + 1) * 8 ^ i + pak L % 8 ^ i = pak (L.eraseIdx i)
  | [], _, _, hi => absurd hi (Nat.not_lt_zero _)
  | x :: t, 0, h, _ => by
    have h2 := h x List.mem_cons_self
    simp only [pak, Nat.zero_add, Nat.pow_one, Nat.pow_zero, Nat.mul_one, Nat.mod_one, List.eraseIdx_cons_zero]
    omega
  | x :: t, i + 1, h, hi => by
    have h2 := h x List.mem_cons_self
    have h3 := pak_erase (L := t) (i := i) (fun y hy => h y (List.mem_cons_of_mem x hy)) (by simpa using hi)
    rw [List.eraseIdx_cons_succ, pak, pak, ← h3, show 8 ^ (i + 1 + 1) = 8 * 8 ^ (i + 1) by rw [Nat.pow_succ, Nat.mul_comm], ← Nat.div_div_eq_div_mul, show (x + 8 * pak t) / 8 = pak t by omega, show 8 ^ (i + 1) = 8 * 8 ^ i by rw [Nat.pow_succ, Nat.mul_comm], Nat.mod_mul, show (x + 8 * pak t) % 8 = x by omega, show (x + 8 * pak t) / 8 = pak t by omega, Nat.mul_add, Nat.mul_left_comm]
    omega
theorem pak_app : ∀ (L : List Nat) (x : Nat), pak (L ++ [x]) = pak L + x * 8 ^ L.length
  | [], x => by simp [pak]
  | y :: t, x => by
    rw [List.cons_append, pak, pak, pak_app t x, List.length_cons, Nat.pow_succ, Nat.mul_add, ← Nat.mul_assoc 8 x, Nat.mul_comm 8 x, Nat.mul_assoc x, Nat.mul_comm 8 (8 ^ t.length)]
    omega
theorem p8 (i : Nat) : (8 : Nat) ^ i = 2 ^ (3 * i) := by rw [Nat.pow_mul]
/-- what changes in a camp: piles (owners from the lowest on), Sundays, griefs, losses, who fell (bits), the day -/
abbrev Dy : Type := (Nat → List Nat) × (Nat → Nat) × (Nat → Int32) × (Nat → Int32) × Nat × Int32
abbrev dpl (d : Dy) : Nat → List Nat := d.1
abbrev dsd (d : Dy) : Nat → Nat := d.2.1
abbrev dgr (d : Dy) : Nat → Int32 := d.2.2.1
abbrev dlo (d : Dy) : Nat → Int32 := d.2.2.2.1
abbrev dfl (d : Dy) : Nat := d.2.2.2.2.1
abbrev ddy (d : Dy) : Int32 := d.2.2.2.2.2
def setPl (d : Dy) (b : Nat) (L : List Nat) : Dy := (va_up (dpl d) b L, dsd d, dgr d, dlo d, dfl d, ddy d)
def setSd (d : Dy) (m v : Nat) : Dy := (dpl d, va_up (dsd d) m v, dgr d, dlo d, dfl d, ddy d)
def setGr (d : Dy) (m : Nat) (x : Int32) : Dy := (dpl d, dsd d, va_up (dgr d) m x, dlo d, dfl d, ddy d)
def setLo (d : Dy) (m : Nat) (x : Int32) : Dy := (dpl d, dsd d, dgr d, va_up (dlo d) m x, dfl d, ddy d)
def setFl (d : Dy) (f : Nat) : Dy := (dpl d, dsd d, dgr d, dlo d, f, ddy d)
def setDy (d : Dy) (y : Int32) : Dy := (dpl d, dsd d, dgr d, dlo d, dfl d, y)
/-- the class's cells -/
def RC (d : Dy) (c : Nat → Int32) : Prop := c 0 = ddy d ∧ c 1 = nI (dfl d) ∧ (∀ m, m < 5 → c (2 + m) = nI (dsd d m)) ∧ (∀ m, m < 5 → c (7 + m) = dgr d m) ∧ (∀ m, m < 5 → c (12 + m) = dlo d m) ∧ (∀ b, b < 3 → c (17 + b) = nI (dpl d b).length) ∧ ∀ b, b < 3 → c (20 + b) = nI (pak (dpl d b))
/-- the reference's page -/
def RM (d : Dy) (p : Nat → Int32) : Prop := p 46 = ddy d ∧ p 45 = nI (dfl d) ∧ (∀ m, m < 5 → p (30 + m) = nI (dsd d m)) ∧ (∀ m, m < 5 → p (35 + m) = dgr d m) ∧ (∀ m, m < 5 → p (40 + m) = dlo d m) ∧ (∀ b, b < 3 → p b = nI (dpl d b).length) ∧ ∀ b, b < 3 → ∀ i, i < (dpl d b).length → p (3 + 9 * b + i) = nI ((dpl d b).getD i 0)
/-- bounds -/
def WF (B M : Nat) (d : Dy) : Prop := B ≤ 3 ∧ M ≤ 5 ∧ (∀ b, (dpl d b).length ≤ 9) ∧ (∀ b x, x ∈ dpl d b → x < M) ∧ (∀ b, B ≤ b → dpl d b = []) ∧ dfl d < 2 ^ M ∧ ∀ m, dsd d m ≤ 99
theorem up_s {α : Type} (f : Nat → α) (k : Nat) (v : α) : va_up f k v k = v := if_pos rfl
theorem up_n {α : Type} (f : Nat → α) {k j : Nat} (v : α) (h : j ≠ k) : va_up f k v j = f j := if_neg h
theorem RC.setPl {d : Dy} {c : Nat → Int32} (h : RC d c) {b : Nat} (hb : b < 3) (L : List Nat) : RC (setPl d b L) (upd (upd c (20 + b) (nI (pak L))) (17 + b) (nI L.length)) := by
  obtain ⟨h0, h1, h2, h3, h4, h5, h6⟩ := h
  refine ⟨?_, ?_, fun m hm => ?_, fun m hm => ?_, fun m hm => ?_, fun q hq => ?_, fun q hq => ?_⟩
  · rw [pk_un (by omega), pk_un (by omega)]; exact h0
  · rw [pk_un (by omega), pk_un (by omega)]; exact h1
  · rw [pk_un (by omega), pk_un (by omega)]; exact h2 m hm
  · rw [pk_un (by omega), pk_un (by omega)]; exact h3 m hm
  · rw [pk_un (by omega), pk_un (by omega)]; exact h4 m hm
  · by_cases e : q = b
    · subst e; rw [pk_us]; show _ = nI (List.length (va_up _ _ _ _)); rw [up_s]
    · rw [pk_un (by omega), pk_un (by omega)]; show _ = nI (List.length (va_up _ _ _ _)); rw [up_n _ _ e]; exact h5 q hq
  · by_cases e : q = b
    · subst e; rw [pk_un (by omega), pk_us]; show _ = nI (pak (va_up _ _ _ _)); rw [up_s]
    · rw [pk_un (by omega), pk_un (by omega)]; show _ = nI (pak (va_up _ _ _ _)); rw [up_n _ _ e]; exact h6 q hq
theorem RC.setSd {d : Dy} {c : Nat → Int32} (h : RC d c) {m : Nat} (hm : m < 5) (v : Nat) : RC (setSd d m v) (upd c (2 + m) (nI v)) := by
  obtain ⟨h0, h1, h2, h3, h4, h5, h6⟩ := h
  refine ⟨?_, ?_, fun q hq => ?_, fun q hq => ?_, fun q hq => ?_, fun q hq => ?_, fun q hq => ?_⟩
  · rw [pk_un (by omega)]; exact h0
  · rw [pk_un (by omega)]; exact h1
  · by_cases e : q = m
    · subst e; rw [pk_us]; show _ = nI (va_up _ _ _ _); rw [up_s]
    · rw [pk_un (by omega)]; show _ = nI (va_up _ _ _ _); rw [up_n _ _ e]; exact h2 q hq
  · rw [pk_un (by omega)]; exact h3 q hq
  · rw [pk_un (by omega)]; exact h4 q hq
  · rw [pk_un (by omega)]; exact h5 q hq
  · rw [pk_un (by omega)]; exact h6 q hq
theorem RC.setGr {d : Dy} {c : Nat → Int32} (h : RC d c) {m : Nat} (hm : m < 5) (v : Int32) : RC (setGr d m v) (upd c (7 + m) v) := by
  obtain ⟨h0, h1, h2, h3, h4, h5, h6⟩ := h
  refine ⟨?_, ?_, fun q hq => ?_, fun q hq => ?_, fun q hq => ?_, fun q hq => ?_, fun q hq => ?_⟩
  · rw [pk_un (by omega)]; exact h0
  · rw [pk_un (by omega)]; exact h1
  · rw [pk_un (by omega)]; exact h2 q hq
  · by_cases e : q = m
    · subst e; rw [pk_us]; show _ = va_up _ _ _ _; rw [up_s]
    · rw [pk_un (by omega)]; show _ = va_up _ _ _ _; rw [up_n _ _ e]; exact h3 q hq
  · rw [pk_un (by omega)]; exact h4 q hq
  · rw [pk_un (by omega)]; exact h5 q hq
  · rw [pk_un (by omega)]; exact h6 q hq
theorem RC.setLo {d : Dy} {c : Nat → Int32} (h : RC d c) {m : Nat} (hm : m < 5) (v : Int32) : RC (setLo d m v) (upd c (12 + m) v) := by
  obtain ⟨h0, h1, h2, h3, h4, h5, h6⟩ := h
  refine ⟨?_, ?_, fun q hq => ?_, fun q hq => ?_, fun q hq => ?_, fun q hq => ?_, fun q hq => ?_⟩
  · rw [pk_un (by omega)]; exact h0
  · rw [pk_un (by omega)]; exact h1
  · rw [pk_un (by omega)]; exact h2 q hq
  · rw [pk_un (by omega)]; exact h3 q hq
  · by_cases e : q = m
    · subst e; rw [pk_us]; show _ = va_up _ _ _ _; rw [up_s]
    · rw [pk_un (by omega)]; show _ = va_up _ _ _ _; rw [up_n _ _ e]; exact h4 q hq
  · rw [pk_un (by omega)]; exact h5 q hq
  · rw [pk_un (by omega)]; exact h6 q hq
theorem RC.setFl {d : Dy} {c : Nat → Int32} (h : RC d c) (f : Nat) : RC (setFl d f) (upd c 1 (nI f)) := by
  obtain ⟨h0, h1, h2, h3, h4, h5, h6⟩ := h
  refine ⟨?_, ?_, fun q hq => ?_, fun q hq => ?_, fun q hq => ?_, fun q hq => ?_, fun q hq => ?_⟩
  · rw [pk_un (by omega)]; exact h0
  · exact pk_us
  · rw [pk_un (by omega)]; exact h2 q hq
  · rw [pk_un (by omega)]; exact h3 q hq
  · rw [pk_un (by omega)]; exact h4 q hq
  · rw [pk_un (by omega)]; exact h5 q hq
  · rw [pk_un (by omega)]; exact h6 q hq
theorem RC.setDy {d : Dy} {c : Nat → Int32} (h : RC d c) (y : Int32) : RC (setDy d y) (upd c 0 y) := by
  obtain ⟨h0, h1, h2, h3, h4, h5, h6⟩ := h
  refine ⟨?_, ?_, fun q hq => ?_, fun q hq => ?_, fun q hq => ?_, fun q hq => ?_, fun q hq => ?_⟩
  · exact pk_us
  · rw [pk_un (by omega)]; exact h1
  · rw [pk_un (by omega)]; exact h2 q hq
  · rw [pk_un (by omega)]; exact h3 q hq
  · rw [pk_un (by omega)]; exact h4 q hq
  · rw [pk_un (by omega)]; exact h5 q hq
  · rw [pk_un (by omega)]; exact h6 q hq
theorem RC.kept {d : Dy} {c c' : Nat → Int32} (h : RC d c) (hc : ∀ j, j < 23 → c' j = c j) : RC d c' := by
  obtain ⟨h0, h1, h2, h3, h4, h5, h6⟩ := h
  exact ⟨(hc 0 (by omega)).trans h0, (hc 1 (by omega)).trans h1, fun q hq => (hc _ (by omega)).trans (h2 q hq), fun q hq => (hc _ (by omega)).trans (h3 q hq), fun q hq => (hc _ (by omega)).trans (h4 q hq), fun q hq => (hc _ (by omega)).trans (h5 q hq), fun q hq => (hc _ (by omega)).trans (h6 q hq)⟩
theorem RM.kept {d : Dy} {p p' : Nat → Int32} (hW : ∀ b, (dpl d b).length ≤ 9) (h : RM d p) (hc : ∀ j, j < 47 → p' j = p j) : RM d p' := by
  obtain ⟨h0, h1, h2, h3, h4, h5, h6⟩ := h
  exact ⟨(hc _ (by omega)).trans h0, (hc _ (by omega)).trans h1, fun q hq => (hc _ (by omega)).trans (h2 q hq), fun q hq => (hc _ (by omega)).trans (h3 q hq), fun q hq => (hc _ (by omega)).trans (h4 q hq), fun q hq => (hc _ (by omega)).trans (h5 q hq), fun q hq i hi => (hc _ (by have := hW q; omega)).trans (h6 q hq i hi)⟩
theorem RM.setSd {d : Dy} {p : Nat → Int32} (hW : ∀ b, (dpl d b).length ≤ 9) (h : RM d p) {m : Nat} (hm : m < 5) (v : Nat) : RM (setSd d m v) (upd p (30 + m) (nI v)) := by
  obtain ⟨h0, h1, h2, h3, h4, h5, h6⟩ := h
  refine ⟨?_, ?_, fun q hq => ?_, fun q hq => ?_, fun q hq => ?_, fun q hq => ?_, fun q hq i hi => ?_⟩
  · rw [pk_un (by omega)]; exact h0
  · rw [pk_un (by omega)]; exact h1
  · by_cases e : q = m
    · subst e; rw [pk_us]; show _ = nI (va_up _ _ _ _); rw [up_s]
    · rw [pk_un (by omega)]; show _ = nI (va_up _ _ _ _); rw [up_n _ _ e]; exact h2 q hq
  · rw [pk_un (by omega)]; exact h3 q hq
  · rw [pk_un (by omega)]; exact h4 q hq
  · rw [pk_un (by omega)]; exact h5 q hq
  · rw [pk_un (by have := hW q; have : i < (dpl d q).length := hi; omega)]; exact h6 q hq i hi
theorem RM.setGr {d : Dy} {p : Nat → Int32} (hW : ∀ b, (dpl d b).length ≤ 9) (h : RM d p) {m : Nat} (hm : m < 5) (v : Int32) : RM (setGr d m v) (upd p (35 + m) v) := by
  obtain ⟨h0, h1, h2, h3, h4, h5, h6⟩ := h
  refine ⟨?_, ?_, fun q hq => ?_, fun q hq => ?_, fun q hq => ?_, fun q hq => ?_, fun q hq i hi => ?_⟩
  · rw [pk_un (by omega)]; exact h0
  · rw [pk_un (by omega)]; exact h1
  · rw [pk_un (by omega)]; exact h2 q hq
  · by_cases e : q = m
    · subst e; rw [pk_us]; show _ = va_up _ _ _ _; rw [up_s]
    · rw [pk_un (by omega)]; show _ = va_up _ _ _ _; rw [up_n _ _ e]; exact h3 q hq
  · rw [pk_un (by omega)]; exact h4 q hq
  · rw [pk_un (by omega)]; exact h5 q hq
  · rw [pk_un (by have := hW q; have : i < (dpl d q).length := hi; omega)]; exact h6 q hq i hi
theorem RM.setLo {d : Dy} {p : Nat → Int32} (hW : ∀ b, (dpl d b).length ≤ 9) (h : RM d p) {m : Nat} (hm : m < 5) (v : Int32) : RM (setLo d m v) (upd p (40 + m) v) := by
  obtain ⟨h0, h1, h2, h3, h4, h5, h6⟩ := h
  refine ⟨?_, ?_, fun q hq => ?_, fun q hq => ?_, fun q hq => ?_, fun q hq => ?_, fun q hq i hi => ?_⟩
  · rw [pk_un (by omega)]; exact h0
  · rw [pk_un (by omega)]; exact h1
  · rw [pk_un (by omega)]; exact h2 q hq
  · rw [pk_un (by omega)]; exact h3 q hq
  · by_cases e : q = m
    · subst e; rw [pk_us]; show _ = va_up _ _ _ _; rw [up_s]
    · rw [pk_un (by omega)]; show _ = va_up _ _ _ _; rw [up_n _ _ e]; exact h4 q hq
  · rw [pk_un (by omega)]; exact h5 q hq
  · rw [pk_un (by have := hW q; have : i < (dpl d q).length := hi; omega)]; exact h6 q hq i hi
theorem RM.setFl {d : Dy} {p : Nat → Int32} (hW : ∀ b, (dpl d b).length ≤ 9) (h : RM d p) (f : Nat) : RM (setFl d f) (upd p 45 (nI f)) := by
  obtain ⟨h0, h1, h2, h3, h4, h5, h6⟩ := h
  refine ⟨?_, pk_us, fun q hq => ?_, fun q hq => ?_, fun q hq => ?_, fun q hq => ?_, fun q hq i hi => ?_⟩
  · rw [pk_un (by omega)]; exact h0
  · rw [pk_un (by omega)]; exact h2 q hq
  · rw [pk_un (by omega)]; exact h3 q hq
  · rw [pk_un (by omega)]; exact h4 q hq
  · rw [pk_un (by omega)]; exact h5 q hq
  · rw [pk_un (by have := hW q; have : i < (dpl d q).length := hi; omega)]; exact h6 q hq i hi
theorem RM.setDy {d : Dy} {p : Nat → Int32} (hW : ∀ b, (dpl d b).length ≤ 9) (h : RM d p) (y : Int32) : RM (setDy d y) (upd p 46 y) := by
  obtain ⟨h0, h1, h2, h3, h4, h5, h6⟩ := h
  refine ⟨pk_us, ?_, fun q hq => ?_, fun q hq => ?_, fun q hq => ?_, fun q hq => ?_, fun q hq i hi => ?_⟩
  · rw [pk_un (by omega)]; exact h1
  · rw [pk_un (by omega)]; exact h2 q hq
  · rw [pk_un (by omega)]; exact h3 q hq
  · rw [pk_un (by omega)]; exact h4 q hq
  · rw [pk_un (by omega)]; exact h5 q hq
  · rw [pk_un (by have := hW q; have : i < (dpl d q).length := hi; omega)]; exact h6 q hq i hi
/-- a pile of the reference's page is another one: by its places -/
theorem RM.setPl {d : Dy} {p p' : Nat → Int32} (hW : ∀ b, (dpl d b).length ≤ 9) (h : RM d p) {b : Nat} (hb : b < 3) (L : List Nat) (hout : ∀ j, j < 47 → j ≠ b → ¬ (3 + 9 * b ≤ j ∧ j < 12 + 9 * b) → p' j = p j) (hl : p' b = nI L.length) (hin : ∀ i, i < L.length → p' (3 + 9 * b + i) = nI (L.getD i 0)) : RM (setPl d b L) p' := by
  obtain ⟨h0, h1, h2, h3, h4, h5, h6⟩ := h
  refine ⟨?_, ?_, fun q hq => ?_, fun q hq => ?_, fun q hq => ?_, fun q hq => ?_, fun q hq i hi => ?_⟩
  · rw [hout _ (by omega) (by omega) (by omega)]; exact h0
  · rw [hout _ (by omega) (by omega) (by omega)]; exact h1
  · rw [hout _ (by omega) (by omega) (by omega)]; exact h2 q hq
  · rw [hout _ (by omega) (by omega) (by omega)]; exact h3 q hq
  · rw [hout _ (by omega) (by omega) (by omega)]; exact h4 q hq
  · show _ = nI (List.length (va_up _ _ _ _))
    by_cases e : q = b
    · subst e; rw [up_s]; exact hl
    · rw [up_n _ _ e, hout _ (by omega) e (by omega)]; exact h5 q hq
  · have hi' : i < (va_up (dpl d) b L q).length := hi
    show _ = nI (List.getD (va_up _ _ _ _) i 0)
    by_cases e : q = b
    · subst e; rw [up_s] at hi' ⊢; exact hin i hi'
    · rw [up_n _ _ e] at hi' ⊢
      have := hW q
      rw [hout _ (by omega) (by omega) (by omega)]; exact h6 q hq i hi'
