/-! what can be done in a camp, as values; bounds are kept -/
def rg (lo hi : Nat) (x : Int32) : Option Nat := if (lo : Int) ≤ x.toInt ∧ x.toInt ≤ (hi : Int) then some x.toInt.toNat else none
def ix (N : Nat) (x : Int32) : Option Nat := if 0 ≤ x.toInt ∧ x.toInt < (N : Int) then some x.toInt.toNat else none
theorem nI_back {x : Int32} (h : 0 ≤ x.toInt) : x = nI x.toInt.toNat := by
  have h2 : x.toInt < 2147483648 := by have := Int32.toInt_lt x; simpa using this
  apply Int32.toInt_inj.mp
  rw [nI_toInt (by omega)]
  omega
theorem ix_some {N : Nat} {x : Int32} {k : Nat} (h : ix N x = some k) : k < N ∧ x = nI k := by
  unfold ix at h
  split at h
  · next q =>
    cases h
    exact ⟨by omega, nI_back q.1⟩
  · cases h
theorem ix_none {N : Nat} {x : Int32} (hN : N < 2 ^ 31) (h : ix N x = none) : ¬ ∃ b, b < N ∧ x = nI b := by
  rintro ⟨b, hb, rfl⟩
  unfold ix at h
  rw [nI_toInt (by omega)] at h
  split at h
  · cases h
  · next q => exact q ⟨by omega, by omega⟩
theorem ix_nI {N k : Nat} (hN : N < 2 ^ 31) (h : k < N) : ix N (nI k) = some k := by
  unfold ix
  rw [nI_toInt (by omega), if_pos ⟨by omega, by omega⟩]
  rfl
theorem rg_some {lo hi : Nat} {x : Int32} {k : Nat} (h : rg lo hi x = some k) : lo ≤ k ∧ k ≤ hi ∧ x = nI k := by
  unfold rg at h
  split at h
  · next q =>
    cases h
    exact ⟨by omega, by omega, nI_back (by omega)⟩
  · cases h
theorem rg_none {lo hi : Nat} {x : Int32} (hN : hi < 2 ^ 31) (hl : lo < 2 ^ 31) (h : rg lo hi x = none) : x < nI lo ∨ nI hi < x := by
  unfold rg at h
  split at h
  · cases h
  · next q =>
    rw [Int32.lt_iff_toInt_lt, Int32.lt_iff_toInt_lt, nI_toInt hl, nI_toInt hN]
    omega
def itr (f : Dy → Dy) : Nat → Dy → Dy
  | 0, d => d
  | n + 1, d => f (itr f n d)
def opLay (d : Dy) (m b : Nat) : Dy := setPl d b (dpl d b ++ [m])
def opLift (d : Dy) (b i : Nat) : Dy := setPl d b ((dpl d b).eraseIdx i)
def opLose (d : Dy) (b i : Nat) : Dy := opLift (setLo d ((dpl d b).getD i 0) (dlo d ((dpl d b).getD i 0) + 1)) b i
def opGive (d : Dy) (m b : Nat) : Dy := opLay (setSd d m (dsd d m - 1)) m b
def lose1 (kb : Nat → Nat) (b : Nat) (d : Dy) : Dy := opLose d b (plc (kb b) (dpl d b).length 0)
def opFall (d : Dy) (m : Nat) : Dy := setFl d (dfl d ||| 2 ^ m)
/-- the first below n -/
def fnd (p : Nat → Bool) : Nat → Option Nat
  | 0 => none
  | n + 1 => match fnd p n with
    | some k => some k
    | none => if p n then some n else none
theorem fnd_lt {p : Nat → Bool} : ∀ {n k : Nat}, fnd p n = some k → k < n ∧ p k = true ∧ ∀ j, j < k → p j = false
  | 0, k, h => by cases h
  | n + 1, k, h => by
    rw [fnd] at h
    cases q : fnd p n with
    | some j =>
      rw [q] at h
      cases h
      obtain ⟨h1, h2, h3⟩ := fnd_lt q
      exact ⟨by omega, h2, h3⟩
    | none =>
      rw [q] at h
      by_cases z : p n = true
      · simp only [z, if_true] at h
        cases h
        exact ⟨by omega, z, fun j hj => fnd_no q j hj⟩
      · simp only [z] at h
        cases h
where fnd_no {p : Nat → Bool} : ∀ {n : Nat}, fnd p n = none → ∀ j, j < n → p j = false
  | 0, _, j, hj => absurd hj (Nat.not_lt_zero j)
  | n + 1, h, j, hj => by
    rw [fnd] at h
    cases q : fnd p n with
    | some k => rw [q] at h; cases h
    | none =>
      rw [q] at h
      by_cases z : p n = true
      · simp only [z, if_true] at h; cases h
      · rcases Nat.lt_or_ge j n with w | w
        · exact fnd_no q j w
        · rw [show j = n by omega]; simpa using z
theorem fnd_none {p : Nat → Bool} {n : Nat} (h : fnd p n = none) : ∀ j, j < n → p j = false := fnd_lt.fnd_no h
theorem fnd_of {p : Nat → Bool} {k : Nat} (hp : p k = true) (h : ∀ j, j < k → p j = false) : ∀ {n : Nat}, k < n → fnd p n = some k
  | 0, hk => absurd hk (Nat.not_lt_zero k)
  | n + 1, hk => by
    rw [fnd]
    rcases Nat.lt_or_ge k n with w | w
    · rw [fnd_of hp h w]
    · have e : k = n := by omega
      subst e
      have q : fnd p k = none := by
        cases z : fnd p k with
        | none => rfl
        | some j =>
          obtain ⟨h1, h2, -⟩ := fnd_lt z
          rw [h j h1] at h2; cases h2
      rw [q]; simp [hp]
theorem fnd_of_none {p : Nat → Bool} {n : Nat} (h : ∀ j, j < n → p j = false) : fnd p n = none := by
  cases z : fnd p n with
  | none => rfl
  | some j =>
    obtain ⟨h1, h2, -⟩ := fnd_lt z
    rw [h j h1] at h2; cases h2
/-- which of his would be played first: how many are played ahead of it -/
def his (kb : Nat → Nat) (d : Dy) (m b : Nat) : Option Nat := fnd (fun k => decide ((dpl d b).getD (plc (kb b) (dpl d b).length k) 0 = m)) (dpl d b).length
def opClaim (kb : Nat → Nat) (d : Dy) (m b k : Nat) : Dy := setSd (opLift d b (plc (kb b) (dpl d b).length k)) m (min 99 (dsd d m + 1))
def sun1 (km : Nat → Nat) (m : Nat) (d : Dy) : Dy := if bitN (dfl d) m = 1 then d else if (if km m = 1 then 1 else 0) < dsd d m then setSd d m (dsd d m - 1) else setGr d m (dgr d m + (if km m = 3 then 0 else if km m = 2 then 2 else 1))
def foldN (f : Nat → Dy → Dy) : Nat → Dy → Dy
  | 0, d => d
  | n + 1, d => f n (foldN f n d)
def leak (kb : Nat → Nat) : Nat → Dy → Nat × Dy
  | 0, d => (0, d)
  | b + 1, d => if kb b = 2 ∧ 0 < (dpl (leak kb b d).2 b).length then ((leak kb b d).1 + 1, opLose (leak kb b d).2 b 0) else leak kb b d
def is7 (x : Int32) : Prop := (x - x / (7 : Int32) * (7 : Int32)) = (6 : Int32)
def sunday (km : Nat → Nat) (M : Nat) (d : Dy) : Dy := if (ddy d - ddy d / (7 : Int32) * (7 : Int32)) = (6 : Int32) then foldN (sun1 km) M d else d
def opDay (kb km : Nat → Nat) (B M : Nat) (d : Dy) : Dy := setDy (sunday km M (leak kb B d).2) (ddy (sunday km M (leak kb B d).2) + 1)
section WFS
variable {B M : Nat} {d : Dy} {kb km : Nat → Nat}
theorem WF.kPl (hW : WF B M d) {b : Nat} (L : List Nat) (hb : b < B) (hl : L.length ≤ 9) (hx : ∀ x, x ∈ L → x < M) : WF B M (setPl d b L) := by
  obtain ⟨h1, h2, h3, h4, h5, h6, h7⟩ := hW
  refine ⟨h1, h2, fun q => ?_, fun q x => ?_, fun q hq => ?_, h6, h7⟩
  · show List.length (va_up _ _ _ _) ≤ 9
    by_cases e : q = b
    · subst e; rw [up_s]; exact hl
    · rw [up_n _ _ e]; exact h3 q
  · show x ∈ (va_up _ _ _ _ : List Nat) → _
    by_cases e : q = b
    · subst e; rw [up_s]; exact hx x
    · rw [up_n _ _ e]; exact h4 q x
  · show (va_up _ _ _ _ : List Nat) = _
    rw [up_n _ _ (by omega)]; exact h5 q hq
theorem WF.kSd (hW : WF B M d) {m v : Nat} (hv : v ≤ 99) : WF B M (setSd d m v) := by
  obtain ⟨h1, h2, h3, h4, h5, h6, h7⟩ := hW
  refine ⟨h1, h2, h3, h4, h5, h6, fun q => ?_⟩
  show (va_up _ _ _ _ : Nat) ≤ 99
  by_cases e : q = m
  · subst e; rw [up_s]; exact hv
  · rw [up_n _ _ e]; exact h7 q
theorem WF.kGr (hW : WF B M d) {m : Nat} {v : Int32} : WF B M (setGr d m v) := hW
theorem WF.kLo (hW : WF B M d) {m : Nat} {v : Int32} : WF B M (setLo d m v) := hW
theorem WF.kDy (hW : WF B M d) {y : Int32} : WF B M (setDy d y) := hW
theorem WF.kFl (hW : WF B M d) {f : Nat} (hf : f < 2 ^ M) : WF B M (setFl d f) := ⟨hW.1, hW.2.1, hW.2.2.1, hW.2.2.2.1, hW.2.2.2.2.1, hf, hW.2.2.2.2.2.2⟩
theorem WF.kLay (hW : WF B M d) {m b : Nat} (hm : m < M) (hb : b < B) (hl : (dpl d b).length < 9) : WF B M (opLay d m b) := by
  refine hW.kPl _ hb (by simp; omega) (fun x hx => ?_)
  rcases List.mem_append.mp hx with h | h
  · exact hW.2.2.2.1 b x h
  · rw [List.mem_singleton.mp h]; exact hm
theorem WF.kLift (hW : WF B M d) {b i : Nat} (hi : i < (dpl d b).length) : WF B M (opLift d b i) := by
  refine hW.kPl _ (hW.bag hi) ?_ (fun x hx => hW.2.2.2.1 b x (List.mem_of_mem_eraseIdx hx))
  have := hW.2.2.1 b
  rw [List.length_eraseIdx]
  split <;> omega
theorem WF.kLose (hW : WF B M d) {b i : Nat} (hi : i < (dpl d b).length) : WF B M (opLose d b i) := WF.kLift (d := setLo d _ _) hW.kLo hi
theorem WF.kGive (hW : WF B M d) {m b : Nat} (hm : m < M) (hb : b < B) (hl : (dpl d b).length < 9) : WF B M (opGive d m b) := by
  have h := hW.2.2.2.2.2.2 m
  exact WF.kLay (d := setSd d m (dsd d m - 1)) (hW.kSd (by omega)) hm hb hl
theorem len_lose {b i : Nat} (hi : i < (dpl d b).length) : (dpl (opLose d b i) b).length = (dpl d b).length - 1 := by
  show List.length (va_up _ _ _ _) = _
  rw [up_s]
  show ((dpl d b).eraseIdx i).length = _
  rw [List.length_eraseIdx, if_pos hi]
theorem itr_lose (hW : WF B M d) {b : Nat} : ∀ {n : Nat}, n ≤ (dpl d b).length → WF B M (itr (lose1 kb b) n d) ∧ (dpl (itr (lose1 kb b) n d) b).length = (dpl d b).length - n
  | 0, _ => ⟨hW, rfl⟩
  | n + 1, h => by
    obtain ⟨h1, h2⟩ := itr_lose hW (b := b) (n := n) (by omega)
    have hp : plc (kb b) (dpl (itr (lose1 kb b) n d) b).length 0 < (dpl (itr (lose1 kb b) n d) b).length := plc_lt (by omega)
    refine ⟨h1.kLose hp, ?_⟩
    show (dpl (opLose _ b _) b).length = _
    rw [len_lose hp, h2]; omega
theorem itr_lose0 (hW : WF B M d) {b : Nat} : ∀ {n : Nat}, n ≤ (dpl d b).length → WF B M (itr (fun e => opLose e b 0) n d) ∧ (dpl (itr (fun e => opLose e b 0) n d) b).length = (dpl d b).length - n
  | 0, _ => ⟨hW, rfl⟩
  | n + 1, h => by
    obtain ⟨h1, h2⟩ := itr_lose0 hW (b := b) (n := n) (by omega)
    have hp : 0 < (dpl (itr (fun e => opLose e b 0) n d) b).length := by omega
    refine ⟨h1.kLose hp, ?_⟩
    show (dpl (opLose _ b _) b).length = _
    rw [len_lose hp, h2]; omega
theorem WF.kClaim (hW : WF B M d) {m b k : Nat} (hk : k < (dpl d b).length) : WF B M (opClaim kb d m b k) := (hW.kLift (plc_lt hk)).kSd (Nat.min_le_left _ _)
theorem WF.kFall (hW : WF B M d) {m : Nat} (hm : m < M) : WF B M (opFall d m) := hW.kFl (Nat.or_lt_two_pow hW.2.2.2.2.2.1 (Nat.pow_lt_pow_right (by omega) hm))
theorem WF.kSun1 (hW : WF B M d) {m : Nat} : WF B M (sun1 km m d) := by
  have h := hW.2.2.2.2.2.2 m
  unfold sun1
  by_cases q : bitN (dfl d) m = 1
  · rw [if_pos q]; exact hW
  · rw [if_neg q]
    by_cases z : (if km m = 1 then 1 else 0) < dsd d m
    · rw [if_pos z]; exact hW.kSd (by omega)
    · rw [if_neg z]; exact hW.kGr
theorem WF.kFold {f : Nat → Dy → Dy} (hf : ∀ n e, WF B M e → WF B M (f n e)) (hW : WF B M d) : ∀ n, WF B M (foldN f n d)
  | 0 => hW
  | n + 1 => hf n _ (WF.kFold hf hW n)
theorem WF.kLeak (hW : WF B M d) : ∀ n, WF B M (leak kb n d).2
  | 0 => hW
  | n + 1 => by
    have h := WF.kLeak hW n
    rw [leak]
    split
    · next q => exact h.kLose q.2
    · exact h
theorem WF.kSunday (hW : WF B M d) : WF B M (sunday km M d) := by
  unfold sunday
  split
  · exact WF.kFold (fun n e h => h.kSun1) hW M
  · exact hW
theorem WF.kDay (hW : WF B M d) : WF B M (opDay kb km B M d) := (hW.kLeak B).kSunday.kDy
end WFS
