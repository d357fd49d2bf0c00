/-! rests -/
section RS
variable {B M : Nat} {d : Dy} {c pg bk mk sort : Nat → Int32} {kb : Nat → Nat} {o1 o2 b : Nat}
theorem claim_cnt {d' : Dy} {m : Nat} (hm : m < M) (hb : b < B) (hM : M ≤ 5) (hB : B ≤ 3) (h : (aClaim kb B M d (nI m) (nI b)).2 = some d') : cnt m (dpl d' b) + 1 = cnt m (dpl d b) ∧ ∀ q, ¬ q = m → cnt q (dpl d' b) = cnt q (dpl d b) := by
  unfold aClaim at h
  rw [ix_nI (by omega) hm, ix_nI (by omega) hb] at h
  simp only at h
  split at h
  · cases h
  · cases q : his kb d m b with
    | none => rw [q] at h; cases h
    | some k =>
      rw [q] at h
      cases h
      obtain ⟨h1, h2, -⟩ := fnd_lt q
      have h2 := of_decide_eq_true h2
      have e : dpl (opClaim kb d m b k) b = (dpl d b).eraseIdx (plc (kb b) (dpl d b).length k) := up_s _ _ _
      rw [e]
      have hp := plc_lt (kind := kb b) h1
      refine ⟨?_, fun z hz => ?_⟩
      · show _ = cnt m (dpl d b)
        unfold cnt
        rw [ls_erase (fun x => if x = m then 1 else 0) hp, h2, if_pos rfl]
      · show _ = cnt z (dpl d b)
        unfold cnt
        rw [ls_erase (fun x => if x = z then 1 else 0) hp, h2, if_neg (fun w => hz w.symm), Nat.add_zero]
def cl (kb : Nat → Nat) (B M b : Nat) (d : Dy) (m : Nat) : Dy := (aClaim kb B M d (nI m) (nI b)).2.getD d
def cl1 (kb : Nat → Nat) (B M o1 b : Nat) (d : Dy) (k : Nat) : Dy := if k / 2 = 1 then cl kb B M b d o1 else d
def cl2 (kb : Nat → Nat) (B M o1 o2 b : Nat) (d : Dy) (k : Nat) : Dy := if k % 2 = 1 then cl kb B M b (cl1 kb B M o1 b d k) o2 else cl1 kb B M o1 b d k
theorem wf_cl (hW : WF B M d) {m : Nat} : WF B M (cl kb B M b d m) := wf_claim hW _ _
theorem wf_cl1 (hW : WF B M d) {k : Nat} : WF B M (cl1 kb B M o1 b d k) := by
  unfold cl1; split
  · exact wf_cl hW
  · exact hW
theorem wf_cl2 (hW : WF B M d) {k : Nat} : WF B M (cl2 kb B M o1 o2 b d k) := by
  unfold cl2; split
  · exact wf_cl (wf_cl1 hW)
  · exact wf_cl1 hW
def gn (d e : Dy) (m b : Nat) : Nat := (if cnt m (dpl e b) < cnt m (dpl d b) then 2 else 0) + cnt m (dpl e b) + (if 3 ≤ (dpl e b).length then 3 else 0)
theorem cnt_le (m : Nat) (L : List Nat) : cnt m L ≤ L.length := ls_le (fun x => by split <;> omega) L
theorem gn_le (d : Dy) {e : Dy} (hW : WF B M e) (m b : Nat) : gn d e m b ≤ 14 := by
  have h1 := cnt_le m (dpl e b)
  have h2 := hW.2.2.1 b
  unfold gn; split <;> split <;> omega
theorem C_tryClaims (hW : WF B M d) (hR : RC d c) (hbk : SK B kb bk) {k : Nat} (hk : k < 4) {tb tm : Int32} {tbk tmk tc : Nat → Int32} {post : Int32 → Int32 → (Nat → Int32) → (Nat → Int32) → (Nat → Int32) → Prop} (h : ∀ bk' mk' c', RC (cl2 kb B M o1 o2 b d k) c' → post (nI B) (nI M) bk' mk' c') : wpX6_tryClaims (nI B) (nI M) bk mk c tb tm tbk tmk tc (nI o1) (nI o2) (nI b) (nI k) post := by
  have hB := hW.1
  refine C_becomeAll (fun bk' mk' c' e1 e2 e3 => ?_)
  have hb' : SK B kb bk' := fun q hq => by rw [e1 q (by omega)]; exact hbk q hq
  have hc := hR.kept e3
  have J : ∀ cc, RC (cl1 kb B M o1 b d k) cc → wpX6_tryClaims_J29 (nI B) (nI M) bk mk c (nI o1) (nI o2) (nI b) (nI k) post (nI B) (nI M) bk' mk' cc := by
    intro cc hcc
    unfold wpX6_tryClaims_J29
    rw [show nI k - nI k / (2 : Int32) * (2 : Int32) = nI (k % 2) from pk_rem (d := 2) (by omega) (by omega) (by omega)]
    refine ⟨fun q => ?_, fun q => ?_⟩
    · unfold cl2 at h
      rw [if_neg (fun z => q (by rw [z]; rfl))] at h
      exact h _ _ _ hcc
    · unfold cl2 at h
      rw [if_pos ((nI_eq (b := 1) (by omega) (by omega)).mp q)] at h
      exact C_takeBack (wf_cl1 hW) hcc hb' _ _ (fun c2 hc2 => h _ _ _ hc2)
  rw [show nI k / (2 : Int32) = nI (k / 2) from pk_div (d := 2) (by omega) (by omega) (by omega)]
  refine ⟨fun q => ?_, fun q => ?_⟩
  · unfold cl1 at J
    rw [if_neg (fun z => q (by rw [z]; rfl))] at J
    exact J _ hc
  · unfold cl1 at J
    rw [if_pos ((nI_eq (b := 1) (by omega) (by omega)).mp q)] at J
    exact C_takeBack hW hc hb' _ _ (fun c2 hc2 => J _ hc2)
theorem C_gainOf (hW : WF B M d) (hR : RC d c) {e : Dy} (hWe : WF B M e) {tc : Nat → Int32} (hRe : RC e tc) {m : Nat} (hm : m < 5) (hb : b < 3) {post : Int32 → Prop} (h : post (nI (gn d e m b))) : wpX6_gainOf (nI B) c (nI B) tc (nI m) (nI b) post := by
  refine C_breathsOfIn hW hR (by omega) (by omega) (C_breathsOfIn hWe hRe (by omega) (by omega) ?_)
  have h1 := cnt_le m (dpl d b)
  have h2 := cnt_le m (dpl e b)
  have h3 := hW.2.2.1 b
  have h4 := hWe.2.2.1 b
  have J : ∀ g, g = (if cnt m (dpl e b) < cnt m (dpl d b) then 2 else 0) + cnt m (dpl e b) → wpX6_gainOf_J36 (nI B) c (nI B) tc (nI m) (nI b) post (nI g) := by
    intro g eg
    refine C_breathsIn hWe hRe (by omega) (pk_lt _ 3 (fun q => ?_) (fun q => ?_))
    · unfold gn at h
      rw [if_neg (show ¬ 3 ≤ (dpl e b).length by omega), ← eg] at h; exact h
    · unfold gn at h
      rw [if_pos q, ← eg] at h
      rw [show nI g + (3 : Int32) = nI (g + 3) from nI_add g 3]; exact h
  refine pk_le (cnt m (dpl d b)) (cnt m (dpl e b)) (fun q => J _ ?_) (fun q => ?_)
  · rw [if_neg (by omega), Nat.zero_add]
  · rw [show (2 : Int32) + nI (ls (fun x => if x = m then 1 else 0) (dpl e b)) = nI (2 + cnt m (dpl e b)) from nI_add 2 _]
    exact J _ (by rw [if_pos q])
theorem x4 : ∀ k, k < 4 → nI k ^^^ (2 : Int32) = nI (k ^^^ 2) ∧ nI k ^^^ (1 : Int32) = nI (k ^^^ 1) ∧ k ^^^ 2 < 4 ∧ k ^^^ 1 < 4 := by decide +kernel
def isR (G H : Nat → Nat) (k : Nat) : Bool := decide (¬ G k < G (k ^^^ 2)) && decide (¬ H k < H (k ^^^ 1))
theorem C_isRest (hW : WF B M d) (hR : RC d c) (hbk : SK B kb bk) (h1 : o1 < 5) (h2 : o2 < 5) (hb : b < 3) {k : Nat} (hk : k < 4) {tb tm : Int32} {tbk tmk tc : Nat → Int32} {post : Int32 → Int32 → Int32 → (Nat → Int32) → (Nat → Int32) → (Nat → Int32) → Prop} (h : ∀ tb tm tbk tmk tc, post (if isR (fun k => gn d (cl2 kb B M o1 o2 b d k) o1 b) (fun k => gn d (cl2 kb B M o1 o2 b d k) o2 b) k = true then (1 : Int32) else 0) tb tm tbk tmk tc) : wpX6_isRest (nI B) (nI M) bk mk c tb tm tbk tmk tc (nI o1) (nI o2) (nI b) (nI k) post := by
  obtain ⟨x2, x1, l2, l1⟩ := x4 k hk
  unfold wpX6_isRest
  rw [x2, x1]
  refine C_tryClaims hW hR hbk l2 (fun bk1 mk1 cc1 hc1 => C_gainOf hW hR (wf_cl2 hW) hc1 h1 hb (C_tryClaims hW hR hbk l1 (fun bk2 mk2 cc2 hc2 => C_gainOf hW hR (wf_cl2 hW) hc2 h2 hb (C_tryClaims hW hR hbk hk (fun bk3 mk3 cc3 hc3 => C_gainOf hW hR (wf_cl2 hW) hc3 h1 hb ?_)))))
  have g1 : ∀ k, gn d (cl2 kb B M o1 o2 b d k) o1 b ≤ 14 := fun k => gn_le d (wf_cl2 hW) _ _
  have g2 : ∀ k, gn d (cl2 kb B M o1 o2 b d k) o2 b ≤ 14 := fun k => gn_le d (wf_cl2 hW) _ _
  have a1 := g1 k
  have a2 := g1 (k ^^^ 2)
  have a3 := g2 k
  have a4 := g2 (k ^^^ 1)
  unfold isR at h
  refine pk_lt (gn d (cl2 kb B M o1 o2 b d k) o1 b) (gn d (cl2 kb B M o1 o2 b d (k ^^^ 2)) o1 b) (fun q => ?_) (fun q => C_gainOf hW hR (wf_cl2 hW) hc3 h2 hb (pk_lt (gn d (cl2 kb B M o1 o2 b d k) o2 b) (gn d (cl2 kb B M o1 o2 b d (k ^^^ 1)) o2 b) (fun q2 => ?_) (fun q2 => ?_)))
  · rw [decide_eq_false (fun z => z q), Bool.false_and] at h; exact h _ _ _ _ _
  · rw [decide_eq_false (p := ¬ gn d (cl2 kb B M o1 o2 b d k) o2 b < _) (fun z => z q2), Bool.and_false] at h; exact h _ _ _ _ _
  · rw [decide_eq_true (p := ¬ gn d (cl2 kb B M o1 o2 b d k) o2 b < _) (Nat.not_lt.mpr q2), decide_eq_true (p := ¬ gn d (cl2 kb B M o1 o2 b d k) o1 b < _) (Nat.not_lt.mpr q)] at h; exact h _ _ _ _ _
def rvv (k : Nat) : Nat := 10 * (k / 2) + k % 2
theorem rvv_lt (n : Nat) (hn : n ≤ 4) : ∀ k, k < n → rvv k < 2 ^ 30 := fun k hk => by unfold rvv; omega
theorem rvv_I {k : Nat} (hk : k < 4) : ((10 : Int32) * (nI k / (2 : Int32))) + (nI k - nI k / (2 : Int32) * (2 : Int32)) = nI (rvv k) := by
  rw [show nI k - nI k / (2 : Int32) * (2 : Int32) = nI (k % 2) from pk_rem (d := 2) (by omega) (by omega) (by omega), show nI k / (2 : Int32) = nI (k / 2) from pk_div (d := 2) (by omega) (by omega) (by omega), show (10 : Int32) * nI (k / 2) = nI (10 * (k / 2)) from pk_mul 10 _, nI_add]
  rfl
theorem C_restsL (hW : WF B M d) (hR : RC d c) (hbk : SK B kb bk) (h1 : o1 < 5) (h2 : o2 < 5) (hb : b < 3) {k : Nat} (k1 : k ≤ 1) {tb tm : Int32} {tbk tmk tc : Nat → Int32} {p : Nat → Bool} (hp : p = isR (fun k => gn d (cl2 kb B M o1 o2 b d k) o1 b) (fun k => gn d (cl2 kb B M o1 o2 b d k) o2 b)) {post : Int32 → Int32 → Int32 → (Nat → Int32) → (Nat → Int32) → (Nat → Int32) → Prop} (h : ∀ tb tm tbk tmk tc, post (if k = 0 then nI (cntP p 4) else fstV p rvv 4) tb tm tbk tmk tc) : wpX6_rests_E64 (nI B) (nI M) bk mk c (nI o1) (nI o2) (nI b) (nI k) post tb tm tbk tmk tc 0 (-9) 0 := by
  have key : ∀ r i tb tm tbk tmk tc, i + r = 4 → wpX6_rests_L64 (nI B) (nI M) bk mk c (nI o1) (nI o2) (nI b) (nI k) (wpX6_rests_J117 (nI B) (nI M) bk mk c (nI o1) (nI o2) (nI b) (nI k) post) post (r + 1) tb tm tbk tmk tc (nI (cntP p i)) (fstV p rvv i) (nI i) := by
    intro r
    induction r with
    | zero =>
      intro i tb tm tbk tmk tc hi
      have hi : i = 4 := by omega
      subst hi
      refine ⟨fun _ => ⟨fun q => ?_, fun q => ?_⟩, fun q => absurd (show (4 : Int32) ≤ nI 4 by decide) q⟩
      · rw [if_neg (fun z => q (by rw [z]; rfl))] at h; exact h _ _ _ _ _
      · rw [if_pos ((nI_eq (b := 0) (by omega) (by omega)).mp q)] at h; exact h _ _ _ _ _
    | succ r ih =>
      intro i tb tm tbk tmk tc hi
      have hc := cntP_le p i
      have e1 : nI i + (1 : Int32) = nI (i + 1) := nI_1 i
      refine ⟨fun z => absurd z (nI_ge (b := 4) (by omega) (by omega)), fun _ => C_isRest hW hR hbk h1 h2 hb (by omega) (fun tb tm tbk tmk tc => ?_)⟩
      rw [← hp]
      have k2 := ih (i + 1) tb tm tbk tmk tc (by omega)
      refine ⟨fun q => ?_, fun q => ?_⟩
      · have e := if10.mp q
        rintro _ rfl
        rw [cntP_f e, fstV_no e] at k2
        rw [e1]; exact k2
      · have e : p i = true := by
          cases z : p i with
          | true => rfl
          | false => exact absurd (if10.mpr z) q
        rw [cntP_t e, ← nI_1] at k2
        rintro _ rfl
        refine ⟨fun q2 => ?_, fun q2 => ?_⟩
        · rintro _ rfl
          rw [fstV_old (fun z => q2 ((fstV_9 (rvv_lt i (by omega))).mpr z))] at k2
          rw [e1]; exact k2
        · rintro _ rfl
          rw [fstV_new e ((fstV_9 (rvv_lt i (by omega))).mp q2)] at k2
          rw [e1, rvv_I (by omega)]; exact k2
  exact ⟨_, key 4 0 tb tm tbk tmk tc (by omega)⟩
theorem M_gain {e : Dy} (hW : WF B M e) {t : Nat → Int32} (hR : RM e t) (hd : WF B M d) {m : Nat} (hm : m < 5) (hb : b < 3) {x : Int32} (hx : (x = 0 ∧ ¬ cnt m (dpl e b) < cnt m (dpl d b)) ∨ (x = 1 ∧ cnt m (dpl e b) < cnt m (dpl d b))) {post : Int32 → Prop} (h : post (nI (gn d e m b))) : wpX7_gain t (nI m) (nI b) x post := by
  have h1 := cnt_le m (dpl e b)
  have h2 := hW.2.2.1 b
  have J : ∀ g, g = (if cnt m (dpl e b) < cnt m (dpl d b) then 2 else 0) → wpX7_gain_J9 t (nI m) (nI b) x post (nI g) := by
    intro g eg
    refine M_breathsOf hW hR hb (by omega) ⟨vin (by omega) (by omega), ?_⟩
    rw [nI_clamp (by omega), hR.2.2.2.2.2.1 b hb, nI_add]
    refine pk_lt (dpl e b).length 3 (fun q => ?_) (fun q => ?_)
    · unfold gn at h
      rw [if_neg (show ¬ 3 ≤ (dpl e b).length by omega), ← eg] at h
      rw [show nI (g + cnt m (dpl e b)) + (0 : Int32) = nI (g + cnt m (dpl e b) + 0) from nI_add _ 0]; exact h
    · unfold gn at h
      rw [if_pos q, ← eg] at h
      rw [show nI (g + cnt m (dpl e b)) + (3 : Int32) = nI (g + cnt m (dpl e b) + 3) from nI_add _ 3]; exact h
  rcases hx with ⟨rfl, hn⟩ | ⟨rfl, hn⟩
  · exact ⟨fun _ => J 0 (by rw [if_neg hn]), fun q => absurd rfl q⟩
  · exact ⟨fun q => absurd q (by decide), fun _ => J 2 (by rw [if_pos hn])⟩
def RG (G H : Nat → Nat) (g : Nat → Int32) (i : Nat) : Prop := ∀ j, j < i → g (2 * j) = nI (G j) ∧ g (2 * j + 1) = nI (H j)
theorem M_restsL (hW : WF B M d) (hR : RM d pg) (hso : SK B kb sort) (h1 : o1 < M) (h2 : o2 < M) (hb : b < B) (hne : ¬ o1 = o2) {k : Nat} (k1 : k ≤ 1) {th tm0 tf0 : Int32} {t0 g0 : Nat → Int32} {p : Nat → Bool} (hp : p = isR (fun k => gn d (cl2 kb B M o1 o2 b d k) o1 b) (fun k => gn d (cl2 kb B M o1 o2 b d k) o2 b)) {post : Int32 → Int32 → (Nat → Int32) → Int32 → Int32 → (Nat → Int32) → Prop} (h : ∀ t a b g, post (if k = 0 then nI (cntP p 4) else fstV p rvv 4) th t a b g) : wpX7_rests_E53 (nI B) sort (nI M) pg (nI o1) (nI o2) (nI b) (nI k) post th t0 tm0 tf0 g0 0 := by
  have hB := hW.1
  have hM := hW.2.1
  refine pk_loop (fun n i (s : (Nat → Int32) × (Nat → Int32)) => wpX7_rests_L53 (nI B) sort (nI M) pg (nI o1) (nI o2) (nI b) (nI k) th tm0 tf0 (wpX7_rests_J159 (nI B) sort (nI M) pg (nI o1) (nI o2) (nI b) (nI k) post) post n s.1 s.2 (nI i)) (fun i s => RG (fun k => gn d (cl2 kb B M o1 o2 b d k) o1 b) (fun k => gn d (cl2 kb B M o1 o2 b d k) o2 b) s.2 i) 4 0 (t0, g0) (by omega) (fun j hj => absurd hj (Nat.not_lt_zero j)) ?_ ?_
  · rintro n ⟨t, g⟩ hg
    refine ⟨fun _ => ?_, fun q => absurd (show (4 : Int32) ≤ nI 4 by decide) q⟩
    have hg : RG (fun k => gn d (cl2 kb B M o1 o2 b d k) o1 b) (fun k => gn d (cl2 kb B M o1 o2 b d k) o2 b) g 4 := hg
    refine for_up (P := fun n i => wpX7_rests_L173 (nI B) sort (nI M) pg (nI o1) (nI o2) (nI b) (nI k) th t g (wpX7_rests_J296 (nI B) sort (nI M) pg (nI o1) (nI o2) (nI b) (nI k) post) post n (nI (cntP p i)) (fstV p rvv i) (nI i)) 4 ?_ ?_ 0 (by omega)
    · intro n
      refine ⟨fun _ => ⟨fun q => ?_, fun q => ?_⟩, fun q => absurd (show (4 : Int32) ≤ nI 4 by decide) q⟩
      · rw [if_neg (fun z => q (by rw [z]; rfl))] at h; exact h _ _ _ _
      · rw [if_pos ((nI_eq (b := 0) (by omega) (by omega)).mp q)] at h; exact h _ _ _ _
    · intro n i hi k2
      obtain ⟨x2, x1, l2, l1⟩ := x4 i hi
      have hc := cntP_le p i
      have g1 : ∀ k, gn d (cl2 kb B M o1 o2 b d k) o1 b ≤ 14 := fun k => gn_le d (wf_cl2 hW) _ _
      have g2 : ∀ k, gn d (cl2 kb B M o1 o2 b d k) o2 b ≤ 14 := fun k => gn_le d (wf_cl2 hW) _ _
      have a1 := g1 i
      have a2 := g1 (i ^^^ 2)
      have a3 := g2 i
      have a4 := g2 (i ^^^ 1)
      have e1 : nI i + (1 : Int32) = nI (i + 1) := nI_1 i
      have no : p i = false → wpX7_rests_J233 (nI B) sort (nI M) pg (nI o1) (nI o2) (nI b) (nI k) th t g (wpX7_rests_L173 (nI B) sort (nI M) pg (nI o1) (nI o2) (nI b) (nI k) th t g (wpX7_rests_J296 (nI B) sort (nI M) pg (nI o1) (nI o2) (nI b) (nI k) post) post n) post (nI (cntP p i)) (fstV p rvv i) (nI i) := by
        intro e
        refine ⟨fun _ => ⟨fun _ => ?_, fun w => absurd rfl w⟩, fun w => absurd rfl w⟩
        rintro _ rfl _ rfl
        rw [cntP_f e, fstV_no e] at k2
        rw [e1, show nI (cntP p i) + (0 : Int32) = nI (cntP p i + 0) from nI_add _ 0]; exact k2
      have yes : p i = true → wpX7_rests_J234 (nI B) sort (nI M) pg (nI o1) (nI o2) (nI b) (nI k) th t g (wpX7_rests_L173 (nI B) sort (nI M) pg (nI o1) (nI o2) (nI b) (nI k) th t g (wpX7_rests_J296 (nI B) sort (nI M) pg (nI o1) (nI o2) (nI b) (nI k) post) post n) post (nI (cntP p i)) (fstV p rvv i) (nI i) 1 := by
        intro e
        rw [cntP_t e, ← nI_1, ← nI_1] at k2
        refine ⟨fun w => absurd w (by decide), fun _ => ⟨fun w => ⟨fun w2 => absurd w2 (by decide), fun _ => ?_⟩, fun w => ⟨fun w2 => absurd w2 (by decide), fun _ => ?_⟩⟩⟩
        · rintro _ rfl _ rfl
          rw [fstV_old (fun u => w (by rw [u]; rfl))] at k2
          exact k2
        · rintro _ rfl _ rfl
          rw [fstV_new e ((nI_eq (b := 0) (by omega) (by omega)).mp w)] at k2
          rw [rvv_I (by omega)]; exact k2
      have q1 : (2 : Int32) * nI i = nI (2 * i) := pk_mul 2 i
      have q2 : (2 : Int32) * nI (i ^^^ 2) = nI (2 * (i ^^^ 2)) := pk_mul 2 _
      have q3 : (2 : Int32) * nI (i ^^^ 1) + (1 : Int32) = nI (2 * (i ^^^ 1) + 1) := by rw [show (2 : Int32) * nI (i ^^^ 1) = nI (2 * (i ^^^ 1)) from pk_mul 2 _]; exact nI_add _ 1
      have q4 : nI (2 * i) + (1 : Int32) = nI (2 * i + 1) := nI_add _ 1
      refine ⟨fun z => absurd z (nI_ge (b := 4) (by omega) (by omega)), fun _ => ?_⟩
      rw [x2, x1, q2, q3, q1, q4, nI_clamp (by omega), nI_clamp (by omega), nI_clamp (by omega), nI_clamp (by omega), (hg i hi).1, (hg i hi).2, (hg _ l2).1, (hg _ l1).2]
      refine ⟨vin (by omega) (by omega), vin (by omega) (by omega), pk_lt (gn d (cl2 kb B M o1 o2 b d i) o1 b) (gn d (cl2 kb B M o1 o2 b d (i ^^^ 2)) o1 b) (fun q => no ?_) (fun q => ⟨vin (by omega) (by omega), vin (by omega) (by omega), pk_lt (gn d (cl2 kb B M o1 o2 b d i) o2 b) (gn d (cl2 kb B M o1 o2 b d (i ^^^ 1)) o2 b) (fun q2 => no ?_) (fun q2 => yes ?_)⟩)⟩
      · rw [hp]; unfold isR
        rw [decide_eq_false (p := ¬ gn d (cl2 kb B M o1 o2 b d i) o1 b < _) (fun z => z q), Bool.false_and]
      · rw [hp]; unfold isR
        rw [decide_eq_false (p := ¬ gn d (cl2 kb B M o1 o2 b d i) o2 b < _) (fun z => z q2), Bool.and_false]
      · rw [hp]; unfold isR
        rw [decide_eq_true (p := ¬ gn d (cl2 kb B M o1 o2 b d i) o2 b < _) (Nat.not_lt.mpr q2), decide_eq_true (p := ¬ gn d (cl2 kb B M o1 o2 b d i) o1 b < _) (Nat.not_lt.mpr q)]; rfl
  · rintro n i ⟨t, g⟩ hi hg k2
    have hg : RG (fun k => gn d (cl2 kb B M o1 o2 b d k) o1 b) (fun k => gn d (cl2 kb B M o1 o2 b d k) o2 b) g i := hg
    refine ⟨fun z => absurd z (nI_ge (b := 4) (by omega) (by omega)), fun _ => M_begin (fun t' ht' => ?_)⟩
    have hR' := hR.kept (fun q => hW.2.2.1 q) ht'
    have fin : ∀ (b1 b2 : Int32) (t2 : Nat → Int32), RM (cl2 kb B M o1 o2 b d i) t2 → ((b1 = 0 ∧ ¬ cnt o1 (dpl (cl2 kb B M o1 o2 b d i) b) < cnt o1 (dpl d b)) ∨ (b1 = 1 ∧ cnt o1 (dpl (cl2 kb B M o1 o2 b d i) b) < cnt o1 (dpl d b))) → ((b2 = 0 ∧ ¬ cnt o2 (dpl (cl2 kb B M o1 o2 b d i) b) < cnt o2 (dpl d b)) ∨ (b2 = 1 ∧ cnt o2 (dpl (cl2 kb B M o1 o2 b d i) b) < cnt o2 (dpl d b))) → wpX7_rests_J115 (nI B) sort (nI M) pg (nI o1) (nI o2) (nI b) (nI k) th tm0 tf0 (wpX7_rests_L53 (nI B) sort (nI M) pg (nI o1) (nI o2) (nI b) (nI k) th tm0 tf0 (wpX7_rests_J159 (nI B) sort (nI M) pg (nI o1) (nI o2) (nI b) (nI k) post) post n) post t2 g (nI i) b1 b2 := by
      intro b1 b2 t2 hR2 hb1 hb2
      have q1 : (2 : Int32) * nI i = nI (2 * i) := pk_mul 2 i
      have q4 : nI (2 * i) + (1 : Int32) = nI (2 * i + 1) := nI_add _ 1
      refine M_gain (wf_cl2 hW) hR2 hW (by omega) (by omega) hb1 ?_
      rw [q1, q4, nI_clamp (by omega), nI_clamp (by omega)]
      refine ⟨vin (by omega) (by omega), ?_⟩
      rintro _ rfl
      refine M_gain (wf_cl2 hW) hR2 hW (by omega) (by omega) hb2 ⟨vin (by omega) (by omega), ?_⟩
      rintro _ rfl _ rfl
      rw [show nI i + (1 : Int32) = nI (i + 1) from nI_1 i]
      refine k2 (t2, upd (upd g (2 * i) (nI (gn d (cl2 kb B M o1 o2 b d i) o1 b))) (2 * i + 1) (nI (gn d (cl2 kb B M o1 o2 b d i) o2 b))) (fun j hj => ?_)
      show upd (upd g _ _) _ _ _ = _ ∧ upd (upd g _ _) _ _ _ = _
      rcases Nat.lt_or_ge j i with z | z
      · rw [pk_un (by omega), pk_un (by omega), pk_un (by omega), pk_un (by omega)]; exact hg j z
      · rw [show j = i by omega, pk_un (by omega), pk_us, pk_us]; exact ⟨rfl, rfl⟩
    have two : ∀ (b1 : Int32) (t2 : Nat → Int32), RM (cl1 kb B M o1 b d i) t2 → ((b1 = 0 ∧ ¬ cnt o1 (dpl (cl1 kb B M o1 b d i) b) < cnt o1 (dpl d b)) ∨ (b1 = 1 ∧ cnt o1 (dpl (cl1 kb B M o1 b d i) b) < cnt o1 (dpl d b))) → cnt o2 (dpl (cl1 kb B M o1 b d i) b) = cnt o2 (dpl d b) → wpX7_rests_J87 (nI B) sort (nI M) pg (nI o1) (nI o2) (nI b) (nI k) th tm0 tf0 (wpX7_rests_L53 (nI B) sort (nI M) pg (nI o1) (nI o2) (nI b) (nI k) th tm0 tf0 (wpX7_rests_J159 (nI B) sort (nI M) pg (nI o1) (nI o2) (nI b) (nI k) post) post n) post t2 g (nI i) b1 := by
      intro b1 t2 hR2 hb1 hc2
      unfold wpX7_rests_J87
      rw [show nI i - nI i / (2 : Int32) * (2 : Int32) = nI (i % 2) from pk_rem (d := 2) (by omega) (by omega) (by omega)]
      refine ⟨fun q => ?_, fun q => ?_⟩
      · have ec : cl2 kb B M o1 o2 b d i = cl1 kb B M o1 b d i := by unfold cl2; rw [if_neg (fun z => q (by rw [z]; rfl))]
        exact fin b1 0 t2 (by rw [ec]; exact hR2) (by rw [ec]; exact hb1) (Or.inl ⟨rfl, by rw [ec]; omega⟩)
      · have ec : cl2 kb B M o1 o2 b d i = cl kb B M b (cl1 kb B M o1 b d i) o2 := by unfold cl2; rw [if_pos ((nI_eq (b := 1) (by omega) (by omega)).mp q)]
        refine M_goClaim (wf_cl1 hW) hR2 hso h2 hb (fun e0 => ⟨fun _ => ?_, fun w => absurd rfl w⟩) (fun d' e0 p' hp' => ⟨fun w => absurd w (by decide), fun _ => ?_⟩)
        · have ec2 : cl2 kb B M o1 o2 b d i = cl1 kb B M o1 b d i := by rw [ec]; unfold cl; rw [e0]; rfl
          exact fin b1 0 t2 (by rw [ec2]; exact hR2) (by rw [ec2]; exact hb1) (Or.inl ⟨rfl, by rw [ec2]; omega⟩)
        · have ec2 : cl2 kb B M o1 o2 b d i = d' := by rw [ec]; unfold cl; rw [e0]; rfl
          obtain ⟨n1, n2⟩ := claim_cnt h2 hb hM hB e0
          have n2 := n2 o1 hne
          exact fin b1 1 p' (by rw [ec2]; exact hp') (by rw [ec2, n2]; exact hb1) (Or.inr ⟨rfl, by rw [ec2]; omega⟩)
    refine pk_le i 1 (fun q => ?_) (fun q => ?_)
    · have ec : cl1 kb B M o1 b d i = d := by unfold cl1; rw [if_neg (by omega)]
      exact two 0 t' (by rw [ec]; exact hR') (Or.inl ⟨rfl, by rw [ec]; omega⟩) (by rw [ec])
    · have ec : cl1 kb B M o1 b d i = cl kb B M b d o1 := by unfold cl1; rw [if_pos (by omega)]
      refine M_goClaim hW hR' hso h1 hb (fun e0 => ⟨fun _ => ?_, fun w => absurd rfl w⟩) (fun d' e0 p' hp' => ⟨fun w => absurd w (by decide), fun _ => ?_⟩)
      · have ec2 : cl1 kb B M o1 b d i = d := by rw [ec]; unfold cl; rw [e0]; rfl
        exact two 0 t' (by rw [ec2]; exact hR') (Or.inl ⟨rfl, by rw [ec2]; omega⟩) (by rw [ec2])
      · have ec2 : cl1 kb B M o1 b d i = d' := by rw [ec]; unfold cl; rw [e0]; rfl
        obtain ⟨n1, n2⟩ := claim_cnt h1 hb hM hB e0
        have n2 := n2 o2 (fun z => hne z.symm)
        exact two 1 p' (by rw [ec2]; exact hp') (Or.inr ⟨rfl, by rw [ec2]; omega⟩) (by rw [ec2]; exact n2)
end RS
section OB
variable {c_text_letters : Nat → Int32} {c_text_length : Int32} {c_now_bags : Int32} {c_now_men : Int32} {c_now_bagKinds : Nat → Int32} {c_now_manKinds : Nat → Int32} {c_now_cells : Nat → Int32} {c_trial_bags : Int32} {c_trial_men : Int32} {c_trial_bagKinds : Nat → Int32} {c_trial_manKinds : Nat → Int32} {c_trial_cells : Nat → Int32} {c_past_rows : Nat → Int32} {c_past_next : Int32} {c_past_count : Int32} {c_slots_rows : Nat → Int32} {c_slots_keptBits : Int32} {c_felt_men : Nat → Int32} {c_felt_bags : Nat → Int32} {c_felt_lengths : Nat → Int32} {c_felt_played : Nat → Int32} {c_felt_count : Int32} {c_chance : Int64} {m_thrown : Int32} {m_text : Nat → Int32} {m_textSize : Int32} {m_place : Int32} {m_bags : Int32} {m_sort : Nat → Int32} {m_men : Int32} {m_kind : Nat → Int32} {m_readBags : Int32} {m_readSort : Nat → Int32} {m_readMen : Int32} {m_readMan : Nat → Int32} {m_readPage : Nat → Int32} {m_page : Nat → Int32} {m_trial : Nat → Int32} {m_book : Nat → Int32} {m_acts : Int32} {m_kept : Nat → Int32} {m_isKept : Nat → Int32} {m_felt : Int32} {m_feltMan : Nat → Int32} {m_feltBag : Nat → Int32} {m_feltMany : Nat → Int32} {m_feltIs : Nat → Int32} {m_seed : Int64} {m_routeFew : Int32} {m_routeWay : Int32} {m_whichMany : Int32} {m_whichFirst : Int32} {m_restMany : Int32} {m_restFirst : Int32} {m_gains : Nat → Int32} {m_value : Nat → Int32}
set_option maxRecDepth 20000 in
set_option maxHeartbeats 2000000 in
theorem O_rests (hR : Rel c_text_letters c_text_length c_now_bags c_now_men c_now_bagKinds c_now_manKinds c_now_cells c_trial_bags c_trial_men c_trial_bagKinds c_trial_manKinds c_trial_cells c_past_rows c_past_next c_past_count c_slots_rows c_slots_keptBits c_felt_men c_felt_bags c_felt_lengths c_felt_played c_felt_count c_chance m_thrown m_text m_textSize m_place m_bags m_sort m_men m_kind m_readBags m_readSort m_readMen m_readMan m_readPage m_page m_trial m_book m_acts m_kept m_isKept m_felt m_feltMan m_feltBag m_feltMany m_feltIs m_seed m_routeFew m_routeWay m_whichMany m_whichFirst m_restMany m_restFirst m_gains m_value) (x1 : Int32) (x2 : Int32) (x3 : Int32) (x4 : Int32) : wpX6_rests c_now_bags c_now_men c_now_bagKinds c_now_manKinds c_now_cells c_trial_bags c_trial_men c_trial_bagKinds c_trial_manKinds c_trial_cells x1 x2 x3 x4 (fun r c_trial_bags' c_trial_men' c_trial_bagKinds' c_trial_manKinds' c_trial_cells' => wpX7_rests m_thrown m_bags m_sort m_men m_page m_trial m_restMany m_restFirst m_gains x1 x2 x3 x4 (fun r' m_thrown' m_trial' m_restMany' m_restFirst' m_gains' => r = r' ∧ Rel c_text_letters c_text_length c_now_bags c_now_men c_now_bagKinds c_now_manKinds c_now_cells c_trial_bags' c_trial_men' c_trial_bagKinds' c_trial_manKinds' c_trial_cells' c_past_rows c_past_next c_past_count c_slots_rows c_slots_keptBits c_felt_men c_felt_bags c_felt_lengths c_felt_played c_felt_count c_chance m_thrown' m_text m_textSize m_place m_bags m_sort m_men m_kind m_readBags m_readSort m_readMen m_readMan m_readPage m_page m_trial' m_book m_acts m_kept m_isKept m_felt m_feltMan m_feltBag m_feltMany m_feltIs m_seed m_routeFew m_routeWay m_whichMany m_whichFirst m_restMany' m_restFirst' m_gains' m_value)) := by
  obtain ⟨B, M, kb, km, d, h, kp, fe, fn, tx, tn, ⟨hW, rfl, rfl, hbk, hmk, hC, rfl, rfl, hso, hki, hM⟩, ⟨hh, hcp, hmp⟩, hS, hF, hT, hE⟩ := id hR
  have hB3 := hW.1
  have hM5 := hW.2.1
  cases h1 : ix M x1 with
  | none => exact C_isMan_f (by omega) (ix_none (by omega) h1) ⟨fun _ => M_noM_f (by omega) (ix_none (by omega) h1) ⟨fun _ => ⟨rfl, ⟨B, M, kb, km, d, h, kp, fe, fn, tx, tn, ⟨hW, rfl, rfl, hbk, hmk, hC, rfl, rfl, hso, hki, hM⟩, ⟨hh, hcp, hmp⟩, hS, hF, hT, hE⟩⟩, fun q => absurd q (by decide)⟩, fun q => absurd rfl q⟩
  | some o1 =>
    obtain ⟨m1, rfl⟩ := ix_some h1
    refine C_isMan_t m1 (by omega) ⟨fun q => absurd q (by decide), fun _ => ?_⟩
    cases h2 : ix M x2 with
    | none => exact C_isMan_f (by omega) (ix_none (by omega) h2) ⟨fun _ => M_noM_t m1 (by omega) ⟨fun q => absurd rfl q, fun _ => M_noM_f (by omega) (ix_none (by omega) h2) ⟨fun _ => ⟨rfl, ⟨B, M, kb, km, d, h, kp, fe, fn, tx, tn, ⟨hW, rfl, rfl, hbk, hmk, hC, rfl, rfl, hso, hki, hM⟩, ⟨hh, hcp, hmp⟩, hS, hF, hT, hE⟩⟩, fun q => absurd q (by decide)⟩⟩, fun q => absurd rfl q⟩
    | some o2 =>
      obtain ⟨m2, rfl⟩ := ix_some h2
      refine C_isMan_t m2 (by omega) ⟨fun q => absurd q (by decide), fun _ => ?_⟩
      cases h3 : ix B x3 with
      | none => exact C_isBag_f (by omega) (ix_none (by omega) h3) ⟨fun q => absurd rfl q, fun _ => M_noM_t m1 (by omega) ⟨fun q => absurd rfl q, fun _ => M_noM_t m2 (by omega) ⟨fun q => absurd rfl q, fun _ => M_no_f (by omega) (ix_none (by omega) h3) ⟨fun q => absurd q (by decide), fun _ => ⟨rfl, ⟨B, M, kb, km, d, h, kp, fe, fn, tx, tn, ⟨hW, rfl, rfl, hbk, hmk, hC, rfl, rfl, hso, hki, hM⟩, ⟨hh, hcp, hmp⟩, hS, hF, hT, hE⟩⟩⟩⟩⟩⟩
      | some b =>
        obtain ⟨b1, rfl⟩ := ix_some h3
        refine C_isBag_t b1 (by omega) ⟨fun _ => ?_, fun q => absurd q (by decide)⟩
        by_cases hne : o1 = o2
        · subst hne
          exact ⟨fun _ => M_noM_t m1 (by omega) ⟨fun q => absurd rfl q, fun _ => M_noM_t m2 (by omega) ⟨fun q => absurd rfl q, fun _ => M_no_t b1 (by omega) ⟨fun _ => ⟨fun _ => ⟨rfl, ⟨B, M, kb, km, d, h, kp, fe, fn, tx, tn, ⟨hW, rfl, rfl, hbk, hmk, hC, rfl, rfl, hso, hki, hM⟩, ⟨hh, hcp, hmp⟩, hS, hF, hT, hE⟩⟩, fun q => absurd rfl q⟩, fun q => absurd rfl q⟩⟩⟩, fun q => absurd rfl q⟩
        · refine ⟨fun q => absurd ((nI_eq (by omega) (by omega)).mp q) hne, fun _ => ?_⟩
          cases h4 : rg 0 1 x4 with
          | none => exact rgn_le (lo := 0) (hi := 1) (by omega) (by omega) h4 (M_noM_t m1 (by omega) ⟨fun q => absurd rfl q, fun _ => M_noM_t m2 (by omega) ⟨fun q => absurd rfl q, fun _ => M_no_t b1 (by omega) ⟨fun _ => ⟨fun q => absurd ((nI_eq (by omega) (by omega)).mp q) hne, fun _ => M_in_n (lo := 0) (hi := 1) rfl rfl (by omega) (by omega) h4 ⟨fun q => absurd rfl q, fun _ => ⟨rfl, ⟨B, M, kb, km, d, h, kp, fe, fn, tx, tn, ⟨hW, rfl, rfl, hbk, hmk, hC, rfl, rfl, hso, hki, hM⟩, ⟨hh, hcp, hmp⟩, hS, hF, hT, hE⟩⟩⟩⟩, fun q => absurd rfl q⟩⟩⟩)
          | some k =>
            obtain ⟨-, k1, rfl⟩ := rg_some h4
            exact rgs_le (lo := 0) (hi := 1) (by omega) (by omega) h4 (C_restsL hW hC hbk (by omega) (by omega) (by omega) k1 rfl (fun tb tm tbk tmk tc => M_noM_t m1 (by omega) ⟨fun q => absurd rfl q, fun _ => M_noM_t m2 (by omega) ⟨fun q => absurd rfl q, fun _ => M_no_t b1 (by omega) ⟨fun _ => ⟨fun q => absurd ((nI_eq (by omega) (by omega)).mp q) hne, fun _ => M_in_s (lo := 0) (hi := 1) rfl rfl (by omega) (by omega) h4 ⟨fun _ => M_restsL hW hM hso m1 m2 b1 hne k1 rfl (fun t a b g => ⟨rfl, ⟨B, M, kb, km, d, h, kp, fe, fn, tx, tn, ⟨hW, rfl, rfl, hbk, hmk, hC, rfl, rfl, hso, hki, hM⟩, ⟨hh, hcp, hmp⟩, hS, hF, hT, hE⟩⟩), fun q => absurd q (by decide)⟩⟩, fun q => absurd rfl q⟩⟩⟩))
end OB
