/-! the text told as a regiment, by the reference -/
theorem rg_nI {hi v : Nat} (hv : v ≤ hi) (hh : hi < 2 ^ 31) : rg 0 hi (nI v) = some v := by
  unfold rg
  rw [nI_toInt (by omega), if_pos ⟨by omega, by omega⟩]
  rfl
theorem rg_nN {hi v : Nat} (hv : hi < v) (hh : v < 2 ^ 31) : rg 0 hi (nI v) = none := by
  unfold rg
  rw [nI_toInt (by omega), if_neg (by omega)]
def noSd (d : Dy) : Dy := (dpl d, fun _ => 0, dgr d, dlo d, dfl d, ddy d)
theorem wf_noSd {B M : Nat} {d : Dy} (h : WF B M d) : WF B M (noSd d) := ⟨h.1, h.2.1, h.2.2.1, h.2.2.2.1, h.2.2.2.2.1, h.2.2.2.2.2.1, fun _ => Nat.zero_le _⟩
def RK (M : Nat) (km : Nat → Nat) (d : Dy) (g : Nat → Int32) : Prop := ∀ m, m < M → g (2 * m) = nI (dsd d m) ∧ g (2 * m + 1) = nI (km m) ∧ km m ≤ 3
def rmB (d : Dy) : Nat → Bool
  | 0 => false
  | n + 1 => rmB d n || decide ((dpl d n).length < 9)
theorem rmB_iff {d : Dy} (h : ∀ b, (dpl d b).length ≤ 9) : ∀ n, rmB d n = true ↔ sm (fun b => (dpl d b).length) n < 9 * n
  | 0 => by simp [rmB, sm]
  | n + 1 => by
    have ih := rmB_iff h n
    have h1 := sm_le (f := fun b => (dpl d b).length) (c := 9) (n := n) (fun k _ => h k)
    have h2 := h n
    rw [rmB, sm, Bool.or_eq_true, decide_eq_true_eq, ih]
    omega
section TM
variable {tx : Nat → Nat} {tn : Nat} {L T : Nat → Int32} {B M : Nat} {kb km : Nat → Nat} {d : Dy} {rs rn rp : Nat → Int32}
theorem M_inT (hn : tn ≤ 60) (hT : ∀ i, i < tn → tx i < 256 ∧ L i = nI (tx i) ∧ T i = nI (tx i)) {i : Nat} (hi : i < tn) {most : Nat} (h9 : most ≤ 9) {x1 : Int64} (hx1 : x1 = (nI most).toInt64) {post : Int32 → Prop} (h0 : (∀ k, fig tx tn i = some k → ¬ k ≤ most) → post 0) (h1 : ∀ k, fig tx tn i = some k → k ≤ most → post 1) : wpX7_in (nI (tx i) - (48 : Int32)).toInt64 (0 : Int64) x1 post := by
  have hx := (hT i hi).1
  rcases Nat.lt_or_ge (tx i) 48 with q | q
  · refine M_in_f (Or.inl ?_) (h0 (fun k hk => ?_))
    · show (nI (tx i) - (48 : Int32)).toInt64 < (nI 0).toInt64
      rw [wide_lt, Int32.lt_iff_toInt_lt, show (48 : Int32) = nI 48 from rfl, pk_sub_toInt (by omega) (by omega), nI_toInt (by omega)]
      omega
    · have := (fig_some hk).2.1; omega
  · rw [show nI (tx i) - (48 : Int32) = nI (tx i - 48) from pk_sub (b := 48) q]
    rcases Nat.lt_or_ge most (tx i - 48) with z | z
    · exact M_in_n (lo := 0) (hi := most) rfl hx1 (by omega) (by omega) (rg_nN z (by omega)) (h0 (fun k hk => by have := (fig_some hk).2.1; omega))
    · exact M_in_s (lo := 0) (hi := most) rfl hx1 (by omega) (by omega) (rg_nI z (by omega)) (h1 _ (fig_of hi q (by omega)) z)
theorem M_figure (hn : tn ≤ 60) (hT : ∀ i, i < tn → tx i < 256 ∧ L i = nI (tx i) ∧ T i = nI (tx i)) {i : Nat} (hi : i ≤ tn) {most : Nat} (h9 : most ≤ 9) {x1 : Int32} (hx1 : x1 = nI most) {post : Int32 → Int32 → Prop} (h0 : (∀ k, fig tx tn i = some k → ¬ k ≤ most) → post (-9) (nI i)) (h1 : ∀ k, fig tx tn i = some k → k ≤ most → post (nI k) (nI (i + 1))) : wpX7_figure T (nI tn) (nI i) x1 post := by
  subst hx1
  refine ⟨fun q => h0 (fun k hk => ?_), fun q => ?_⟩
  · have := (nI_eq (by omega) (by omega)).mp q
    have := (fig_some hk).1
    omega
  · have hlt : i < tn := Nat.lt_of_le_of_ne hi (fun z => q (by rw [z]))
    have hx := (hT i hlt).1
    refine ⟨vin (by omega) (by omega), ?_⟩
    rw [nI_clamp (by omega), (hT i hlt).2.2]
    refine M_inT hn hT hlt h9 rfl (fun f => ⟨fun z => absurd rfl z, fun _ => h0 f⟩) (fun k f hk => ⟨fun _ => ?_, fun z => absurd z (by decide)⟩)
    rintro _ rfl
    obtain ⟨-, e, -⟩ := fig_some f
    rw [show nI i + (1 : Int32) = nI (i + 1) from nI_1 i, nI_s1 (by omega), Nat.add_sub_cancel, nI_clamp (by omega), (hT i hlt).2.2, show nI (tx i) - (48 : Int32) = nI (tx i - 48) from pk_sub (b := 48) (by omega), show tx i - 48 = k by omega]
    exact ⟨vin (by omega) (by omega), h1 k f hk⟩
theorem ne9 {k : Nat} (h : k < 2 ^ 30) : ¬ nI k = (-9 : Int32) := by
  intro z
  have : (nI k).toInt = -9 := by rw [z]; decide
  rw [nI_toInt (by omega)] at this
  omega
theorem M_hasRoom (hW : WF B M d) (hR : RM (noSd d) rp) {post : Int32 → Prop} (h1 : room B d → post 1) (h0 : ¬ room B d → post 0) : wpX7_hasRoom (nI B) rp post := by
  have hB := hW.1
  refine for_up (P := fun f i => wpX7_hasRoom_L4 (nI B) rp post f (if rmB d i = true then (1 : Int32) else 0) (nI i)) B ?_ ?_ 0 (by omega)
  · intro f
    refine ⟨fun _ => ?_, fun q => absurd (Int32.le_refl _) q⟩
    by_cases e : rmB d B = true
    · rw [if_pos e]; exact ⟨vb1, h1 ((rmB_iff hW.2.2.1 B).mp e)⟩
    · rw [if_neg e]; exact ⟨vb0, h0 (fun z => e ((rmB_iff hW.2.2.1 B).mpr z))⟩
  · intro f i hi k
    have l9 := hW.2.2.1 i
    have e1 : nI i + (1 : Int32) = nI (i + 1) := nI_1 i
    refine ⟨fun q => absurd q (nI_ge hi (by omega)), fun _ => ⟨fun q => ?_, fun q => ⟨vin (by omega) (by omega), ?_⟩⟩⟩
    · have e : rmB d i = true := by
        cases z : rmB d i with
        | true => rfl
        | false => exact absurd (if10.mpr z) q
      rw [rmB, e] at k
      rintro _ rfl
      rw [e1]; exact k
    · rw [rmB, if10.mp q] at k
      rw [nI_clamp (by omega), show rp i = nI (dpl d i).length from hR.2.2.2.2.2.1 i (by omega)]
      refine pk_le 9 (dpl d i).length (fun z => ?_) (fun z => ?_)
      · rw [decide_eq_false (by omega)] at k
        rintro _ rfl
        rw [e1]; exact k
      · rw [decide_eq_true z] at k
        rintro _ rfl
        rw [e1]; exact k
theorem M_readThing (hn : tn ≤ 60) (hT : ∀ i, i < tn → tx i < 256 ∧ L i = nI (tx i) ∧ T i = nI (tx i)) {i : Nat} (hi : i < tn) (hP : PI B M d) (hs : SK B kb rs) (hk : RK M km d rn) (hR : RM (noSd d) rp) {post : Int32 → Int32 → Int32 → (Nat → Int32) → Int32 → (Nat → Int32) → (Nat → Int32) → Prop} (h0 : ∀ w, w < 100 → stp tx tn B M kb km d i = .inl w → post 0 (nI w) (nI B) rs (nI M) rn rp) (h1 : ∀ B' M' kb' km' d' rs' rn' rp', stp tx tn B M kb km d i = .inr ((B', M', kb', km', d'), i + (if tx i = 71 then 2 else 3)) → PI B' M' d' → SK B' kb' rs' → RK M' km' d' rn' → RM (noSd d') rp' → post 1 (nI (i + (if tx i = 71 then 2 else 3))) (nI B') rs' (nI M') rn' rp') : wpX7_readThing T (nI tn) (nI i) (nI B) rs (nI M) rn rp post := by
  have hB3 := hP.1.1
  have hM5 := hP.1.2.1
  have hx := (hT i hi).1
  have i1 : nI i + (1 : Int32) = nI (i + 1) := nI_1 i
  have fall : stp tx tn B M kb km d i = .inl i → wpX7_readThing_J83 T (nI tn) post (nI (i + 1)) (nI B) rs (nI M) rn rp := by
    intro e
    rintro _ rfl
    rw [nI_s1 (by omega)]
    exact h0 i (by omega) e
  refine ⟨vin (by omega) (by omega), ?_⟩
  rw [nI_clamp (by omega), (hT i hi).2.2]
  rintro _ rfl _ rfl
  rw [i1]
  have n7 : ∀ j, j < 2 ^ 30 → ¬ tx i = j → ¬ nI (tx i) = nI j := fun j hj u z => u ((nI_eq (by omega) (by omega)).mp z)
  refine ⟨fun q => ⟨fun z => ⟨fun y => ?_, fun y => ?_⟩, fun z => ?_⟩, fun q => ?_⟩
  · exact fall (by simp [stp, show ¬ tx i = 71 from fun u => q (by rw [u]; rfl), show ¬ tx i = 77 from fun u => z (by rw [u]; rfl), show ¬ tx i = 80 from fun u => y (by rw [u]; rfl)])
  · have e : tx i = 80 := (nI_eq (b := 80) (by omega) (by omega)).mp y
    rw [if_neg (show ¬ tx i = 71 by omega)] at h1
    refine pk_le M 0 (fun w => fall (by simp [stp, e, show M = 0 by omega])) (fun hM0 => M_hasRoom hP.1 hR (fun rm => ⟨fun u => absurd u (by decide), fun _ => ?_⟩) (fun rm => ⟨fun _ => fall (by simp [stp, e, rm]), fun u => absurd rfl u⟩))
    have hB1 : 0 < B := by
      rcases Nat.eq_zero_or_pos B with u | u
      · subst u; exact absurd rm (by simp [room, sm])
      · exact u
    refine M_figure hn hT (by omega) (most := M - 1) (by omega) (nI_s1 hM0) (fun f => ⟨fun u => absurd rfl u, fun _ => h0 (i + 1) (by omega) ?_⟩) (fun m f hm => ⟨fun _ => ?_, fun u => absurd u (ne9 (by omega))⟩)
    · cases g : fig tx tn (i + 1) with
      | none => simp [stp, e, hM0, rm, g]
      | some m => simp [stp, e, hM0, rm, g, show ¬ m < M from fun u => f m g (by omega)]
    · have hm1 : m < M := by omega
      obtain ⟨hi1, -, m9⟩ := fig_some f
      have J : ∀ x : Int32, (∀ b, fig tx tn (i + 2) = some b → x = nI b) → ((∀ b, fig tx tn (i + 2) = some b → ¬ b ≤ B - 1) → ∀ post' : Int32 → Prop, post' 0 → wpX7_in x.toInt64 0 ((nI B - (1 : Int32)).toInt64) post') → wpX7_readOneBreath_J47 T (nI tn) (nI B) (nI M) (fun r_8 t_place_6 t_readPage_7 => post r_8 t_place_6 (nI B) rs (nI M) rn t_readPage_7) (nI (i + 2)) rp (nI m) x := by
        intro x hx1 hx0
        by_cases g : ∃ b, fig tx tn (i + 2) = some b ∧ b ≤ B - 1
        · obtain ⟨b, g, hb⟩ := g
          have hb1 : b < B := by omega
          rw [hx1 b g]
          obtain ⟨-, -, b9⟩ := fig_some g
          have l9 := hP.1.2.2.1 b
          unfold wpX7_readOneBreath_J47
          rw [nI_s1 hB1]
          refine M_in_s (lo := 0) (hi := B - 1) rfl rfl (by omega) (by omega) (rg_nI hb (by omega)) ⟨fun u => absurd u (by decide), fun _ => ⟨vin (by omega) (by omega), ?_⟩⟩
          rw [nI_clamp (by omega), show rp b = nI (dpl d b).length from hR.2.2.2.2.2.1 b (by omega)]
          refine ⟨fun u => ?_, fun u => ?_⟩
          · have hl : (dpl d b).length < 9 := Nat.lt_of_le_of_ne l9 (fun w => u (by rw [w]; rfl))
            rintro _ rfl
            refine M_lay (wf_noSd hP.1) hR hb1 hl (fun rp' hr => ?_)
            rw [show nI (i + 2) + (1 : Int32) = nI (i + 3) from nI_1 _]
            exact h1 B M kb km (opLay d m b) rs rn rp' (by simp [stp, e, hM0, rm, f, hm1, g, hb1, hl]) (pi_L hP hm1 hb1 hl) hs hk hr
          · have hl : (dpl d b).length = 9 := (nI_eq (b := 9) (by omega) (by omega)).mp u
            exact h0 (i + 2) (by omega) (by simp [stp, e, hM0, rm, f, hm1, g, hb1, hl])
        · have gn : ∀ b, fig tx tn (i + 2) = some b → ¬ b ≤ B - 1 := fun b hb hb2 => g ⟨b, hb, hb2⟩
          refine hx0 gn _ ⟨fun _ => h0 (i + 2) (by omega) ?_, fun u => absurd rfl u⟩
          cases g2 : fig tx tn (i + 2) with
          | none => simp [stp, e, hM0, rm, f, hm1, g2]
          | some b => simp [stp, e, hM0, rm, f, hm1, g2, show ¬ b < B from fun u => gn b g2 (by omega)]
      refine pk_le tn (i + 2) (fun u => J (-9) (fun b hb => ?_) (fun _ post' hp => ?_)) (fun u => ⟨vin (by omega) (by omega), ?_⟩)
      · rw [fig_end u] at hb; cases hb
      · exact M_in_f (Or.inl (show (-9 : Int32).toInt64 < 0 by decide)) hp
      · rw [show nI (i + 1 + 1) = nI (i + 2) from rfl, nI_clamp (by omega), (hT (i + 2) u).2.2]
        refine J _ (fun b hb => ?_) (fun gn post' hp => ?_)
        · obtain ⟨-, e2, -⟩ := fig_some hb
          rw [show nI (tx (i + 2)) - (48 : Int32) = nI (tx (i + 2) - 48) from pk_sub (b := 48) (by omega), show tx (i + 2) - 48 = b by omega]
        · exact M_inT hn hT u (most := B - 1) (by omega) (by rw [nI_s1 hB1]) (fun _ => hp) (fun k hk hk2 => absurd hk2 (gn k hk))
  · have e : tx i = 77 := (nI_eq (b := 77) (by omega) (by omega)).mp z
    rw [if_neg (show ¬ tx i = 71 by omega)] at h1
    refine pk_le 5 M (fun w => ⟨fun _ => fall (by simp [stp, e, Nat.not_lt.mpr w]), fun u => absurd ((nI_eq (b := 80) (by omega) (by omega)).mp u) (by omega)⟩) (fun w => ?_)
    have J0 : ∀ j, ∀ x1 : Int32, j < 100 → stp tx tn B M kb km d i = .inl j → wpX7_readOneMan_J23 T (nI tn) (fun r_14 t_place_11 t_readMen_12 t_readMan_13 => post r_14 t_place_11 (nI B) rs t_readMen_12 t_readMan_13 rp) (nI j) (nI M) rn x1 (-9) := fun j x1 hj es => ⟨fun u => absurd rfl u, fun _ => h0 j hj es⟩
    refine M_figure hn hT (by omega) (most := 9) (by omega) rfl (fun f => ⟨fun u => absurd rfl u, fun _ => J0 (i + 1) _ (by omega) ?_⟩) (fun s f s9 => ⟨fun _ => ?_, fun u => absurd u (ne9 (by omega))⟩)
    · cases g : fig tx tn (i + 1) with
      | none => simp [stp, e, w, g]
      | some m => exact absurd (fig_some g).2.2 (f m g)
    · obtain ⟨hi1, -, -⟩ := fig_some f
      refine M_figure hn hT (by omega) (most := 3) (by omega) rfl (fun g => J0 (i + 2) _ (by omega) ?_) (fun k g k3 => ⟨fun _ => ?_, fun u => absurd u (ne9 (by omega))⟩)
      · cases g2 : fig tx tn (i + 2) with
        | none => simp [stp, e, w, f, g2]
        | some m => simp [stp, e, w, f, g2, g m g2]
      · rw [show (2 : Int32) * nI M = nI (2 * M) from pk_mul 2 M, show nI (2 * M) + (1 : Int32) = nI (2 * M + 1) from nI_1 _, nI_clamp (by omega), nI_clamp (by omega)]
        refine ⟨vin (by omega) (by omega), ?_⟩
        rintro _ rfl
        refine ⟨vin (by omega) (by omega), ?_⟩
        rintro _ rfl _ rfl
        rw [show nI M + (1 : Int32) = nI (M + 1) from nI_1 M, show i + 1 + 1 + 1 = i + 3 from rfl]
        refine h1 B (M + 1) kb (va_up km M k) (setSd d M s) _ _ _ (by simp [stp, e, w, f, g, k3]) (pi_M hP w s9) hs (fun m hm => ?_) hR
        show _ = nI (va_up _ _ _ _) ∧ _
        rcases Nat.lt_or_ge m M with u | u
        · rw [pk_un (by omega), pk_un (by omega), pk_un (by omega), pk_un (by omega), up_n _ _ (by omega), up_n _ _ (by omega)]
          exact hk m u
        · rw [show m = M by omega, pk_un (by omega), pk_us, pk_us, up_s, up_s]
          exact ⟨rfl, rfl, k3⟩
  · have e : tx i = 71 := (nI_eq (b := 71) (by omega) (by omega)).mp q
    rw [if_pos e] at h1
    refine pk_le 3 B (fun w => ⟨fun _ => ⟨fun _ => fall (by simp [stp, e, Nat.not_lt.mpr w]), fun u => absurd ((nI_eq (b := 80) (by omega) (by omega)).mp u) (by omega)⟩, fun u => absurd ((nI_eq (b := 77) (by omega) (by omega)).mp u) (by omega)⟩) (fun w => ?_)
    refine M_figure hn hT (by omega) (most := 3) (by omega) rfl (fun f => ⟨fun u => absurd rfl u, fun _ => h0 (i + 1) (by omega) ?_⟩) (fun k f k3 => ⟨fun _ => ⟨vin (by omega) (by omega), ?_⟩, fun u => absurd u (ne9 (by omega))⟩)
    · cases g : fig tx tn (i + 1) with
      | none => simp [stp, e, w, g]
      | some m => simp [stp, e, w, g, f m g]
    · rw [nI_clamp (by omega)]
      rintro _ rfl _ rfl
      rw [show nI B + (1 : Int32) = nI (B + 1) from nI_1 B]
      exact h1 (B + 1) M (va_up kb B k) km d _ _ _ (by simp [stp, e, w, f, k3]) (pi_B hP w) (sk_up hs k3) hk hR
theorem M_readL (hn : tn ≤ 60) (hT : ∀ i, i < tn → tx i < 256 ∧ L i = nI (tx i) ∧ T i = nI (tx i)) {post : Int32 → Int32 → Int32 → (Nat → Int32) → Int32 → (Nat → Int32) → (Nat → Int32) → Prop} : ∀ (f i B M : Nat) (kb km : Nat → Nat) (d : Dy) (rs rn rp : Nat → Int32), tn ≤ i + f → i < 70 → PI B M d → SK B kb rs → RK M km d rn → RM (noSd d) rp → (∀ pl B' M' kb' km' d' rs' rn' rp', (prun tx tn f (B, M, kb, km, d) i).2 = (B', M', kb', km', d') → PI B' M' d' → SK B' kb' rs' → RK M' km' d' rn' → RM (noSd d') rp' → post (prun tx tn f (B, M, kb, km, d) i).1 pl (nI B') rs' (nI M') rn' rp') → wpX7_readRegiment_L61 T (nI tn) (wpX7_readRegiment_J79 T (nI tn) post) post (f + 1) (nI i) (nI B) rs (nI M) rn rp := by
  intro f
  induction f with
  | zero =>
    intro i B M kb km d rs rn rp hf hi hP hs hk hR h
    exact ⟨fun _ => h _ B M kb km d rs rn rp rfl hP hs hk hR, fun q => absurd (nI_le (by omega) (by omega)) q⟩
  | succ f ih =>
    intro i B M kb km d rs rn rp hf hi hP hs hk hR h
    refine pk_le tn i (fun q => ?_) (fun q => M_readThing hn hT q hP hs hk hR (fun w hw e => ⟨fun z => absurd rfl z, fun _ => ?_⟩) (fun B' M' kb' km' d' rs' rn' rp' e hP' hs' hk' hR' => ⟨fun _ => ?_, fun z => absurd z (by decide)⟩))
    · rw [prun, if_pos q] at h
      exact h _ B M kb km d rs rn rp rfl hP hs hk hR
    · rw [prun, if_neg (by omega)] at h
      simp only [e] at h
      exact h _ B M kb km d rs rn rp rfl hP hs hk hR
    · rw [prun, if_neg (by omega)] at h
      simp only [e] at h
      exact ih _ B' M' kb' km' d' rs' rn' rp' (by split <;> omega) (by split <;> omega) hP' hs' hk' hR' h
theorem M_readRegiment (hn : tn ≤ 60) (hT : ∀ i, i < tn → tx i < 256 ∧ L i = nI (tx i) ∧ T i = nI (tx i)) {pl rb rm : Int32} {post : Int32 → Int32 → Int32 → (Nat → Int32) → Int32 → (Nat → Int32) → (Nat → Int32) → Prop} (h : ∀ pl B' M' kb' km' d' rs' rn' rp', (rgm tx tn).2 = (B', M', kb', km', d') → PI B' M' d' → SK B' kb' rs' → RK M' km' d' rn' → RM (noSd d') rp' → post (rgm tx tn).1 pl (nI B') rs' (nI M') rn' rp') : wpX7_readRegiment T (nI tn) pl rb rs rm rn rp post := by
  refine pk_loop (fun f i e => wpX7_readRegiment_L17 T (nI tn) 0 0 rs 0 rn (wpX7_readRegiment_J36 T (nI tn) post) post f e (nI i)) (fun i e => ∀ j, j < i → e j = 0) 47 0 rp (by omega) (fun j hj => absurd hj (Nat.not_lt_zero j)) ?_ ?_
  · intro f e he
    refine ⟨fun _ => ?_, fun q => absurd (show (47 : Int32) ≤ nI 47 by decide) q⟩
    have hR : RM (noSd dz) e := ⟨he _ (by omega), he _ (by omega), fun m hm => he _ (by omega), fun m hm => he _ (by omega), fun m hm => he _ (by omega), fun m hm => he _ (by omega), fun m hm j hj => absurd hj (Nat.not_lt_zero j)⟩
    have hk : RK 0 (fun _ => 0) dz rn := fun m hm => absurd hm (Nat.not_lt_zero m)
    refine ⟨fun z => ?_, fun z => ?_⟩
    · have z : tn = 0 := (nI_eq (b := 0) (by omega) (by omega)).mp z
      have er : rgm tx tn = (0, s0) := by unfold rgm; rw [if_pos (Or.inl z)]
      rw [er] at h
      exact h _ 0 0 _ _ dz _ _ _ rfl pi_z sk_0 hk hR
    · have z : 0 < tn := Nat.pos_of_ne_zero (fun u => z (by rw [u]; rfl))
      have hx := (hT 0 z).1
      rw [(hT 0 z).2.2]
      refine ⟨fun q => ?_, fun q => ?_⟩
      · have e66 : tx 0 = 66 := (nI_eq (b := 66) (by omega) (by omega)).mp q
        have er : rgm tx tn = prun tx tn tn s0 1 := by unfold rgm; rw [if_neg (by omega)]
        rw [er] at h
        exact ⟨_, M_readL hn hT tn 1 0 0 _ _ dz rs rn e (by omega) (by omega) pi_z sk_0 hk hR h⟩
      · have er : rgm tx tn = (0, s0) := by unfold rgm; rw [if_pos (Or.inr (fun u => q (by rw [u]; rfl)))]
        rw [er] at h
        exact h _ 0 0 _ _ dz _ _ _ rfl pi_z sk_0 hk hR
  · intro f i e hi he k
    refine ⟨fun q => absurd q (nI_ge (b := 47) hi (by omega)), fun _ => ⟨vin hi (by omega), ?_⟩⟩
    rw [nI_clamp (by omega)]
    rintro _ rfl _ rfl
    rw [show nI i + (1 : Int32) = nI (i + 1) from nI_1 i]
    refine k _ (fun j hj => ?_)
    by_cases e2 : j = i
    · subst e2; exact pk_us
    · rw [pk_un e2]; exact he j (by omega)
end TM
