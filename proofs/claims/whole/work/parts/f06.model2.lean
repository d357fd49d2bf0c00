/-! the reference: days, claims -/
theorem sm_add {f g : Nat → Nat} : ∀ n, sm (fun k => f k + g k) n = sm f n + sm g n
  | 0 => rfl
  | n + 1 => by rw [sm, sm, sm, sm_add n]; omega
theorem sm_one {P : Nat → Prop} [DecidablePred P] {x : Nat} : ∀ {n : Nat}, x < n → sm (fun m => if P m then (if x = m then 1 else 0) else 0) n = if P x then 1 else 0
  | 0, h => absurd h (Nat.not_lt_zero x)
  | n + 1, h => by
    rw [sm]
    rcases Nat.lt_or_ge x n with q | q
    · rw [sm_one q]
      simp only [show ¬ x = n by omega, if_false]
      split <;> split <;> rfl
    · have e : x = n := by omega
      subst e
      have z : sm (fun m => if P m then (if x = m then 1 else 0) else 0) x = sm (fun _ => 0) x := sm_cong (fun k hk => by simp only [show ¬ x = k by omega, if_false]; split <;> rfl)
      have z2 : ∀ n, sm (fun _ => 0) n = 0 := by intro n; induction n with
        | zero => rfl
        | succ n ih => rw [sm, ih]
      rw [z, z2]; simp
theorem cnt_bits {f M : Nat} {L : List Nat} (h : ∀ x, x ∈ L → x < M) : sm (fun m => if bitN f m = 1 then cnt m L else 0) M = ls (bitN f) L := by
  have key : ∀ n, n ≤ L.length → sm (fun m => if bitN f m = 1 then sm (fun i => if L.getD i 0 = m then 1 else 0) n else 0) M = sm (fun i => bitN f (L.getD i 0)) n := by
    intro n
    induction n with
    | zero =>
      intro _
      have z2 : ∀ n, sm (fun m => if bitN f m = 1 then 0 else 0) n = 0 := by
        intro n
        induction n with
        | zero => rfl
        | succ n ih => rw [sm, ih]; split <;> rfl
      exact z2 M
    | succ n ih =>
      intro hn
      have hx := h _ (getD_mem (show n < L.length by omega))
      have e : sm (fun m => if bitN f m = 1 then sm (fun i => if L.getD i 0 = m then 1 else 0) (n + 1) else 0) M = sm (fun m => (if bitN f m = 1 then sm (fun i => if L.getD i 0 = m then 1 else 0) n else 0) + (if bitN f m = 1 then (if L.getD n 0 = m then 1 else 0) else 0)) M := sm_cong (fun k _ => by simp only [sm]; split <;> simp)
      rw [e, sm_add, ih (by omega), sm_one (P := fun m => bitN f m = 1) hx, sm]
      have := bitN_le f (L.getD n 0)
      split <;> omega
  exact key L.length (Nat.le_refl _)
section MD
variable {B M : Nat} {d : Dy} {p : Nat → Int32} {kb km : Nat → Nat} {sort kind : Nat → Int32}
theorem sm3 {g : Nat → Nat} (hB : B ≤ 3) (z : ∀ b, B ≤ b → g b = 0) : g 0 + g 1 + g 2 = sm g B := by
  rcases (show B = 0 ∨ B = 1 ∨ B = 2 ∨ B = 3 by omega) with rfl | rfl | rfl | rfl
  · simp [sm, z 0, z 1, z 2]
  · simp [sm, z 1, z 2]
  · simp [sm, z 2]
  · simp [sm]
theorem left_eq (hW : WF B M d) (f : Nat) : sm (fun m => if bitN f m = 1 then all3 d m else 0) M = sm (fun b => ls (bitN f) (dpl d b)) B := by
  have hB := hW.1
  have e : sm (fun m => if bitN f m = 1 then all3 d m else 0) M = sm (fun m => (if bitN f m = 1 then cnt m (dpl d 0) else 0) + (if bitN f m = 1 then cnt m (dpl d 1) else 0) + (if bitN f m = 1 then cnt m (dpl d 2) else 0)) M := sm_cong (fun k _ => by unfold all3; split <;> rfl)
  rw [e, sm_add, sm_add, cnt_bits (fun x hx => hW.2.2.2.1 0 x hx), cnt_bits (fun x hx => hW.2.2.2.1 1 x hx), cnt_bits (fun x hx => hW.2.2.2.1 2 x hx)]
  exact sm3 (g := fun b => ls (bitN f) (dpl d b)) hB (fun b hb => by rw [hW.2.2.2.2.1 b hb]; rfl)
theorem M_left (hW : WF B M d) (hR : RM d p) {post : Int32 → Prop} (h : post (nI (left B d))) : wpX7_left (nI M) p post := by
  refine M_leftR hW hR ?_
  rw [left_eq hW]; exact h
theorem M_sunday (hW : WF B M d) (hR : RM d p) (hK : SK M km kind) {post : (Nat → Int32) → Prop} (h : ∀ p', RM (foldN (sun1 km) M d) p' → post p') : wpX7_sunday (nI M) kind p post := by
  have hM := hW.2.1
  refine pk_loop (fun fu i e => wpX7_sunday_L2 (nI M) kind post fu e (nI i)) (fun i e => RM (foldN (sun1 km) i d) e) M 0 p (by omega) hR ?_ ?_
  · intro fu e he
    exact ⟨fun _ => h e he, fun q => absurd (Int32.le_refl _) q⟩
  · intro fu i e hi he k
    have w : WF B M (foldN (sun1 km) i d) := WF.kFold (fun n e h => h.kSun1) hW i
    have h99 := w.2.2.2.2.2.2 i
    have hf := w.fl
    have h3 := (hK i hi).2
    have hl9 : ∀ q, (dpl (foldN (sun1 km) i d) q).length ≤ 9 := fun q => w.2.2.1 q
    have step : ∀ c', RM (sun1 km i (foldN (sun1 km) i d)) c' → wpX7_sunday_J111 (nI M) kind (wpX7_sunday_L2 (nI M) kind post fu) post c' (nI i) := by
      intro c' hc
      rintro _ rfl
      rw [show nI i + (1 : Int32) = nI (i + 1) from nI_1 i]
      exact k c' hc
    obtain ⟨D, hDe⟩ : ∃ D, D = foldN (sun1 km) i d := ⟨_, rfl⟩
    rw [← hDe] at he w h99 step hf hl9
    refine ⟨fun q => absurd q (nI_ge hi (by omega)), fun _ => ?_⟩
    rw [he.2.1]
    refine M_has (by omega) (by omega) ?_
    unfold sun1 at step
    by_cases f : bitN (dfl D) i = 1
    · rw [f]
      simp only [f, if_true] at step
      exact ⟨fun _ => step e he, fun q => absurd q (by decide)⟩
    · rw [bit0 f]
      rw [if_neg f] at step
      refine ⟨fun q => absurd rfl q, fun _ => ?_⟩
      rw [show (30 : Int32) + nI i = nI (30 + i) from nI_add 30 i, nI_clamp (n := 30 + i) (by omega), nI_clamp (n := i) (by omega), he.2.2.1 i (by omega), (hK i hi).1]
      refine ⟨vin (by omega) (by omega), vin (by omega) (by omega), ?_⟩
      have go : ∀ z : Nat, z ≤ 1 → z = (if km i = 1 then 1 else 0) → wpX7_sunday_J42 (nI M) kind (wpX7_sunday_L2 (nI M) kind post fu) post e (nI i) (nI (z + 1)) (nI (dsd D i)) := by
        intro z hz ez
        rw [← ez] at step
        have j67 : ∀ (sp : Nat) (v : Nat), v ≤ dsd D i → (sp = 0 ∨ sp = 1) → v = sp → (sp = 1 → z < dsd D i) → (sp = 0 → ¬ z < dsd D i) → wpX7_sunday_J67 (nI M) kind (wpX7_sunday_L2 (nI M) kind post fu) post e (nI i) (nI sp) (nI v) (nI (dsd D i)) (nI (30 + i)) := by
          intro sp v hv hsp evs hs1 hs0
          unfold wpX7_sunday_J67
          rw [nI_clamp (n := 30 + i) (by omega), pk_sub hv]
          refine ⟨vin (by omega) (by omega), ?_⟩
          rintro _ rfl
          rw [show (35 : Int32) + nI i = nI (35 + i) from nI_add 35 i, nI_clamp (n := 35 + i) (by omega), nI_clamp (n := i) (by omega), pk_un (by omega), he.2.2.2.1 i (by omega), (hK i hi).1]
          have hE := he.setSd hl9 (m := i) (by omega) (dsd D i - v)
          refine ⟨vin (by omega) (by omega), fun q => ?_, fun q => ?_⟩
          · have e1 : sp = 1 := by
              rcases hsp with y | y
              · exact absurd (by rw [y]; rfl) q
              · exact y
            have hz2 := hs1 e1
            rw [if_pos hz2] at step
            unfold wpX7_sunday_J90 wpX7_sunday_J109
            rw [nI_clamp (n := 35 + i) (by omega)]
            refine ⟨vin (by omega) (by omega), ?_⟩
            rintro _ rfl
            refine step _ ?_
            rw [show dsd D i - 1 = dsd D i - v by omega]
            refine RM.kept (fun q => hl9 q) hE (fun j hj => ?_)
            by_cases y : j = 35 + i
            · subst y; rw [pk_us, pk_un (by omega), he.2.2.2.1 i (by omega)]; exact Int32.add_zero _
            · rw [pk_un y]
          · have e0 : sp = 0 := by
              rcases hsp with y | y
              · exact y
              · rw [y] at q; exact absurd q (by decide)
            have hz2 := hs0 e0
            rw [if_neg hz2] at step
            have same : ∀ x : Int32, x = (if km i = 3 then 0 else if km i = 2 then 2 else 1) → wpX7_sunday_J109 (nI M) kind (wpX7_sunday_L2 (nI M) kind post fu) post (upd e (30 + i) (nI (dsd D i - v))) (nI i) x (dgr D i) (nI (35 + i)) := by
              intro x ex
              unfold wpX7_sunday_J109
              rw [nI_clamp (n := 35 + i) (by omega)]
              refine ⟨vin (by omega) (by omega), ?_⟩
              rintro _ rfl
              refine step _ ?_
              rw [← ex]
              refine RM.kept (d := setGr D i (dgr D i + x)) (fun q => hl9 q) (he.setGr hl9 (m := i) (by omega) (dgr D i + x)) (fun j hj => ?_)
              by_cases y : j = 35 + i
              · subst y; rw [pk_us, pk_us]
              · rw [pk_un y, pk_un y]
                by_cases y2 : j = 30 + i
                · subst y2; rw [pk_us, he.2.2.1 i (by omega)]; congr 1; omega
                · rw [pk_un y2]
            refine ⟨vin (by omega) (by omega), fun q => ⟨vin (by omega) (by omega), fun q2 => ?_, fun q2 => ?_⟩, fun q => ?_⟩
            · have e3 : ¬ km i = 3 := fun y => q (by rw [y]; rfl)
              have e2 : ¬ km i = 2 := fun y => q2 (by rw [y]; rfl)
              exact same 1 (by rw [if_neg e3, if_neg e2])
            · have e3 : ¬ km i = 3 := fun y => q (by rw [y]; rfl)
              have e2 : km i = 2 := (nI_eq (b := 2) (by omega) (by omega)).mp q2
              exact same 2 (by rw [if_neg e3, if_pos e2])
            · have e3 : km i = 3 := (nI_eq (b := 3) (by omega) (by omega)).mp q
              exact same 0 (by rw [if_pos e3])
        have j50 : ∀ sp : Nat, (sp = 0 ∨ sp = 1) → (sp = 1 → z < dsd D i) → (sp = 0 → ¬ z < dsd D i) → wpX7_sunday_J50 (nI M) kind (wpX7_sunday_L2 (nI M) kind post fu) post e (nI i) (nI sp) := by
          intro sp hsp hs1 hs0
          unfold wpX7_sunday_J50
          rw [show (30 : Int32) + nI i = nI (30 + i) from nI_add 30 i, nI_clamp (n := 30 + i) (by omega), he.2.2.1 i (by omega)]
          refine ⟨vin (by omega) (by omega), fun q => ?_, fun q => ?_⟩
          · have e0 : sp = 0 := by
              rcases hsp with y | y
              · exact y
              · rw [y] at q; exact absurd q (by decide)
            exact j67 sp 0 (by omega) hsp e0.symm hs1 hs0
          · have e1 : sp = 1 := by
              rcases hsp with y | y
              · exact absurd (by rw [y]; rfl) q
              · exact y
            have := hs1 e1
            exact j67 sp 1 (by omega) hsp e1.symm hs1 hs0
        refine pk_lt (dsd D i) (z + 1) (fun q => ?_) (fun q => ?_)
        · exact j50 0 (Or.inl rfl) (fun y => by omega) (fun _ => by omega)
        · exact j50 1 (Or.inr rfl) (fun y => by omega) (fun y => by omega)
      refine ⟨fun q => ?_, fun q => ?_⟩
      · have e1 : ¬ km i = 1 := fun z => q (by rw [z]; rfl)
        exact go 0 (by omega) (by rw [if_neg e1])
      · have e1 : km i = 1 := (nI_eq (b := 1) (by omega) (by omega)).mp q
        exact go 1 (by omega) (by rw [if_pos e1])
theorem M_goDay (hW : WF B M d) (hR : RM d p) (hKb : SK B kb sort) (hKm : SK M km kind) {post : Int32 → (Nat → Int32) → Prop} (h : ∀ p', RM (opDay kb km B M d) p' → post (nI (leak kb B d).1) p') : wpX7_goDay (nI B) sort (nI M) kind p post := by
  have hB := hW.1
  have wl := hW.kLeak (kb := kb) B
  have h60 : ∀ c', RM (sunday km M (leak kb B d).2) c' → wpX7_goDay_J60 (nI B) sort (nI M) kind post c' (nI (leak kb B d).1) := by
    intro c' hc
    rintro _ rfl
    rw [hc.1]
    exact h _ (hc.setDy (fun q => wl.kSunday.2.2.1 q) _)
  have h43 : ∀ c', RM (leak kb B d).2 c' → wpX7_goDay_J43 (nI B) sort (nI M) kind post c' (nI (leak kb B d).1) := by
    intro c' hc
    unfold wpX7_goDay_J43
    rw [hc.1]
    refine ⟨fun q => ?_, fun q => ?_⟩
    · have e : sunday km M (leak kb B d).2 = (leak kb B d).2 := if_neg q
      rw [e] at h60; exact h60 c' hc
    · have e : sunday km M (leak kb B d).2 = foldN (sun1 km) M (leak kb B d).2 := if_pos q
      rw [e] at h60
      exact M_sunday wl hc hKm h60
  refine pk_loop (fun fu i (e : Nat → Int32) => wpX7_goDay_L4 (nI B) sort (nI M) kind (wpX7_goDay_J43 (nI B) sort (nI M) kind post) post fu e (nI (leak kb i d).1) (nI i)) (fun i e => RM (leak kb i d).2 e) B 0 p (by omega) hR ?_ ?_
  · intro fu e he
    exact ⟨fun _ => h43 e he, fun q => absurd (Int32.le_refl _) q⟩
  · intro fu i e hi he k
    have w := hW.kLeak (kb := kb) i
    have h9 := w.2.2.1 i
    have h3 := (hKb i hi).2
    have hle := leak_le (kb := kb) (d := d) i
    rw [leak] at k
    have same : ¬ (kb i = 2 ∧ 0 < (dpl (leak kb i d).2 i).length) → wpX7_goDay_J37 (nI B) sort (nI M) kind (wpX7_goDay_L4 (nI B) sort (nI M) kind (wpX7_goDay_J43 (nI B) sort (nI M) kind post) post fu) post e (nI (leak kb i d).1) (nI i) := by
      intro q
      rw [if_neg q] at k
      rintro _ rfl
      rw [show nI i + (1 : Int32) = nI (i + 1) from nI_1 i]
      exact k e he
    refine ⟨fun q => absurd q (nI_ge hi (by omega)), fun _ => ⟨vin (by omega) (by omega), ?_⟩⟩
    rw [nI_clamp (by omega), (hKb i hi).1, he.2.2.2.2.2.1 i (by omega)]
    refine ⟨fun q => same (fun z => q (by rw [z.1]; rfl)), fun q => ⟨vin (by omega) (by omega), ?_⟩⟩
    have e2 : kb i = 2 := (nI_eq (b := 2) (by omega) (by omega)).mp q
    refine pk_le (dpl (leak kb i d).2 i).length 0 (fun z => same (fun y => by omega)) (fun z => ?_)
    refine M_lose (i := 0) w he z (fun c' hc => ?_)
    rw [if_pos ⟨e2, z⟩] at k
    rintro _ rfl _ rfl
    rw [show nI i + (1 : Int32) = nI (i + 1) from nI_1 i, show nI (leak kb i d).1 + (1 : Int32) = nI ((leak kb i d).1 + 1) from nI_1 _]
    exact k c' hc
theorem M_placeToClaim (hW : WF B M d) (hR : RM d p) (hK : SK B kb sort) {m b : Nat} (hm : m < M) (hb : b < B) {post : Int32 → Prop} (h : post (if bitN (dfl d) m = 1 ∨ kb b = 3 then -9 else match his kb d m b with | some k => nI (plc (kb b) (dpl d b).length k) | none => -9)) : wpX7_placeToClaim sort p (nI m) (nI b) post := by
  have hB := hW.1
  have hM := hW.2.1
  have h9 := hW.2.2.1 b
  have h3 := (hK b hb).2
  have hf := hW.fl
  have h58 : ∀ v : Int32, v = (match his kb d m b with | some k => nI (plc (kb b) (dpl d b).length k) | none => -9) → wpX7_placeToClaim_J58 sort p (nI m) (nI b) post v := by
    intro v ev
    unfold wpX7_placeToClaim_J58
    rw [hR.2.1]
    refine M_has (by omega) (by omega) ?_
    by_cases f : bitN (dfl d) m = 1
    · rw [if_pos (Or.inl f)] at h
      rw [f]
      exact ⟨fun _ => h, fun q => absurd q (by decide)⟩
    · rw [bit0 f]
      refine ⟨fun q => absurd rfl q, fun _ => ?_⟩
      rw [nI_clamp (by omega), (hK b hb).1]
      refine ⟨vin (by omega) (by omega), fun q => ?_, fun q => ?_⟩
      · have e3 : ¬ kb b = 3 := fun z => q (by rw [z]; rfl)
        rw [if_neg (by omega)] at h
        rw [ev]; exact h
      · have e3 : kb b = 3 := (nI_eq (b := 3) (by omega) (by omega)).mp q
        rw [if_pos (Or.inr e3)] at h; exact h
  unfold wpX7_placeToClaim
  rw [nI_clamp (by omega), hR.2.2.2.2.2.1 b (by omega), sub1]
  refine ⟨vin (by omega) (by omega), ?_⟩
  rintro _ rfl
  refine ⟨_, pk_loopD (fun f i (s : Int32) => wpX7_placeToClaim_L11 sort p (nI m) (nI b) (wpX7_placeToClaim_J58 sort p (nI m) (nI b) post) post f s (nI i + (-1 : Int32))) (fun i s => i ≤ (dpl d b).length ∧ (((∀ j, i ≤ j → j < (dpl d b).length → ¬ (dpl d b).getD (plc (kb b) (dpl d b).length j) 0 = m) ∧ s = -9) ∨ ∃ j, i ≤ j ∧ j < (dpl d b).length ∧ (dpl d b).getD (plc (kb b) (dpl d b).length j) 0 = m ∧ (∀ j', i ≤ j' → j' < j → ¬ (dpl d b).getD (plc (kb b) (dpl d b).length j') 0 = m) ∧ s = nI (plc (kb b) (dpl d b).length j))) ?_ ?_ (dpl d b).length (-9) ⟨Nat.le_refl _, Or.inl ⟨fun j h1 h2 => absurd h2 (by omega), rfl⟩⟩⟩
  · intro f s hs
    refine ⟨fun _ => h58 s ?_, fun q => absurd (by decide) q⟩
    rcases hs.2 with ⟨h1, h2⟩ | ⟨j, h1, h2, h4, h5, h6⟩
    · have hn : his kb d m b = none := fnd_of_none (fun j hj => by simpa using h1 j (by omega) hj)
      rw [hn]; exact h2
    · have hs2 : his kb d m b = some j := fnd_of (by simpa using h4) (fun j' hj => by simpa using h5 j' (by omega) hj) h2
      rw [hs2]; exact h6
  · intro f i s hs k
    rw [nI_m1 (by omega), Nat.add_sub_cancel]
    unfold wpX7_placeToClaim_L11
    have hil : i < (dpl d b).length := by omega
    have hp := plc_lt (kind := kb b) hil
    have ho := hW.own hp
    refine ⟨fun q => absurd q (nI_pos (by omega)), fun _ => ⟨vin (by omega) (by omega), vin (by omega) (by omega), ?_⟩⟩
    rw [nI_clamp (by omega), hR.2.2.2.2.2.1 b (by omega), (hK b hb).1]
    refine M_placeOf (by omega) hil (M_breath hW hR hp ⟨fun q => ?_, fun q => ?_⟩)
    · rintro _ rfl
      have hne : ¬ (dpl d b).getD (plc (kb b) (dpl d b).length i) 0 = m := fun z => q (by rw [z])
      refine k s ⟨by omega, ?_⟩
      rcases hs.2 with ⟨h1, h2⟩ | ⟨j, h1, h2, h4, h5, h6⟩
      · refine Or.inl ⟨fun j hj hjl => ?_, h2⟩
        rcases Nat.lt_or_ge i j with z | z
        · exact h1 j (by omega) hjl
        · rw [show j = i by omega]; exact hne
      · refine Or.inr ⟨j, by omega, h2, h4, fun j' hj hjl => ?_, h6⟩
        rcases Nat.lt_or_ge i j' with z | z
        · exact h5 j' (by omega) hjl
        · rw [show j' = i by omega]; exact hne
    · rintro _ rfl
      have he : (dpl d b).getD (plc (kb b) (dpl d b).length i) 0 = m := (nI_eq (by omega) (by omega)).mp q
      exact k _ ⟨by omega, Or.inr ⟨i, Nat.le_refl i, hil, he, fun j' h1 h2 => by omega, rfl⟩⟩
theorem M_goClaim (hW : WF B M d) (hR : RM d p) (hK : SK B kb sort) {m b : Nat} (hm : m < M) (hb : b < B) {post : Int32 → (Nat → Int32) → Prop} (h0 : (aClaim kb B M d (nI m) (nI b)).2 = none → post 0 p) (h1 : ∀ d', (aClaim kb B M d (nI m) (nI b)).2 = some d' → ∀ p', RM d' p' → post 1 p') : wpX7_goClaim sort p (nI m) (nI b) post := by
  have hB := hW.1
  have hM := hW.2.1
  have h9 := hW.2.2.1 b
  have h99 := hW.2.2.2.2.2.2 m
  simp only [aClaim, ix_nI (show M < 2 ^ 31 by omega) hm, ix_nI (show B < 2 ^ 31 by omega) hb] at h0 h1
  refine M_placeToClaim hW hR hK hm hb ?_
  by_cases f : bitN (dfl d) m = 1 ∨ kb b = 3
  · rw [if_pos f] at h0
    rw [if_pos f]
    exact ⟨fun q => absurd rfl q, fun _ => h0 rfl⟩
  · rw [if_neg f] at h0 h1 ⊢
    cases hh : his kb d m b with
    | none =>
      rw [hh] at h0
      exact ⟨fun q => absurd rfl q, fun _ => h0 rfl⟩
    | some k =>
      rw [hh] at h1
      have hk := (fnd_lt hh).1
      have hp := plc_lt (kind := kb b) hk
      refine ⟨fun _ => M_takeOut hW hR hp (fun p' hp' => ?_), fun q => ?_⟩
      · have w1 := hW.kLift hp
        have h99' : dsd (opLift d b (plc (kb b) (dpl d b).length k)) m = dsd d m := rfl
        rw [show (30 : Int32) + nI m = nI (30 + m) from nI_add 30 m, nI_clamp (by omega), hp'.2.2.1 m (by omega), h99']
        refine ⟨vin (by omega) (by omega), vin (by omega) (by omega), ?_⟩
        have fin : ∀ v : Nat, v = min 99 (dsd d m + 1) → post 1 (upd p' (30 + m) (nI v)) := fun v ev => h1 _ rfl _ (by rw [ev]; exact hp'.setSd (fun q => w1.2.2.1 q) (by omega) _)
        refine pk_le 99 (dsd d m) (fun z => ?_) (fun z => ?_)
        · unfold wpX7_goClaim_J48
          rw [nI_clamp (by omega), show nI (dsd d m) + (0 : Int32) = nI (dsd d m) from Int32.add_zero _]
          refine ⟨vin (by omega) (by omega), ?_⟩
          rintro _ rfl
          exact fin _ (by omega)
        · unfold wpX7_goClaim_J48
          rw [nI_clamp (by omega), show nI (dsd d m) + (1 : Int32) = nI (dsd d m + 1) from nI_1 _]
          refine ⟨vin (by omega) (by omega), ?_⟩
          rintro _ rfl
          exact fin _ (by omega)
      · have q : nI (plc (kb b) (dpl d b).length k) = -9 := q
        have : (nI (plc (kb b) (dpl d b).length k)).toInt = -9 := by rw [q]; decide
        rw [nI_toInt (by omega)] at this
        omega
end MD
