set_option maxHeartbeats 4000000 in
set_option maxRecDepth 100000 in
/-- THE LAW'S LOOP -/
theorem law_loop {p : Program} {l : Launch} {e : Env} {s : State} {m : MethodId} {below : List Frame} {meth : Method} {c : Code} {dC : Nat → ClassId} {dI : Nat → Nat → Nat} {cI cZ : ClassId} {b L : Nat} {xs : Nat → Int32} {qc qm : Nat → Nat} (C0 : lw_At p s m meth c b L xs) (hts : ∀ w ∈ wsLL.flatten, w.before #[Value.ref b] s = true) (hK : va_K (dC, dI) vwCl (tys2 cI cZ) s) (hX : kvX (fun q : Nat => s.heap.size ≤ q) s s.heap) (hL : L ≤ 320) : ∀ (n i : Nat) (x3 : Int32), x3 = nI i → i ≤ L → L + 1 ≤ i + n → ∀ (H : Heap) (locs : List Loc), LSt (dC, dI) cI cZ qc qm s H locs → ∀ ls : Array Slot, lv_has ls 4 [(0, .ref b), (1, .ref (qc 0)), (2, .ref (qm 0)), (3, .int x3)] → W p l e room_1 s m #[Value.ref b] below meth c H locs 38 1616 (lw_Z below #[Value.ref b] s) (F0 m 18 ls []) := by
  intro n
  induction n with
  | zero =>
    intro i x3 h1 h2 h3
    exact absurd h3 (by omega)
  | succ n ih =>
    intro i x3 hx3 hi0 hin H locs hLS ls hl
    have C1 := C0
    obtain ⟨hx, hb, hr, hml, hown, hts0, hXs, hbl, hlocks, hgv⟩ := C0
    have hown : s.vm.findClass RL = some m.cls := hown
    have hbA : ¬ (fun q : Nat => s.heap.size ≤ q) b := Nat.not_le.mpr hbl
    have hS : va_S (fun q : Nat => s.heap.size ≤ q) s.heap H locs := by
      obtain ⟨c_text_letters, c_text_length, c_now_bags, c_now_men, c_now_bagKinds, c_now_manKinds, c_now_cells, c_trial_bags, c_trial_men, c_trial_bagKinds, c_trial_manKinds, c_trial_cells, c_past_rows, c_past_next, c_past_count, c_slots_rows, c_slots_keptBits, c_felt_men, c_felt_bags, c_felt_lengths, c_felt_played, c_felt_count, c_chance, m_thrown, m_text, m_textSize, m_place, m_bags, m_sort, m_men, m_kind, m_readBags, m_readSort, m_readMen, m_readMan, m_readPage, m_page, m_trial, m_book, m_acts, m_kept, m_isKept, m_felt, m_feltMan, m_feltBag, m_feltMany, m_feltIs, m_seed, m_routeFew, m_routeWay, m_whichMany, m_whichFirst, m_restMany, m_restFirst, m_gains, m_value, hR, hP, hD, hS⟩ := hLS
      exact hS
    refine lv_iload_n hx hb dL_law_18 rfl (lv_at hl 3 rfl) ?_
    refine lv_aload_n hx hb dL_law_19 rfl (lv_at hl 0 rfl) ?_
    refine va_slen hx hb hXs hbl hbA hS dL_law_20 ?_
    refine lv_iconst (v := 5) hx hb dL_law_21 (by decide) ?_
    refine lv_isub hx hb dL_law_22 ?_
    refine lv_icmp_gt (tgt := 1107) hx hb dL_law_23 (by decide) (fun _ => ?_) (fun hc => ?_)
    · refine lv_iconst (v := 1) hx hb dL_law_1107 (by decide) ?_
      refine va_forget (fun q hq => hS.2.2 q hq) ?_
      exact lw_ret hx hb hr hlocks dL_law_1108
    · have hi : i + 5 ≤ L := by
        rcases Nat.lt_or_ge L (i + 5) with q | q
        · refine absurd ?_ hc
          rw [hx3, Int32.lt_iff_toInt_lt, show Int32.ofNat L - (5 : Int32) = nI L - nI 5 from rfl, pk_sub_toInt (by omega) (by omega), nI_toInt (by omega)]
          omega
        · exact q
      have hn : ∀ (H : Heap) (locs : List Loc), LSt (dC, dI) cI cZ qc qm s H locs → W p l e room_1 s m #[Value.ref b] below meth c H locs 38 1616 (lw_Z below #[Value.ref b] s) (F0 m 1101 ls []) := by
        intro H locs hLS
        obtain ⟨y, ey⟩ : ∃ y : Int32, y = x3 + 5 := ⟨_, rfl⟩
        refine lv_iinc (v := y) (lv' := [(3, .int y), (0, .ref b), (1, .ref (qc 0)), (2, .ref (qm 0))]) hx hb dL_law_1101 hl (k := 3) rfl (by rw [ey]; rfl) (by decide) rfl (fun ls hl => ?_)
        refine lv_goto (tgt := 18) hx hb dL_law_1104 (by decide) ?_
        exact ih (i + 5) y (by rw [ey, hx3]; exact nI_add i 5) hi (by omega) H locs hLS ls (lv_sub hl [1, 2, 3, 0] rfl)
      have v0 : vp_in x3 L := by rw [hx3]; exact vp_in_nI (by omega) (by omega)
      refine lv_aload_n hx hb dL_law_26 rfl (lv_at hl 0 rfl) ?_
      refine lv_iload_n hx hb dL_law_27 rfl (lv_at hl 3 rfl) ?_
      refine va_sld hx hb hXs hbl hbA hS v0 dL_law_28 ?_
      refine lv_bipush (v := (31 : Int32)) hx hb dL_law_29 (by decide) ?_
      refine lv_iand hx hb dL_law_31 ?_
      refine lv_topi (fun y ey => ?_)
      clear ey
      by_cases h0 : y = (0 : Int32)
      · exact lv_tableIn (tgt := 168) hx hb dL_law_32 (by rw [h0]; decide) (by rw [h0]; decide) (by rw [h0]; rfl) (by decide) (law_write C1 hts hK hX hL hx3 hi hl hLS hn)
      by_cases h1 : y = (1 : Int32)
      · exact lv_tableIn (tgt := 191) hx hb dL_law_32 (by rw [h1]; decide) (by rw [h1]; decide) (by rw [h1]; rfl) (by decide) (law_wipe C1 hts hK hX hL hx3 hi hl hLS hn)
      by_cases h2 : y = (2 : Int32)
      · exact lv_tableIn (tgt := 204) hx hb dL_law_32 (by rw [h2]; decide) (by rw [h2]; decide) (by rw [h2]; rfl) (by decide) (law_fault C1 hts hK hX hL hx3 hi hl hLS hn)
      by_cases h3 : y = (3 : Int32)
      · exact lv_tableIn (tgt := 217) hx hb dL_law_32 (by rw [h3]; decide) (by rw [h3]; decide) (by rw [h3]; rfl) (by decide) (law_regiment C1 hts hK hX hL hx3 hi hl hLS hn)
      by_cases h4 : y = (4 : Int32)
      · exact lv_tableIn (tgt := 230) hx hb dL_law_32 (by rw [h4]; decide) (by rw [h4]; decide) (by rw [h4]; rfl) (by decide) (law_about C1 hts hK hX hL hx3 hi hl hLS hn)
      by_cases h5 : y = (5 : Int32)
      · exact lv_tableIn (tgt := 253) hx hb dL_law_32 (by rw [h5]; decide) (by rw [h5]; decide) (by rw [h5]; rfl) (by decide) (law_bag C1 hts hK hX hL hx3 hi hl hLS hn)
      by_cases h6 : y = (6 : Int32)
      · exact lv_tableIn (tgt := 286) hx hb dL_law_32 (by rw [h6]; decide) (by rw [h6]; decide) (by rw [h6]; rfl) (by decide) (law_man C1 hts hK hX hL hx3 hi hl hLS hn)
      by_cases h7 : y = (7 : Int32)
      · exact lv_tableIn (tgt := 319) hx hb dL_law_32 (by rw [h7]; decide) (by rw [h7]; decide) (by rw [h7]; rfl) (by decide) (law_put C1 hts hK hX hL hx3 hi hl hLS hn)
      by_cases h8 : y = (8 : Int32)
      · exact lv_tableIn (tgt := 352) hx hb dL_law_32 (by rw [h8]; decide) (by rw [h8]; decide) (by rw [h8]; rfl) (by decide) (law_march C1 hts hK hX hL hx3 hi hl hLS hn)
      by_cases h9 : y = (9 : Int32)
      · exact lv_tableIn (tgt := 385) hx hb dL_law_32 (by rw [h9]; decide) (by rw [h9]; decide) (by rw [h9]; rfl) (by decide) (law_claim C1 hts hK hX hL hx3 hi hl hLS hn)
      by_cases h10 : y = (10 : Int32)
      · exact lv_tableIn (tgt := 418) hx hb dL_law_32 (by rw [h10]; decide) (by rw [h10]; decide) (by rw [h10]; rfl) (by decide) (law_slit C1 hts hK hX hL hx3 hi hl hLS hn)
      by_cases h11 : y = (11 : Int32)
      · exact lv_tableIn (tgt := 441) hx hb dL_law_32 (by rw [h11]; decide) (by rw [h11]; decide) (by rw [h11]; rfl) (by decide) (law_fall C1 hts hK hX hL hx3 hi hl hLS hn)
      by_cases h12 : y = (12 : Int32)
      · exact lv_tableIn (tgt := 464) hx hb dL_law_32 (by rw [h12]; decide) (by rw [h12]; decide) (by rw [h12]; rfl) (by decide) (law_day C1 hts hK hX hL hx3 hi hl hLS hn)
      by_cases h13 : y = (13 : Int32)
      · exact lv_tableIn (tgt := 477) hx hb dL_law_32 (by rw [h13]; decide) (by rw [h13]; decide) (by rw [h13]; rfl) (by decide) (law_undo C1 hts hK hX hL hx3 hi hl hLS hn)
      by_cases h14 : y = (14 : Int32)
      · exact lv_tableIn (tgt := 490) hx hb dL_law_32 (by rw [h14]; decide) (by rw [h14]; decide) (by rw [h14]; rfl) (by decide) (law_later C1 hts hK hX hL hx3 hi hl hLS hn)
      by_cases h15 : y = (15 : Int32)
      · exact lv_tableIn (tgt := 533) hx hb dL_law_32 (by rw [h15]; decide) (by rw [h15]; decide) (by rw [h15]; rfl) (by decide) (law_holds C1 hts hK hX hL hx3 hi hl hLS hn)
      by_cases h16 : y = (16 : Int32)
      · exact lv_tableIn (tgt := 566) hx hb dL_law_32 (by rw [h16]; decide) (by rw [h16]; decide) (by rw [h16]; rfl) (by decide) (law_nth C1 hts hK hX hL hx3 hi hl hLS hn)
      by_cases h17 : y = (17 : Int32)
      · exact lv_tableIn (tgt := 599) hx hb dL_law_32 (by rw [h17]; decide) (by rw [h17]; decide) (by rw [h17]; rfl) (by decide) (law_waits C1 hts hK hX hL hx3 hi hl hLS hn)
      by_cases h18 : y = (18 : Int32)
      · exact lv_tableIn (tgt := 632) hx hb dL_law_32 (by rw [h18]; decide) (by rw [h18]; decide) (by rw [h18]; rfl) (by decide) (law_route C1 hts hK hX hL hx3 hi hl hLS hn)
      by_cases h19 : y = (19 : Int32)
      · exact lv_tableIn (tgt := 665) hx hb dL_law_32 (by rw [h19]; decide) (by rw [h19]; decide) (by rw [h19]; rfl) (by decide) (law_judge C1 hts hK hX hL hx3 hi hl hLS hn)
      by_cases h20 : y = (20 : Int32)
      · exact lv_tableIn (tgt := 728) hx hb dL_law_32 (by rw [h20]; decide) (by rw [h20]; decide) (by rw [h20]; rfl) (by decide) (law_share C1 hts hK hX hL hx3 hi hl hLS hn)
      by_cases h21 : y = (21 : Int32)
      · exact lv_tableIn (tgt := 777) hx hb dL_law_32 (by rw [h21]; decide) (by rw [h21]; decide) (by rw [h21]; rfl) (by decide) (law_feel C1 hts hK hX hL hx3 hi hl hLS hn)
      by_cases h22 : y = (22 : Int32)
      · exact lv_tableIn (tgt := 830) hx hb dL_law_32 (by rw [h22]; decide) (by rw [h22]; decide) (by rw [h22]; rfl) (by decide) (law_unfeel C1 hts hK hX hL hx3 hi hl hLS hn)
      by_cases h23 : y = (23 : Int32)
      · exact lv_tableIn (tgt := 843) hx hb dL_law_32 (by rw [h23]; decide) (by rw [h23]; decide) (by rw [h23]; rfl) (by decide) (law_which C1 hts hK hX hL hx3 hi hl hLS hn)
      by_cases h24 : y = (24 : Int32)
      · exact lv_tableIn (tgt := 866) hx hb dL_law_32 (by rw [h24]; decide) (by rw [h24]; decide) (by rw [h24]; rfl) (by decide) (law_rests C1 hts hK hX hL hx3 hi hl hLS hn)
      by_cases h25 : y = (25 : Int32)
      · exact lv_tableIn (tgt := 919) hx hb dL_law_32 (by rw [h25]; decide) (by rw [h25]; decide) (by rw [h25]; rfl) (by decide) (law_battle C1 hts hK hX hL hx3 hi hl hLS hn)
      by_cases h26 : y = (26 : Int32)
      · exact lv_tableIn (tgt := 978) hx hb dL_law_32 (by rw [h26]; decide) (by rw [h26]; decide) (by rw [h26]; rfl) (by decide) (law_seed C1 hts hK hX hL hx3 hi hl hLS hn)
      by_cases h27 : y = (27 : Int32)
      · exact lv_tableIn (tgt := 1032) hx hb dL_law_32 (by rw [h27]; decide) (by rw [h27]; decide) (by rw [h27]; rfl) (by decide) (law_years C1 hts hK hX hL hx3 hi hl hLS hn)
      by_cases h28 : y = (28 : Int32)
      · exact lv_tableIn (tgt := 1055) hx hb dL_law_32 (by rw [h28]; decide) (by rw [h28]; decide) (by rw [h28]; rfl) (by decide) (law_keep C1 hts hK hX hL hx3 hi hl hLS hn)
      by_cases h29 : y = (29 : Int32)
      · exact lv_tableIn (tgt := 1078) hx hb dL_law_32 (by rw [h29]; decide) (by rw [h29]; decide) (by rw [h29]; rfl) (by decide) (law_again C1 hts hK hX hL hx3 hi hl hLS hn)
      have n0 := lv_neT (a := 0) h0 (by decide)
      have n1 := lv_neT (a := 1) h1 (by decide)
      have n2 := lv_neT (a := 2) h2 (by decide)
      have n3 := lv_neT (a := 3) h3 (by decide)
      have n4 := lv_neT (a := 4) h4 (by decide)
      have n5 := lv_neT (a := 5) h5 (by decide)
      have n6 := lv_neT (a := 6) h6 (by decide)
      have n7 := lv_neT (a := 7) h7 (by decide)
      have n8 := lv_neT (a := 8) h8 (by decide)
      have n9 := lv_neT (a := 9) h9 (by decide)
      have n10 := lv_neT (a := 10) h10 (by decide)
      have n11 := lv_neT (a := 11) h11 (by decide)
      have n12 := lv_neT (a := 12) h12 (by decide)
      have n13 := lv_neT (a := 13) h13 (by decide)
      have n14 := lv_neT (a := 14) h14 (by decide)
      have n15 := lv_neT (a := 15) h15 (by decide)
      have n16 := lv_neT (a := 16) h16 (by decide)
      have n17 := lv_neT (a := 17) h17 (by decide)
      have n18 := lv_neT (a := 18) h18 (by decide)
      have n19 := lv_neT (a := 19) h19 (by decide)
      have n20 := lv_neT (a := 20) h20 (by decide)
      have n21 := lv_neT (a := 21) h21 (by decide)
      have n22 := lv_neT (a := 22) h22 (by decide)
      have n23 := lv_neT (a := 23) h23 (by decide)
      have n24 := lv_neT (a := 24) h24 (by decide)
      have n25 := lv_neT (a := 25) h25 (by decide)
      have n26 := lv_neT (a := 26) h26 (by decide)
      have n27 := lv_neT (a := 27) h27 (by decide)
      have n28 := lv_neT (a := 28) h28 (by decide)
      have n29 := lv_neT (a := 29) h29 (by decide)
      exact lv_tableOut (tgt := 1101) hx hb dL_law_32 (by omega) (by decide) (hn H locs hLS)
