theorem lt_sub5 {L i : Nat} (h : L < i + 5) (hL : L ≤ 2560) (hi : i ≤ 2560) : Int32.ofNat L - 5 < nI i := by
  have e : (nI L - nI 5).toInt = (L : Int) - 5 := pk_sub_toInt (by omega) (by omega)
  exact Int32.lt_iff_toInt_lt.mpr (by
    show (nI L - nI 5).toInt < (nI i).toInt
    rw [e, nI_toInt (by omega)]
    omega)
set_option maxRecDepth 100000 in
set_option maxHeartbeats 4000000 in
theorem lw_loop {p : Program} {l : Launch} {e : Env} {s : State} {m : MethodId} {below : List Frame} {meth : Method} {c : Code} {G : va_G} {cy cyO : ClassId} {ac am : Nat → Nat} {b L : Nat} {xs : Nat → Int32} (X : CallFix p m c code 4 s #[Value.ref b] wsL_law RL) (hK : va_K G vwCl (tys_ cy cyO) s) (hN : nw s) (hX : va_X b L xs s s.heap) (hbl : b < s.heap.size) (hL : L ≤ 2560) (hr : meth.sig.returnType = ret) (hlocks : meth.locks = false) : ∀ (d k : Nat), L < 5 * (k + d) → k ≤ 512 → ∀ (n : Nat) (zc : SC) (zm : SM) (H : Heap) (locs : List Loc) (ls : Array Slot), n ≤ k → lw_I G cy cyO ac am (fun q : Nat => s.heap.size ≤ q) s b (5 * k) n zc zm H locs ls → W p l e room_1 s m #[Value.ref b] below meth c H locs (18 + k) (5580 + 9 * k) (lw_Z below #[Value.ref b] s) (F0 m 18 ls []) := by
  obtain ⟨hx, hb, hml, hown, hts⟩ := id X
  have hbA : ¬ (fun q : Nat => s.heap.size ≤ q) b := Nat.not_le.mpr hbl
  intro d
  induction d with
  | zero =>
    intro k hd hk n zc zm H locs ls hn hI
    obtain ⟨hR, hPc, hDc, hPm, hDm, hap, hS, hl⟩ := hI
    refine lv_iload_n hx hb dL_law_18 rfl (lv_at hl 3 rfl) ?_
    refine lv_aload_n hx hb dL_law_19 rfl (lv_at hl 0 rfl) ?_
    refine va_slen hx hb hX hbl hbA hS dL_law_20 ?_
    refine lv_iconst (v := 5) hx hb dL_law_21 (by decide) ?_
    refine lv_isub hx hb dL_law_22 ?_
    refine lv_icmp_gt (tgt := 478) hx hb dL_law_23 (by decide) (fun c1 => ?_) (fun c1 => absurd ?_ c1)
    · refine lv_iconst (v := 1) hx hb dL_law_478 (by decide) ?_
      refine va_forget (fun q hq => hS.2.2 q hq) ?_
      refine W.widen (k := 600000) (n := 7302250) (by omega) (by omega) ?_
      exact lw_ret hx hb hr hlocks dL_law_479
    · exact lt_sub5 (by omega) (by omega) (by omega)
  | succ d ih =>
    intro k hd hk n zc zm H locs ls hn hI
    obtain ⟨hR, hPc, hDc, hPm, hDm, hap, hS, hl⟩ := id hI
    refine lv_iload_n hx hb dL_law_18 rfl (lv_at hl 3 rfl) ?_
    refine lv_aload_n hx hb dL_law_19 rfl (lv_at hl 0 rfl) ?_
    refine va_slen hx hb hX hbl hbA hS dL_law_20 ?_
    refine lv_iconst (v := 5) hx hb dL_law_21 (by decide) ?_
    refine lv_isub hx hb dL_law_22 ?_
    refine lv_icmp_gt (tgt := 478) hx hb dL_law_23 (by decide) (fun c1 => ?_) (fun c1 => ?_)
    · refine lv_iconst (v := 1) hx hb dL_law_478 (by decide) ?_
      refine va_forget (fun q hq => hS.2.2 q hq) ?_
      refine W.widen (k := 600000) (n := 7302250) (by omega) (by omega) ?_
      exact lw_ret hx hb hr hlocks dL_law_479
    have hk5 : 5 * k + 5 ≤ L := by
      rcases Nat.lt_or_ge L (5 * k + 5) with q | q
      · exact absurd (lt_sub5 q (by omega) (by omega)) c1
      · exact q
    have next : ∀ (n : Nat) (zc : SC) (zm : SM) (H : Heap) (locs : List Loc) (ls : Array Slot), n ≤ k + 1 → lw_I G cy cyO ac am (fun q : Nat => s.heap.size ≤ q) s b (5 * k) n zc zm H locs ls → W p l e room_1 s m #[Value.ref b] below meth c H locs (18 + (k + 1)) (5580 + 9 * (k + 1)) (lw_Z below #[Value.ref b] s) (F0 m 472 ls []) := by
      intro n zc zm H locs ls hn hI
      obtain ⟨hR, hPc, hDc, hPm, hDm, hap, hS, hl⟩ := hI
      refine lv_iinc (v := nI (5 * k) + 5) (lv' := [(3, .int (nI (5 * k) + 5)), (0, .ref b), (1, .ref (ac 0)), (2, .ref (am 0))]) hx hb dL_law_472 hl (k := 3) rfl rfl (by decide) rfl (fun ls hl => ?_)
      refine lv_goto (tgt := 18) hx hb dL_law_475 (by decide) ?_
      rw [ix_add (5 * k) 5 5 rfl] at hl
      exact ih (k + 1) (by omega) (by omega) n zc zm H locs ls hn ⟨hR, hPc, hDc, hPm, hDm, hap, hS, lv_sub hl [1, 2, 3, 0] rfl⟩
    have h0 : vp_in (nI (5 * k)) L := vp_in_nI (by omega) (by omega)
    refine lv_aload_n hx hb dL_law_26 rfl (lv_at hl 0 rfl) ?_
    refine lv_iload_n hx hb dL_law_27 rfl (lv_at hl 3 rfl) ?_
    refine va_sld hx hb hX hbl hbA hS h0 dL_law_28 ?_
    refine lv_bipush (v := 15) hx hb dL_law_29 (by decide) ?_
    refine lv_iand hx hb dL_law_31 ?_
    refine lv_topi (fun x0 ex0 => ?_)
    by_cases c10 : x0 = 0
    · refine lv_tableIn (off := 64) (tgt := 96) hx hb dL_law_32 (by rw [c10]; decide) (by rw [c10]; decide) (by rw [c10]; rfl) (by decide) ?_
      exact lw_section X hK hN hX hbl hL hk5 next hn hI
    by_cases c11 : x0 = 1
    · refine lv_tableIn (off := 117) (tgt := 149) hx hb dL_law_32 (by rw [c11]; decide) (by rw [c11]; decide) (by rw [c11]; rfl) (by decide) ?_
      exact lw_share X hK hN hX hbl hL hk5 next hn hI
    by_cases c12 : x0 = 2
    · refine lv_tableIn (off := 150) (tgt := 182) hx hb dL_law_32 (by rw [c12]; decide) (by rw [c12]; decide) (by rw [c12]; rfl) (by decide) ?_
      exact lw_remove X hK hN hX hbl hL hk5 next hn hI
    by_cases c13 : x0 = 3
    · refine lv_tableIn (off := 173) (tgt := 205) hx hb dL_law_32 (by rw [c13]; decide) (by rw [c13]; decide) (by rw [c13]; rfl) (by decide) ?_
      exact lw_same X hK hN hX hbl hL hk5 next hn hI
    by_cases c14 : x0 = 4
    · refine lv_tableIn (off := 206) (tgt := 238) hx hb dL_law_32 (by rw [c14]; decide) (by rw [c14]; decide) (by rw [c14]; rfl) (by decide) ?_
      exact lw_lead X hK hN hX hbl hL hk5 next hn hI
    by_cases c15 : x0 = 5
    · refine lv_tableIn (off := 239) (tgt := 271) hx hb dL_law_32 (by rw [c15]; decide) (by rw [c15]; decide) (by rw [c15]; rfl) (by decide) ?_
      exact lw_unlead X hK hN hX hbl hL hk5 next hn hI
    by_cases c16 : x0 = 6
    · refine lv_tableIn (off := 262) (tgt := 294) hx hb dL_law_32 (by rw [c16]; decide) (by rw [c16]; decide) (by rw [c16]; rfl) (by decide) ?_
      exact lw_run X hK hN hX hbl hL hk5 next hn hI
    by_cases c17 : x0 = 7
    · refine lv_tableIn (off := 305) (tgt := 337) hx hb dL_law_32 (by rw [c17]; decide) (by rw [c17]; decide) (by rw [c17]; rfl) (by decide) ?_
      exact lw_shunt X hK hN hX hbl hL hk5 next hn hI
    by_cases c18 : x0 = 8
    · refine lv_tableIn (off := 348) (tgt := 380) hx hb dL_law_32 (by rw [c18]; decide) (by rw [c18]; decide) (by rw [c18]; rfl) (by decide) ?_
      exact lw_passed X hK hN hX hbl hL hk5 next hn hI
    by_cases c19 : x0 = 9
    · refine lv_tableIn (off := 361) (tgt := 393) hx hb dL_law_32 (by rw [c19]; decide) (by rw [c19]; decide) (by rw [c19]; rfl) (by decide) ?_
      exact lw_trace X hK hN hX hbl hL hk5 next hn hI
    by_cases c20 : x0 = 10
    · refine lv_tableIn (off := 384) (tgt := 416) hx hb dL_law_32 (by rw [c20]; decide) (by rw [c20]; decide) (by rw [c20]; rfl) (by decide) ?_
      exact lw_told X hK hN hX hbl hL hk5 next hn hI
    by_cases c21 : x0 = 11
    · refine lv_tableIn (off := 417) (tgt := 449) hx hb dL_law_32 (by rw [c21]; decide) (by rw [c21]; decide) (by rw [c21]; rfl) (by decide) ?_
      exact lw_count X hK hN hX hbl hL hk5 next hn hI
    refine lv_tableOut (tgt := 472) hx hb dL_law_32 (by have g0 := lv_neT c10 (a := 0) rfl; have g1 := lv_neT c11 (a := 1) rfl; have g2 := lv_neT c12 (a := 2) rfl; have g3 := lv_neT c13 (a := 3) rfl; have g4 := lv_neT c14 (a := 4) rfl; have g5 := lv_neT c15 (a := 5) rfl; have g6 := lv_neT c16 (a := 6) rfl; have g7 := lv_neT c17 (a := 7) rfl; have g8 := lv_neT c18 (a := 8) rfl; have g9 := lv_neT c19 (a := 9) rfl; have g10 := lv_neT c20 (a := 10) rfl; have g11 := lv_neT c21 (a := 11) rfl; omega) (by decide) ?_
    refine W.widen (k := 18 + (k + 1)) (n := 5580 + 9 * (k + 1)) (by omega) (by omega) ?_
    exact next n zc zm H locs ls (by omega) hI
theorem Rl_0 {f : Nat → Int32} (hf : ∀ q, q < 12 → f q = -1) : Rl 0 zC0 (zM0 f) := by
  refine ⟨rfl, ⟨rfl, ⟨by omega, fun _ _ _ _ _ => rfl⟩, fun i j x h => by simp [zC0] at h⟩, fun k x h => by simp [zC0] at h, fun p hp => Or.inl ⟨rfl, hf p hp⟩, ⟨fun q _ => ⟨0, by omega, rfl⟩, fun r _ => ⟨0, by omega, rfl⟩, 0, by omega, rfl⟩, rfl⟩
theorem in_X0 : ∀ w ∈ wsX00, w ∈ lw_tbl := by decide +kernel
theorem in_X1 : ∀ w ∈ wsX10, w ∈ lw_tbl := by decide +kernel
theorem in_X2 : ∀ w ∈ wsX20, w ∈ lw_tbl := by decide +kernel
theorem nestF_in : ∀ q ∈ nestF, Cond.fieldLinkNest RX1 q.1 RX0 q.2 "I" RX1 ∈ lw_tbl := by decide +kernel
theorem nestM_in : ∀ q ∈ nestM, Cond.methodLinkNest RX1 q.1 q.2 RX1 ∈ lw_tbl := by decide +kernel
set_option maxRecDepth 100000 in
set_option maxHeartbeats 4000000 in
/-- THE LAW, from its entry -/
theorem whole_start {p : Program} {e : Env} {s : State} {m : MethodId} {below : List Frame} {meth : Method} {c : Code} (l : Launch) {b L : Nat} {xs : Nat → Int32} (hL : L ≤ 2560) (C0 : lw_At p s m meth c b L xs) : W p l e room_1 s m #[Value.ref b] below meth c s.heap [] 0 0 (lw_Z below #[Value.ref b] s) (entryFrame m ([Value.ref b] : List Value).toArray 4) := by
  obtain ⟨hx, hb, hr, hml, hown, hts0, hX, hbl, hlocks, hgv⟩ := id C0
  have hts : ∀ w ∈ wsL_law, w.before #[Value.ref b] s = true := fun w h => hts0 w (wsL_law_in w h)
  have X : CallFix p m c code 4 s #[Value.ref b] wsL_law RL := ⟨hx, hb, hml, hown, hts⟩
  have hA : ∀ q : Nat, s.heap.size ≤ q → (fun q : Nat => s.heap.size ≤ q) q := fun _ h => h
  obtain ⟨c0, iS0, hKn0⟩ := u_known (C := RX0) (T := TX0) (N := 9) (n := 9) hts0 in_X0 (hts0 (.instantiable RX0 9) (by decide +kernel))
  obtain ⟨c1, iS1, hKn1⟩ := u_known (C := RX1) (T := TX1) (N := 10) (n := 10) hts0 in_X1 (hts0 (.instantiable RX1 10) (by decide +kernel))
  obtain ⟨c2, iS2, hKn2⟩ := u_known (C := RX2) (T := TX2) (N := 18) (n := 18) hts0 in_X2 (hts0 (.instantiable RX2 18) (by decide +kernel))
  obtain ⟨G, hKc⟩ : ∃ G : va_G, ∀ (k : Nat) (q : vw_C), vwCl[k]? = some q → u_Kn s q.1 q.2.1 q.2.2 (G.1 k) (G.2 k) := by
    refine ⟨(fun k => if k = 0 then c0 else if k = 1 then c1 else c2, fun k => if k = 0 then iS0 else if k = 1 then iS1 else iS2), ?_⟩
    intro k q hq
    match k, hq with
    | 0, hq => cases hq; exact hKn0
    | 1, hq => cases hq; exact hKn1
    | 2, hq => cases hq; exact hKn2
    | k + 3, hq => simp [vwCl] at hq
  have hN : nw s := ⟨fun q hq => va_Nw.of rfl (hts0 _ (nestF_in q hq)), fun q hq => va_Nw.of rfl (hts0 _ (nestM_in q hq))⟩
  have hO : va_AO RX0 s := va_AO.of (hts0 (.arrayOver (.object RX0)) (by decide +kernel))
  have hS : va_S (fun q : Nat => s.heap.size ≤ q) s.heap s.heap [] := va_S.rf
  have hK : va_K G vwCl [] s := ⟨hKc, fun k q h => by simp at h⟩
  have hP : va_P G vwCl [] s.heap := fun k q h => by simp at h
  have hD : va_D (fun q : Nat => s.heap.size ≤ q) [] := D_nil
  have hl := lv_entry ([.ref b]) (n := 4) (Nat.le_of_ble_eq_true rfl)
  rw [lg_entry_eq]
  generalize (lg_sl ([.ref b]) ++ List.replicate (4 - (lg_sl ([.ref b])).length) Slot.unset).toArray = ls at hl ⊢
  have hl : lv_has ls 4 [(0, .ref b)] := hl
  refine va_new (ci := 1) (fs := [.null, .null, .null, .null, .int 0, .int 0, .int 0, .int 0, .int 0, .int 0]) (C := RX1) (T := TX1) (N := 10) hx hb hts0 in_X1 tyX1 tyX1_ok X.2.2.2.1 (hts (.classLink RL 7 RX1) (by decide +kernel)) (hts (.instantiable RX1 10) (by decide +kernel)) (hts (.initialized RX1) (by decide +kernel)) hK hP hD hS hA rfl (fun j hj => by rcases (show j = 0 ∨ j = 1 ∨ j = 2 ∨ j = 3 ∨ j = 4 ∨ j = 5 ∨ j = 6 ∨ j = 7 ∨ j = 8 ∨ j = 9 by omega) with rfl | rfl | rfl | rfl | rfl | rfl | rfl | rfl | rfl | rfl <;> rfl) (show 0 + 1 ≤ 600000 by omega) (show 0 + 10 ≤ 7302250 by omega) dL_law_0 (fun q1 H hP hD hS => ?_)
  have hP : va_P G vwCl [(q1, bC0)] H := hP
  have hD : va_D (fun q : Nat => s.heap.size ≤ q) [(q1, bC0)] := hD
  refine W.widen (k := 1) (n := 10) (by omega) (by omega) ?_
  refine lv_dup hx hb dL_law_3 rfl ?_
  have hFc := wFree hD hS hA
  refine w_call (va_runI (g := F0 m 4 ls [.ref q1, .ref q1]) (As := []) (rest := [.ref q1]) X (kX1_init l G q1 H.size) (cwI 0 hts gL_law_X1_init rfl rfl rfl (hts (.initialized RX1) (by decide +kernel)) (hts (.methodLink RL 9 yX1_init) (by decide +kernel)) (hts (.instanceMethod yX1_init) (by decide +kernel)) rfl (by decide +kernel) ⟨Nat.le_of_ble_eq_true rfl, Nat.le_of_ble_eq_true rfl⟩) ⟨fun a U g mk q => ⟨q.1, (wPre_blind (av := [.ref q1]) a U g mk ⟨q.1, q.2.1⟩).2, va_AO.moved (u := U) (U := U.calling g mk a) (Vm.Alike.refl U.vm) q.2.2⟩, fun U hU hW => ⟨rfl, (wPre_at (av := [.ref q1]) hK hN hP hD hU hW).2, va_AO.moved hW.alike hO⟩⟩ rfl rfl hl.1 rfl (lv_room (Nat.le_of_ble_eq_true rfl)) dL_law_4 ⟨show 1 + 4 ≤ 600000 by omega, show 10 + 216 ≤ 7302250 by omega⟩) hS (fun q _ h => hFc q h) hFc (fun t H1 locs1 ht hvm hB _ hk hS => ?_)
  obtain ⟨cy, cyO, ac, hac, hKt, hPc, hDc⟩ := hB
  rw [ht] at hPc
  have hDc := hDc.weaken (fun _ _ _ h => hFc _ h)
  have hK := va_K.moved hvm.symm hKt
  generalize H1 = H at hPc hS ⊢
  generalize locs1 = locs at hS ⊢
  refine W.widen (k := 5) (n := 226) (by omega) (by omega) ?_
  refine W.eq (g2 := F0 m 7 ls [.ref q1]) rfl ?_
  rw [← hac]
  refine lv_astore_n (lv' := [(1, .ref (ac 0)), (0, .ref b)]) hx hb dL_law_7 rfl hl (by decide) rfl (fun ls hl => ?_)
  refine va_new (ci := 2) (fs := [.int 0, .null, .null, .null, .null, .null, .null, .null, .null, .null, .null, .null, .null, .int 0, .int 0, .int 0, .int 0, .int 0]) (C := RX2) (T := TX2) (N := 18) hx hb hts0 in_X2 tyX2 tyX2_ok X.2.2.2.1 (hts (.classLink RL 10 RX2) (by decide +kernel)) (hts (.instantiable RX2 18) (by decide +kernel)) (hts (.initialized RX2) (by decide +kernel)) hK hPc hDc hS hA rfl (fun j hj => by rcases (show j = 0 ∨ j = 1 ∨ j = 2 ∨ j = 3 ∨ j = 4 ∨ j = 5 ∨ j = 6 ∨ j = 7 ∨ j = 8 ∨ j = 9 ∨ j = 10 ∨ j = 11 ∨ j = 12 ∨ j = 13 ∨ j = 14 ∨ j = 15 ∨ j = 16 ∨ j = 17 by omega) with rfl | rfl | rfl | rfl | rfl | rfl | rfl | rfl | rfl | rfl | rfl | rfl | rfl | rfl | rfl | rfl | rfl | rfl <;> rfl) (show 5 + 1 ≤ 600000 by omega) (show 226 + 18 ≤ 7302250 by omega) dL_law_8 (fun q2 H hPn hDn hS => ?_)
  refine W.widen (k := 6) (n := 244) (by omega) (by omega) ?_
  refine lv_dup hx hb dL_law_11 rfl ?_
  refine lc_I (rest := [.ref q2]) X hK hN hA (P_right hPn) (D_right hDn) (P_left hPn) (D_ap hDn).symm hS (kX2_init l G cy cyO q2) (cwI 0 hts gL_law_X2_init rfl rfl rfl (hts (.initialized RX2) (by decide +kernel)) (hts (.methodLink RL 12 yX2_init) (by decide +kernel)) (hts (.instanceMethod yX2_init) (by decide +kernel)) rfl (by decide +kernel) ⟨Nat.le_of_ble_eq_true rfl, Nat.le_of_ble_eq_true rfl⟩) rfl hl.1 rfl (Nat.le_of_ble_eq_true rfl) dL_law_12 ⟨show 6 + 12 ≤ 600000 by omega, show 244 + 5336 ≤ 7302250 by omega⟩ (fun t A1 H locs ht hB hA1 hAp hPc hS => ?_)
  obtain ⟨am, f, ham, hf, hPm, hDm⟩ := hB
  rw [ht] at hPm
  have hap := hAp _ hDm
  have hDm := hDm.weaken (fun _ _ _ h => hA1 _ h)
  refine W.widen (k := 18 + 0) (n := 5580 + 9 * 0) (by omega) (by omega) ?_
  rw [← ham]
  refine lv_astore_n (lv' := [(2, .ref (am 0)), (1, .ref (ac 0)), (0, .ref b)]) hx hb dL_law_15 rfl hl (by decide) rfl (fun ls hl => ?_)
  refine lv_iconst (v := 0) hx hb dL_law_16 (by decide) ?_
  refine lv_istore_n (lv' := [(3, .int 0), (2, .ref (am 0)), (1, .ref (ac 0)), (0, .ref b)]) hx hb dL_law_17 rfl hl (by decide) rfl (fun ls hl => ?_)
  exact lw_loop X hK hN hX hbl hL hr hlocks 513 0 (by omega) (by omega) 0 zC0 (zM0 f) H locs ls (Nat.le_refl 0) ⟨Rl_0 hf, hPc, D_left hDn, hPm, hDm, hap.symm, hS, lv_sub hl [3, 2, 1, 0] rfl⟩
