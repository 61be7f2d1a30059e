def fX1_secChk (z0 : SC) (x1 x2 x3 x4 : Int32) : Option (Int32 × SC) := bd_ (fX1_isPlace z0 x1) (fun r1 z1 => (if r1 = 0 then some (0, z1) else (if x2 < 0 then some (0, z1) else (if 2 < x2 then some (0, z1) else bd_ (fX1_isLimit z1 x3) (fun r5 z5 => (if r5 = 0 then some (0, z5) else bd_ (fX1_isLimit z5 x4) (fun r7 z7 => (if r7 = 0 then some (0, z7) else some (1, z7)))))))))
set_option maxRecDepth 100000 in
set_option maxHeartbeats 4000000 in
theorem kX1_sectionB (l : Launch) (G : va_G) (cy cyO : ClassId) (a : Nat → Nat) (z0 : SC) (x1 x2 x3 x4 : Int32) (u : SC) (hF : fX1_secChk z0 x1 x2 x3 x4 = some (0, u)) : CtB l G (tys_ cy cyO) yX1_section wsX1_section ({ frames := 2, cells := 1, slots := 9, locals := 36 } : Room) [.ref (a 0), .int x1, .int x2, .int x3, .int x4] (cW a cy cyO z0) (some (.int (-1))) (fun A t => wPost G A (cW a cy cyO u) t) 1 9 := by
  unfold fX1_secChk at hF
  refine ct_of (cc := cX1_section) (maxL := 6) (ret := (some .int)) (own := RX1) (by decide) rfl (Nat.le_of_ble_eq_true rfl) rfl ?_
  intro p e s m below meth c A ls X hr hlocks _ hK hN hA hP hD hl
  have hS : va_S A s.heap s.heap [] := va_S.rf
  have hl : lv_has ls 6 [(0, .ref (a 0)), (1, .int x1), (2, .int x2), (3, .int x3), (4, .int x4)] := hl
  obtain ⟨hx, hb, hml, hown, hts⟩ := id X
  refine lv_iload_n hx hb dX1_section_0 rfl (lv_at hl 1 rfl) ?_
  obtain ⟨r1, z1, hG1, hF⟩ := o_b hF
  refine cl_S (rest := []) X hK hN hA hP hD hS (kX1_isPlace l G cy cyO a z0 x1 r1 z1 hG1) (va_cwS 1 hts gX1_section_X1_isPlace rfl rfl rfl (by decide +kernel) ⟨Nat.le_of_ble_eq_true rfl, Nat.le_of_ble_eq_true rfl⟩) rfl hl.1 rfl (Nat.le_of_ble_eq_true rfl) dX1_section_1 ⟨Nat.zero_le _, Nat.zero_le _⟩ (fun H locs hP hD hS => ?_)
  refine W.eq (g2 := F0 m 4 ls [.int r1]) rfl ?_
  refine lv_if_eq (tgt := 31) hx hb dX1_section_4 (by decide) (fun c2 => ?_) (fun c2 => ?_)
  · have hF := o_t c2 hF
    obtain ⟨-, rfl⟩ := o_s hF
    refine lv_iconst (v := (-1)) hx hb dX1_section_31 (by decide) ?_
    refine W.widen (k := 1) (n := 9) (by omega) (by omega) ?_
    exact rt_i X hr hlocks hP hD hS dX1_section_32
  · have hF := o_f c2 hF
    refine lv_iload_n hx hb dX1_section_7 rfl (lv_at hl 2 rfl) ?_
    refine lv_if_lt (tgt := 31) hx hb dX1_section_8 (by decide) (fun c3 => ?_) (fun c3 => ?_)
    · have hF := o_t c3 hF
      obtain ⟨-, rfl⟩ := o_s hF
      refine lv_iconst (v := (-1)) hx hb dX1_section_31 (by decide) ?_
      refine W.widen (k := 1) (n := 9) (by omega) (by omega) ?_
      exact rt_i X hr hlocks hP hD hS dX1_section_32
    · have hF := o_f c3 hF
      refine lv_iload_n hx hb dX1_section_11 rfl (lv_at hl 2 rfl) ?_
      refine lv_iconst (v := 2) hx hb dX1_section_12 (by decide) ?_
      refine lv_icmp_gt (tgt := 31) hx hb dX1_section_13 (by decide) (fun c4 => ?_) (fun c4 => ?_)
      · have hF := o_t c4 hF
        obtain ⟨-, rfl⟩ := o_s hF
        refine lv_iconst (v := (-1)) hx hb dX1_section_31 (by decide) ?_
        refine W.widen (k := 1) (n := 9) (by omega) (by omega) ?_
        exact rt_i X hr hlocks hP hD hS dX1_section_32
      · have hF := o_f c4 hF
        refine lv_iload_n hx hb dX1_section_16 rfl (lv_at hl 3 rfl) ?_
        obtain ⟨r5, z5, hG5, hF⟩ := o_b hF
        refine cl_S (rest := []) X hK hN hA hP hD hS (kX1_isLimit l G cy cyO a z1 x3 r5 z5 hG5) (va_cwS 1 hts gX1_section_X1_isLimit rfl rfl rfl (by decide +kernel) ⟨Nat.le_of_ble_eq_true rfl, Nat.le_of_ble_eq_true rfl⟩) rfl hl.1 rfl (Nat.le_of_ble_eq_true rfl) dX1_section_17 ⟨Nat.zero_le _, Nat.zero_le _⟩ (fun H locs hP hD hS => ?_)
        refine W.eq (g2 := F0 m 20 ls [.int r5]) rfl ?_
        refine lv_if_eq (tgt := 31) hx hb dX1_section_20 (by decide) (fun c6 => ?_) (fun c6 => ?_)
        · have hF := o_t c6 hF
          obtain ⟨-, rfl⟩ := o_s hF
          refine lv_iconst (v := (-1)) hx hb dX1_section_31 (by decide) ?_
          refine W.widen (k := 1) (n := 9) (by omega) (by omega) ?_
          exact rt_i X hr hlocks hP hD hS dX1_section_32
        · have hF := o_f c6 hF
          refine lv_iload hx hb dX1_section_23 (lv_at hl 4 rfl) ?_
          obtain ⟨r7, z7, hG7, hF⟩ := o_b hF
          refine cl_S (rest := []) X hK hN hA hP hD hS (kX1_isLimit l G cy cyO a z5 x4 r7 z7 hG7) (va_cwS 1 hts gX1_section_X1_isLimit rfl rfl rfl (by decide +kernel) ⟨Nat.le_of_ble_eq_true rfl, Nat.le_of_ble_eq_true rfl⟩) rfl hl.1 rfl (Nat.le_of_ble_eq_true rfl) dX1_section_25 ⟨Nat.zero_le _, Nat.zero_le _⟩ (fun H locs hP hD hS => ?_)
          refine W.eq (g2 := F0 m 28 ls [.int r7]) rfl ?_
          refine lv_if_ne (tgt := 33) hx hb dX1_section_28 (by decide) (fun c8 => ?_) (fun c8 => ?_)
          · have hF := o_f c8 hF
            exact absurd (o_s hF).1 (by decide)
          · have hF := o_t c8 hF
            obtain ⟨-, rfl⟩ := o_s hF
            refine lv_iconst (v := (-1)) hx hb dX1_section_31 (by decide) ?_
            refine W.widen (k := 1) (n := 9) (by omega) (by omega) ?_
            exact rt_i X hr hlocks hP hD hS dX1_section_32
set_option maxRecDepth 100000 in
set_option maxHeartbeats 4000000 in
theorem kX1_sectionG (l : Launch) (G : va_G) (cy cyO : ClassId) (a : Nat → Nat) (z0 : SC) (x1 x2 x3 x4 : Int32) (u : SC) (hF : fX1_secChk z0 x1 x2 x3 x4 = some (1, u)) (hv : vp_in x1 12) : CtB l G (tys_ cy cyO) yX1_section wsX1_section ({ frames := 2, cells := 1, slots := 9, locals := 36 } : Room) [.ref (a 0), .int x1, .int x2, .int x3, .int x4] (cW a cy cyO z0) (some (.int u.2.2.2.2.2.2.2.1)) (fun A t => ∃ q, q ∉ u.2.1 ∧ wPost G A (cW a cy cyO (nS u q x1 x2 x3 x4)) t) 1 9 := by
  unfold fX1_secChk at hF
  refine ct_of (cc := cX1_section) (maxL := 6) (ret := (some .int)) (own := RX1) (by decide) rfl (Nat.le_of_ble_eq_true rfl) rfl ?_
  intro p e s m below meth c A ls X hr hlocks _ hK hN hA hP hD hl
  have hS : va_S A s.heap s.heap [] := va_S.rf
  have hl : lv_has ls 6 [(0, .ref (a 0)), (1, .int x1), (2, .int x2), (3, .int x3), (4, .int x4)] := hl
  obtain ⟨hx, hb, hml, hown, hts⟩ := id X
  refine lv_iload_n hx hb dX1_section_0 rfl (lv_at hl 1 rfl) ?_
  obtain ⟨r1, z1, hG1, hF⟩ := o_b hF
  refine cl_S (rest := []) X hK hN hA hP hD hS (kX1_isPlace l G cy cyO a z0 x1 r1 z1 hG1) (va_cwS 1 hts gX1_section_X1_isPlace rfl rfl rfl (by decide +kernel) ⟨Nat.le_of_ble_eq_true rfl, Nat.le_of_ble_eq_true rfl⟩) rfl hl.1 rfl (Nat.le_of_ble_eq_true rfl) dX1_section_1 ⟨Nat.zero_le _, Nat.zero_le _⟩ (fun H locs hP hD hS => ?_)
  refine W.eq (g2 := F0 m 4 ls [.int r1]) rfl ?_
  refine lv_if_eq (tgt := 31) hx hb dX1_section_4 (by decide) (fun c2 => ?_) (fun c2 => ?_)
  · have hF := o_t c2 hF
    exact absurd (o_s hF).1 (by decide)
  · have hF := o_f c2 hF
    refine lv_iload_n hx hb dX1_section_7 rfl (lv_at hl 2 rfl) ?_
    refine lv_if_lt (tgt := 31) hx hb dX1_section_8 (by decide) (fun c3 => ?_) (fun c3 => ?_)
    · have hF := o_t c3 hF
      exact absurd (o_s hF).1 (by decide)
    · have hF := o_f c3 hF
      refine lv_iload_n hx hb dX1_section_11 rfl (lv_at hl 2 rfl) ?_
      refine lv_iconst (v := 2) hx hb dX1_section_12 (by decide) ?_
      refine lv_icmp_gt (tgt := 31) hx hb dX1_section_13 (by decide) (fun c4 => ?_) (fun c4 => ?_)
      · have hF := o_t c4 hF
        exact absurd (o_s hF).1 (by decide)
      · have hF := o_f c4 hF
        refine lv_iload_n hx hb dX1_section_16 rfl (lv_at hl 3 rfl) ?_
        obtain ⟨r5, z5, hG5, hF⟩ := o_b hF
        refine cl_S (rest := []) X hK hN hA hP hD hS (kX1_isLimit l G cy cyO a z1 x3 r5 z5 hG5) (va_cwS 1 hts gX1_section_X1_isLimit rfl rfl rfl (by decide +kernel) ⟨Nat.le_of_ble_eq_true rfl, Nat.le_of_ble_eq_true rfl⟩) rfl hl.1 rfl (Nat.le_of_ble_eq_true rfl) dX1_section_17 ⟨Nat.zero_le _, Nat.zero_le _⟩ (fun H locs hP hD hS => ?_)
        refine W.eq (g2 := F0 m 20 ls [.int r5]) rfl ?_
        refine lv_if_eq (tgt := 31) hx hb dX1_section_20 (by decide) (fun c6 => ?_) (fun c6 => ?_)
        · have hF := o_t c6 hF
          exact absurd (o_s hF).1 (by decide)
        · have hF := o_f c6 hF
          refine lv_iload hx hb dX1_section_23 (lv_at hl 4 rfl) ?_
          obtain ⟨r7, z7, hG7, hF⟩ := o_b hF
          refine cl_S (rest := []) X hK hN hA hP hD hS (kX1_isLimit l G cy cyO a z5 x4 r7 z7 hG7) (va_cwS 1 hts gX1_section_X1_isLimit rfl rfl rfl (by decide +kernel) ⟨Nat.le_of_ble_eq_true rfl, Nat.le_of_ble_eq_true rfl⟩) rfl hl.1 rfl (Nat.le_of_ble_eq_true rfl) dX1_section_25 ⟨Nat.zero_le _, Nat.zero_le _⟩ (fun H locs hP hD hS => ?_)
          refine W.eq (g2 := F0 m 28 ls [.int r7]) rfl ?_
          refine lv_if_ne (tgt := 33) hx hb dX1_section_28 (by decide) (fun c8 => ?_) (fun c8 => ?_)
          · have hF := o_f c8 hF
            obtain ⟨-, rfl⟩ := o_s hF
            exact jX1_section_33 X hr hlocks hK hN hA hv H locs hP hD hS ls (lv_sub hl [0, 1, 2, 3, 4] rfl)
          · have hF := o_t c8 hF
            exact absurd (o_s hF).1 (by decide)
