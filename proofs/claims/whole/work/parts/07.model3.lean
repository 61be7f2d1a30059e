def fX2_section (z0 : SM) (x1 : Int32) (x2 : Int32) (x3 : Int32) (x4 : Int32) : Option (Int32 × SM) := bd_ (fX2_isPlace z0 x1) (fun r1 z1 => (if r1 = 0 then some ((-1), z1) else bd_ (fX2_in z1 x2 0 2) (fun r3 z3 => (if r3 = 0 then some ((-1), z3) else bd_ (fX2_in z3 x3 0 100000) (fun r5 z5 => (if r5 = 0 then some ((-1), z5) else bd_ (fX2_in z5 x4 0 100000) (fun r7 z7 => (if r7 = 0 then some ((-1), z7) else if z7.2.2.2.2.2.2.1 < 0 ∨ 640 ≤ z7.2.2.2.2.2.2.1.toNatClampNeg then none else let_ ((setA z7.1 1 (upd (z7.1 1) z7.2.2.2.2.2.2.1.toNatClampNeg x2), z7.2) : SM) (fun z10 => if z10.2.2.2.2.2.2.1 < 0 ∨ 640 ≤ z10.2.2.2.2.2.2.1.toNatClampNeg then none else let_ ((setA z10.1 2 (upd (z10.1 2) z10.2.2.2.2.2.2.1.toNatClampNeg x3), z10.2) : SM) (fun z12 => if z12.2.2.2.2.2.2.1 < 0 ∨ 640 ≤ z12.2.2.2.2.2.2.1.toNatClampNeg then none else let_ ((setA z12.1 3 (upd (z12.1 3) z12.2.2.2.2.2.2.1.toNatClampNeg x4), z12.2) : SM) (fun z14 => if x1 < 0 ∨ 12 ≤ x1.toNatClampNeg then none else let_ ((z14.1, (upd z14.2.1 x1.toNatClampNeg z14.2.2.2.2.2.2.1), z14.2.2) : SM) (fun z16 => let_ ((z16.1, z16.2.1, z16.2.2.1, z16.2.2.2.1, z16.2.2.2.2.1, z16.2.2.2.2.2.1, (z16.2.2.2.2.2.2.1 + 1), z16.2.2.2.2.2.2.2) : SM) (fun z17 => some ((z17.2.2.2.2.2.2.1 - 1), z17))))))))))))))
set_option maxRecDepth 100000 in
set_option maxHeartbeats 4000000 in
theorem kX2_section (l : Launch) (G : va_G) (cy cyO : ClassId) (a : Nat → Nat) (z0 : SM) (x1 : Int32) (x2 : Int32) (x3 : Int32) (x4 : Int32) (r : Int32) (u : SM) (hF : fX2_section z0 x1 x2 x3 x4 = some (r, u)) : Ct l G (tys_ cy cyO) yX2_section wsX2_section ({ frames := 2, cells := 0, slots := 0, locals := 42 } : Room) [.ref (a 0), .int x1, .int x2, .int x3, .int x4] (mW a cy z0) (some (.int r)) (mW a cy u) := by
  unfold fX2_section at hF
  refine ct_of (cc := cX2_section) (maxL := 5) (ret := (some .int)) (own := RX2) (by decide) rfl (Nat.le_of_ble_eq_true rfl) rfl ?_
  intro p e s m below meth c A ls X hr hlocks _ hK hN hA hP hD hl
  have hS : va_S A s.heap s.heap [] := va_S.rf
  have hl : lv_has ls 5 [(0, .ref (a 0)), (1, .int x1), (2, .int x2), (3, .int x3), (4, .int x4)] := hl
  obtain ⟨hx, hb, hml, hown, hts⟩ := id X
  have hin2 : ∀ w ∈ wsX20, w ∈ wsX2_section := by decide +kernel
  refine lv_iload_n hx hb dX2_section_0 rfl (lv_at hl 1 rfl) ?_
  obtain ⟨r1, z1, hG1, hF⟩ := o_b hF
  refine cl_S (rest := []) X hK hN hA hP hD hS (kX2_isPlace l G cy cyO a z0 x1 r1 z1 hG1) (va_cwS 1 hts gX2_section_X2_isPlace rfl rfl rfl (by decide +kernel) ⟨Nat.le_of_ble_eq_true rfl, Nat.le_of_ble_eq_true rfl⟩) rfl hl.1 rfl (Nat.le_of_ble_eq_true rfl) dX2_section_1 ⟨Nat.zero_le _, Nat.zero_le _⟩ (fun H locs hP hD hS => ?_)
  refine W.eq (g2 := F0 m 4 ls [.int r1]) rfl ?_
  refine lv_if_eq (tgt := 37) hx hb dX2_section_4 (by decide) (fun c2 => ?_) (fun c2 => ?_)
  · have hF := o_t c2 hF
    refine lv_iconst (v := (-1)) hx hb dX2_section_37 (by decide) ?_
    obtain ⟨rfl, rfl⟩ := o_s hF
    exact rt_i X hr hlocks hP hD hS dX2_section_38
  · have hF := o_f c2 hF
    refine lv_iload_n hx hb dX2_section_7 rfl (lv_at hl 2 rfl) ?_
    refine lv_iconst (v := 0) hx hb dX2_section_8 (by decide) ?_
    refine lv_iconst (v := 2) hx hb dX2_section_9 (by decide) ?_
    obtain ⟨r3, z3, hG3, hF⟩ := o_b hF
    refine cl_S (rest := []) X hK hN hA hP hD hS (kX2_in l G cy cyO a z1 x2 0 2 r3 z3 hG3) (va_cwS 3 hts gX2_section_X2_in rfl rfl rfl (by decide +kernel) ⟨Nat.le_of_ble_eq_true rfl, Nat.le_of_ble_eq_true rfl⟩) rfl hl.1 rfl (Nat.le_of_ble_eq_true rfl) dX2_section_10 ⟨Nat.zero_le _, Nat.zero_le _⟩ (fun H locs hP hD hS => ?_)
    refine W.eq (g2 := F0 m 13 ls [.int r3]) rfl ?_
    refine lv_if_eq (tgt := 37) hx hb dX2_section_13 (by decide) (fun c4 => ?_) (fun c4 => ?_)
    · have hF := o_t c4 hF
      refine lv_iconst (v := (-1)) hx hb dX2_section_37 (by decide) ?_
      obtain ⟨rfl, rfl⟩ := o_s hF
      exact rt_i X hr hlocks hP hD hS dX2_section_38
    · have hF := o_f c4 hF
      refine lv_iload_n hx hb dX2_section_16 rfl (lv_at hl 3 rfl) ?_
      refine lv_iconst (v := 0) hx hb dX2_section_17 (by decide) ?_
      refine lv_ldc (v := 100000) hx hb hown (hts (.constant RX2 54 (100000)) (by decide +kernel)) dX2_section_18 ?_
      obtain ⟨r5, z5, hG5, hF⟩ := o_b hF
      refine cl_S (rest := []) X hK hN hA hP hD hS (kX2_in l G cy cyO a z3 x3 0 100000 r5 z5 hG5) (va_cwS 3 hts gX2_section_X2_in rfl rfl rfl (by decide +kernel) ⟨Nat.le_of_ble_eq_true rfl, Nat.le_of_ble_eq_true rfl⟩) rfl hl.1 rfl (Nat.le_of_ble_eq_true rfl) dX2_section_20 ⟨Nat.zero_le _, Nat.zero_le _⟩ (fun H locs hP hD hS => ?_)
      refine W.eq (g2 := F0 m 23 ls [.int r5]) rfl ?_
      refine lv_if_eq (tgt := 37) hx hb dX2_section_23 (by decide) (fun c6 => ?_) (fun c6 => ?_)
      · have hF := o_t c6 hF
        refine lv_iconst (v := (-1)) hx hb dX2_section_37 (by decide) ?_
        obtain ⟨rfl, rfl⟩ := o_s hF
        exact rt_i X hr hlocks hP hD hS dX2_section_38
      · have hF := o_f c6 hF
        refine lv_iload hx hb dX2_section_26 (lv_at hl 4 rfl) ?_
        refine lv_iconst (v := 0) hx hb dX2_section_28 (by decide) ?_
        refine lv_ldc (v := 100000) hx hb hown (hts (.constant RX2 54 (100000)) (by decide +kernel)) dX2_section_29 ?_
        obtain ⟨r7, z7, hG7, hF⟩ := o_b hF
        refine cl_S (rest := []) X hK hN hA hP hD hS (kX2_in l G cy cyO a z5 x4 0 100000 r7 z7 hG7) (va_cwS 3 hts gX2_section_X2_in rfl rfl rfl (by decide +kernel) ⟨Nat.le_of_ble_eq_true rfl, Nat.le_of_ble_eq_true rfl⟩) rfl hl.1 rfl (Nat.le_of_ble_eq_true rfl) dX2_section_31 ⟨Nat.zero_le _, Nat.zero_le _⟩ (fun H locs hP hD hS => ?_)
        refine W.eq (g2 := F0 m 34 ls [.int r7]) rfl ?_
        refine lv_if_ne (tgt := 39) hx hb dX2_section_34 (by decide) (fun c8 => ?_) (fun c8 => ?_)
        · have hF := o_f c8 hF
          refine lv_aload_n hx hb dX2_section_39 rfl (lv_at hl 0 rfl) ?_
          refine va_get (D := G) (ci := 2) (v := .ref (a 1)) (C := RX2) (T := TX2) (N := 18) hx hb hts hin2 hown hK hP 0 rfl rfl 1 (by decide) (hts (.fieldLink RX2 7 "SignalBoxModel" "kinds" "[I") (by decide +kernel)) (fun _ h9 => h9) rfl dX2_section_40 ?_
          refine lv_aload_n hx hb dX2_section_43 rfl (lv_at hl 0 rfl) ?_
          refine va_get (D := G) (ci := 2) (v := .int z7.2.2.2.2.2.2.1) (C := RX2) (T := TX2) (N := 18) hx hb hts hin2 hown hK hP 0 rfl rfl 0 (by decide) (hts (.fieldLink RX2 55 "SignalBoxModel" "made" "I") (by decide +kernel)) (fun _ h9 => h9) rfl dX2_section_44 ?_
          refine lv_iload_n hx hb dX2_section_47 rfl (lv_at hl 2 rfl) ?_
          obtain ⟨h9, hF⟩ := o_n hF
          refine va_iast (n := 640) (f := (z7.1 1)) (cA := cy) hx hb hK hP hD hS 1 0 rfl rfl h9 dX2_section_48 (fun H locs hP hD hS => ?_)
          obtain ⟨z10, e10, hF⟩ := o_l hF
          have hP : va_P G vwCl (mW a cy z10) H := by rw [e10]; exact hP
          have hD : va_D A (mW a cy z10) := by rw [e10]; exact hD
          refine lv_aload_n hx hb dX2_section_49 rfl (lv_at hl 0 rfl) ?_
          refine va_get (D := G) (ci := 2) (v := .ref (a 2)) (C := RX2) (T := TX2) (N := 18) hx hb hts hin2 hown hK hP 0 rfl rfl 2 (by decide) (hts (.fieldLink RX2 13 "SignalBoxModel" "limits" "[I") (by decide +kernel)) (fun _ h9 => h9) rfl dX2_section_50 ?_
          refine lv_aload_n hx hb dX2_section_53 rfl (lv_at hl 0 rfl) ?_
          refine va_get (D := G) (ci := 2) (v := .int z10.2.2.2.2.2.2.1) (C := RX2) (T := TX2) (N := 18) hx hb hts hin2 hown hK hP 0 rfl rfl 0 (by decide) (hts (.fieldLink RX2 55 "SignalBoxModel" "made" "I") (by decide +kernel)) (fun _ h9 => h9) rfl dX2_section_54 ?_
          refine lv_iload_n hx hb dX2_section_57 rfl (lv_at hl 3 rfl) ?_
          obtain ⟨h11, hF⟩ := o_n hF
          refine va_iast (n := 640) (f := (z10.1 2)) (cA := cy) hx hb hK hP hD hS 2 0 rfl rfl h11 dX2_section_58 (fun H locs hP hD hS => ?_)
          obtain ⟨z12, e12, hF⟩ := o_l hF
          have hP : va_P G vwCl (mW a cy z12) H := by rw [e12]; exact hP
          have hD : va_D A (mW a cy z12) := by rw [e12]; exact hD
          refine lv_aload_n hx hb dX2_section_59 rfl (lv_at hl 0 rfl) ?_
          refine va_get (D := G) (ci := 2) (v := .ref (a 3)) (C := RX2) (T := TX2) (N := 18) hx hb hts hin2 hown hK hP 0 rfl rfl 3 (by decide) (hts (.fieldLink RX2 16 "SignalBoxModel" "marks" "[I") (by decide +kernel)) (fun _ h9 => h9) rfl dX2_section_60 ?_
          refine lv_aload_n hx hb dX2_section_63 rfl (lv_at hl 0 rfl) ?_
          refine va_get (D := G) (ci := 2) (v := .int z12.2.2.2.2.2.2.1) (C := RX2) (T := TX2) (N := 18) hx hb hts hin2 hown hK hP 0 rfl rfl 0 (by decide) (hts (.fieldLink RX2 55 "SignalBoxModel" "made" "I") (by decide +kernel)) (fun _ h9 => h9) rfl dX2_section_64 ?_
          refine lv_iload hx hb dX2_section_67 (lv_at hl 4 rfl) ?_
          obtain ⟨h13, hF⟩ := o_n hF
          refine va_iast (n := 640) (f := (z12.1 3)) (cA := cy) hx hb hK hP hD hS 3 0 rfl rfl h13 dX2_section_69 (fun H locs hP hD hS => ?_)
          obtain ⟨z14, e14, hF⟩ := o_l hF
          have hP : va_P G vwCl (mW a cy z14) H := by rw [e14]; exact hP
          have hD : va_D A (mW a cy z14) := by rw [e14]; exact hD
          refine lv_aload_n hx hb dX2_section_70 rfl (lv_at hl 0 rfl) ?_
          refine va_get (D := G) (ci := 2) (v := .ref (a 9)) (C := RX2) (T := TX2) (N := 18) hx hb hts hin2 hown hK hP 0 rfl rfl 9 (by decide) (hts (.fieldLink RX2 34 "SignalBoxModel" "at" "[I") (by decide +kernel)) (fun _ h9 => h9) rfl dX2_section_71 ?_
          refine lv_iload_n hx hb dX2_section_74 rfl (lv_at hl 1 rfl) ?_
          refine lv_aload_n hx hb dX2_section_75 rfl (lv_at hl 0 rfl) ?_
          refine va_get (D := G) (ci := 2) (v := .int z14.2.2.2.2.2.2.1) (C := RX2) (T := TX2) (N := 18) hx hb hts hin2 hown hK hP 0 rfl rfl 0 (by decide) (hts (.fieldLink RX2 55 "SignalBoxModel" "made" "I") (by decide +kernel)) (fun _ h9 => h9) rfl dX2_section_76 ?_
          obtain ⟨h15, hF⟩ := o_n hF
          refine va_iast (n := 12) (f := z14.2.1) (cA := cy) hx hb hK hP hD hS 9 0 rfl rfl h15 dX2_section_79 (fun H locs hP hD hS => ?_)
          obtain ⟨z16, e16, hF⟩ := o_l hF
          have hP : va_P G vwCl (mW a cy z16) H := by rw [e16]; exact hP
          have hD : va_D A (mW a cy z16) := by rw [e16]; exact hD
          refine lv_aload_n hx hb dX2_section_80 rfl (lv_at hl 0 rfl) ?_
          refine lv_dup hx hb dX2_section_81 rfl ?_
          refine va_get (D := G) (ci := 2) (v := .int z16.2.2.2.2.2.2.1) (C := RX2) (T := TX2) (N := 18) hx hb hts hin2 hown hK hP 0 rfl rfl 0 (by decide) (hts (.fieldLink RX2 55 "SignalBoxModel" "made" "I") (by decide +kernel)) (fun _ h9 => h9) rfl dX2_section_82 ?_
          refine lv_iconst (v := 1) hx hb dX2_section_85 (by decide) ?_
          refine lv_iadd hx hb dX2_section_86 ?_
          refine va_put (D := G) (ci := 2) (v := .int (z16.2.2.2.2.2.2.1 + 1)) (ty := .int) (C := RX2) (T := TX2) (N := 18) hx hb hts hin2 tyX2 tyX2_ok nmX2 hown hK hP hD hS 0 rfl rfl 0 (by decide) (hts (.fieldLink RX2 55 "SignalBoxModel" "made" "I") (by decide +kernel)) (fun _ h9 => h9) rfl (by decide +kernel) rfl rfl (Nat.le_of_ble_eq_true rfl) dX2_section_87 (fun H locs hP hD hS => ?_)
          obtain ⟨z17, e17, hF⟩ := o_l hF
          have hP : va_P G vwCl (mW a cy z17) H := by rw [e17]; exact hP
          have hD : va_D A (mW a cy z17) := by rw [e17]; exact hD
          refine lv_aload_n hx hb dX2_section_90 rfl (lv_at hl 0 rfl) ?_
          refine va_get (D := G) (ci := 2) (v := .int z17.2.2.2.2.2.2.1) (C := RX2) (T := TX2) (N := 18) hx hb hts hin2 hown hK hP 0 rfl rfl 0 (by decide) (hts (.fieldLink RX2 55 "SignalBoxModel" "made" "I") (by decide +kernel)) (fun _ h9 => h9) rfl dX2_section_91 ?_
          refine lv_iconst (v := 1) hx hb dX2_section_94 (by decide) ?_
          refine lv_isub hx hb dX2_section_95 ?_
          obtain ⟨rfl, rfl⟩ := o_s hF
          exact rt_i X hr hlocks hP hD hS dX2_section_96
        · have hF := o_t c8 hF
          refine lv_iconst (v := (-1)) hx hb dX2_section_37 (by decide) ?_
          obtain ⟨rfl, rfl⟩ := o_s hF
          exact rt_i X hr hlocks hP hD hS dX2_section_38
def fX2_share (z0 : SM) (x1 : Int32) (x2 : Int32) : Option (Int32 × SM) := bd_ (fX2_isPlace z0 x1) (fun r1 z1 => (if r1 = 0 then some ((-1), z1) else bd_ (fX2_isPlace z1 x2) (fun r3 z3 => (if r3 = 0 then some ((-1), z3) else if x1 < 0 ∨ 12 ≤ x1.toNatClampNeg then none else let_ (z3.2.1 x1.toNatClampNeg) (fun v5 => if x2 < 0 ∨ 12 ≤ x2.toNatClampNeg then none else let_ ((z3.1, (upd z3.2.1 x2.toNatClampNeg v5), z3.2.2) : SM) (fun z7 => if x2 < 0 ∨ 12 ≤ x2.toNatClampNeg then none else let_ (z7.2.1 x2.toNatClampNeg) (fun v8 => (if 0 ≤ v8 then some (1, z7) else some (0, z7)))))))))
set_option maxRecDepth 100000 in
set_option maxHeartbeats 4000000 in
theorem kX2_share (l : Launch) (G : va_G) (cy cyO : ClassId) (a : Nat → Nat) (z0 : SM) (x1 : Int32) (x2 : Int32) (r : Int32) (u : SM) (hF : fX2_share z0 x1 x2 = some (r, u)) : Ct l G (tys_ cy cyO) yX2_share wsX2_share ({ frames := 2, cells := 0, slots := 0, locals := 42 } : Room) [.ref (a 0), .int x1, .int x2] (mW a cy z0) (some (.int r)) (mW a cy u) := by
  unfold fX2_share at hF
  refine ct_of (cc := cX2_share) (maxL := 3) (ret := (some .int)) (own := RX2) (by decide) rfl (Nat.le_of_ble_eq_true rfl) rfl ?_
  intro p e s m below meth c A ls X hr hlocks _ hK hN hA hP hD hl
  have hS : va_S A s.heap s.heap [] := va_S.rf
  have hl : lv_has ls 3 [(0, .ref (a 0)), (1, .int x1), (2, .int x2)] := hl
  obtain ⟨hx, hb, hml, hown, hts⟩ := id X
  have hin2 : ∀ w ∈ wsX20, w ∈ wsX2_share := by decide +kernel
  refine lv_iload_n hx hb dX2_share_0 rfl (lv_at hl 1 rfl) ?_
  obtain ⟨r1, z1, hG1, hF⟩ := o_b hF
  refine cl_S (rest := []) X hK hN hA hP hD hS (kX2_isPlace l G cy cyO a z0 x1 r1 z1 hG1) (va_cwS 1 hts gX2_share_X2_isPlace rfl rfl rfl (by decide +kernel) ⟨Nat.le_of_ble_eq_true rfl, Nat.le_of_ble_eq_true rfl⟩) rfl hl.1 rfl (Nat.le_of_ble_eq_true rfl) dX2_share_1 ⟨Nat.zero_le _, Nat.zero_le _⟩ (fun H locs hP hD hS => ?_)
  refine W.eq (g2 := F0 m 4 ls [.int r1]) rfl ?_
  refine lv_if_eq (tgt := 14) hx hb dX2_share_4 (by decide) (fun c2 => ?_) (fun c2 => ?_)
  · have hF := o_t c2 hF
    refine lv_iconst (v := (-1)) hx hb dX2_share_14 (by decide) ?_
    obtain ⟨rfl, rfl⟩ := o_s hF
    exact rt_i X hr hlocks hP hD hS dX2_share_15
  · have hF := o_f c2 hF
    refine lv_iload_n hx hb dX2_share_7 rfl (lv_at hl 2 rfl) ?_
    obtain ⟨r3, z3, hG3, hF⟩ := o_b hF
    refine cl_S (rest := []) X hK hN hA hP hD hS (kX2_isPlace l G cy cyO a z1 x2 r3 z3 hG3) (va_cwS 1 hts gX2_share_X2_isPlace rfl rfl rfl (by decide +kernel) ⟨Nat.le_of_ble_eq_true rfl, Nat.le_of_ble_eq_true rfl⟩) rfl hl.1 rfl (Nat.le_of_ble_eq_true rfl) dX2_share_8 ⟨Nat.zero_le _, Nat.zero_le _⟩ (fun H locs hP hD hS => ?_)
    refine W.eq (g2 := F0 m 11 ls [.int r3]) rfl ?_
    refine lv_if_ne (tgt := 16) hx hb dX2_share_11 (by decide) (fun c4 => ?_) (fun c4 => ?_)
    · have hF := o_f c4 hF
      refine lv_aload_n hx hb dX2_share_16 rfl (lv_at hl 0 rfl) ?_
      refine va_get (D := G) (ci := 2) (v := .ref (a 9)) (C := RX2) (T := TX2) (N := 18) hx hb hts hin2 hown hK hP 0 rfl rfl 9 (by decide) (hts (.fieldLink RX2 34 "SignalBoxModel" "at" "[I") (by decide +kernel)) (fun _ h9 => h9) rfl dX2_share_17 ?_
      refine lv_iload_n hx hb dX2_share_20 rfl (lv_at hl 2 rfl) ?_
      refine lv_aload_n hx hb dX2_share_21 rfl (lv_at hl 0 rfl) ?_
      refine va_get (D := G) (ci := 2) (v := .ref (a 9)) (C := RX2) (T := TX2) (N := 18) hx hb hts hin2 hown hK hP 0 rfl rfl 9 (by decide) (hts (.fieldLink RX2 34 "SignalBoxModel" "at" "[I") (by decide +kernel)) (fun _ h9 => h9) rfl dX2_share_22 ?_
      refine lv_iload_n hx hb dX2_share_25 rfl (lv_at hl 1 rfl) ?_
      obtain ⟨h5, hF⟩ := o_n hF
      refine va_iald (n := 12) (f := z3.2.1) (cA := cy) hx hb hK hP 9 0 rfl rfl h5 dX2_share_26 ?_
      obtain ⟨v5, e5, hF⟩ := o_l hF
      refine w_top e5 ?_
      obtain ⟨h6, hF⟩ := o_n hF
      refine va_iast (n := 12) (f := z3.2.1) (cA := cy) hx hb hK hP hD hS 9 0 rfl rfl h6 dX2_share_27 (fun H locs hP hD hS => ?_)
      obtain ⟨z7, e7, hF⟩ := o_l hF
      have hP : va_P G vwCl (mW a cy z7) H := by rw [e7]; exact hP
      have hD : va_D A (mW a cy z7) := by rw [e7]; exact hD
      refine lv_aload_n hx hb dX2_share_28 rfl (lv_at hl 0 rfl) ?_
      refine va_get (D := G) (ci := 2) (v := .ref (a 9)) (C := RX2) (T := TX2) (N := 18) hx hb hts hin2 hown hK hP 0 rfl rfl 9 (by decide) (hts (.fieldLink RX2 34 "SignalBoxModel" "at" "[I") (by decide +kernel)) (fun _ h9 => h9) rfl dX2_share_29 ?_
      refine lv_iload_n hx hb dX2_share_32 rfl (lv_at hl 2 rfl) ?_
      obtain ⟨h8, hF⟩ := o_n hF
      refine va_iald (n := 12) (f := z7.2.1) (cA := cy) hx hb hK hP 9 0 rfl rfl h8 dX2_share_33 ?_
      obtain ⟨v8, e8, hF⟩ := o_l hF
      refine w_top e8 ?_
      refine lv_if_ge (tgt := 41) hx hb dX2_share_34 (by decide) (fun c9 => ?_) (fun c9 => ?_)
      · have hF := o_t c9 hF
        refine lv_iconst (v := 1) hx hb dX2_share_41 (by decide) ?_
        obtain ⟨rfl, rfl⟩ := o_s hF
        exact rt_i X hr hlocks hP hD hS dX2_share_42
      · have hF := o_f c9 hF
        refine lv_iconst (v := 0) hx hb dX2_share_37 (by decide) ?_
        refine lv_goto (tgt := 42) hx hb dX2_share_38 (by decide) ?_
        obtain ⟨rfl, rfl⟩ := o_s hF
        exact rt_i X hr hlocks hP hD hS dX2_share_42
    · have hF := o_t c4 hF
      refine lv_iconst (v := (-1)) hx hb dX2_share_14 (by decide) ?_
      obtain ⟨rfl, rfl⟩ := o_s hF
      exact rt_i X hr hlocks hP hD hS dX2_share_15
def fX2_remove_j23 (z0 : SM) (y1 : Int32) (t0 : Int32) : Option (Int32 × SM) := if y1 < 0 ∨ 12 ≤ y1.toNatClampNeg then none else let_ ((z0.1, (upd z0.2.1 y1.toNatClampNeg (-1)), z0.2.2) : SM) (fun z2 => some (t0, z2))
set_option maxRecDepth 100000 in
set_option maxHeartbeats 4000000 in
theorem jX2_remove_23 {p : Program} {l : Launch} {e : Env} {s : State} {m : MethodId} {args : Array Value} {below : List Frame} {meth : Method} {c : Code} {G : va_G} {cy cyO : ClassId} {a : Nat → Nat} {A : Nat → Prop} {r : Int32} {u : SM} (X : CallFix p m c cX2_remove 3 s args wsX2_remove RX2) (hr : meth.sig.returnType = (some .int)) (hlocks : meth.locks = false) (hK : va_K G vwCl (tys_ cy cyO) s) (hN : nw s) (hA : ∀ q, s.heap.size ≤ q → A q) : ∀ (z0 : SM) (y1 : Int32) (t0 : Int32), fX2_remove_j23 z0 y1 t0 = some (r, u) → ∀ (H : Heap) (locs : List Loc), va_P G vwCl (mW a cy z0) H → va_D A (mW a cy z0) → va_S A s.heap H locs → ∀ (ls : Array Slot), lv_has ls 3 [(0, .ref (a 0)), (1, .int y1)] → W p l e ({ frames := 2, cells := 0, slots := 0, locals := 42 } : Room) s m args below meth c H locs 0 0 (MQ below (qg (some (.int r)) (fun t => wPost G A (mW a cy u) t) A) args s 0 0 A) (F0 m 23 ls [.int t0]) := by
  obtain ⟨hx, hb, hml, hown, hts⟩ := id X
  have hin2 : ∀ w ∈ wsX20, w ∈ wsX2_remove := by decide +kernel
  intro z0 y1 t0 hF H locs hP hD hS ls hl
  unfold fX2_remove_j23 at hF
  refine lv_istore_n (lv' := [(2, .int t0), (0, .ref (a 0)), (1, .int y1)]) hx hb dX2_remove_23 rfl hl (by decide) rfl (fun ls hl => ?_)
  refine lv_aload_n hx hb dX2_remove_24 rfl (lv_at hl 1 rfl) ?_
  refine va_get (D := G) (ci := 2) (v := .ref (a 9)) (C := RX2) (T := TX2) (N := 18) hx hb hts hin2 hown hK hP 0 rfl rfl 9 (by decide) (hts (.fieldLink RX2 34 "SignalBoxModel" "at" "[I") (by decide +kernel)) (fun _ h9 => h9) rfl dX2_remove_25 ?_
  refine lv_iload_n hx hb dX2_remove_28 rfl (lv_at hl 2 rfl) ?_
  refine lv_iconst (v := (-1)) hx hb dX2_remove_29 (by decide) ?_
  obtain ⟨h1, hF⟩ := o_n hF
  refine va_iast (n := 12) (f := z0.2.1) (cA := cy) hx hb hK hP hD hS 9 0 rfl rfl h1 dX2_remove_30 (fun H locs hP hD hS => ?_)
  obtain ⟨z2, e2, hF⟩ := o_l hF
  have hP : va_P G vwCl (mW a cy z2) H := by rw [e2]; exact hP
  have hD : va_D A (mW a cy z2) := by rw [e2]; exact hD
  refine lv_iload_n hx hb dX2_remove_31 rfl (lv_at hl 0 rfl) ?_
  obtain ⟨rfl, rfl⟩ := o_s hF
  exact rt_i X hr hlocks hP hD hS dX2_remove_32
def fX2_remove (z0 : SM) (x1 : Int32) : Option (Int32 × SM) := bd_ (fX2_isPlace z0 x1) (fun r1 z1 => (if r1 = 0 then some ((-1), z1) else if x1 < 0 ∨ 12 ≤ x1.toNatClampNeg then none else let_ (z1.2.1 x1.toNatClampNeg) (fun v3 => (if 0 ≤ v3 then (fX2_remove_j23 z1 x1 1) else (fX2_remove_j23 z1 x1 0)))))
set_option maxRecDepth 100000 in
set_option maxHeartbeats 4000000 in
theorem kX2_remove (l : Launch) (G : va_G) (cy cyO : ClassId) (a : Nat → Nat) (z0 : SM) (x1 : Int32) (r : Int32) (u : SM) (hF : fX2_remove z0 x1 = some (r, u)) : Ct l G (tys_ cy cyO) yX2_remove wsX2_remove ({ frames := 2, cells := 0, slots := 0, locals := 42 } : Room) [.ref (a 0), .int x1] (mW a cy z0) (some (.int r)) (mW a cy u) := by
  unfold fX2_remove at hF
  refine ct_of (cc := cX2_remove) (maxL := 3) (ret := (some .int)) (own := RX2) (by decide) rfl (Nat.le_of_ble_eq_true rfl) rfl ?_
  intro p e s m below meth c A ls X hr hlocks _ hK hN hA hP hD hl
  have hS : va_S A s.heap s.heap [] := va_S.rf
  have hl : lv_has ls 3 [(0, .ref (a 0)), (1, .int x1)] := hl
  obtain ⟨hx, hb, hml, hown, hts⟩ := id X
  have hin2 : ∀ w ∈ wsX20, w ∈ wsX2_remove := by decide +kernel
  refine lv_iload_n hx hb dX2_remove_0 rfl (lv_at hl 1 rfl) ?_
  obtain ⟨r1, z1, hG1, hF⟩ := o_b hF
  refine cl_S (rest := []) X hK hN hA hP hD hS (kX2_isPlace l G cy cyO a z0 x1 r1 z1 hG1) (va_cwS 1 hts gX2_remove_X2_isPlace rfl rfl rfl (by decide +kernel) ⟨Nat.le_of_ble_eq_true rfl, Nat.le_of_ble_eq_true rfl⟩) rfl hl.1 rfl (Nat.le_of_ble_eq_true rfl) dX2_remove_1 ⟨Nat.zero_le _, Nat.zero_le _⟩ (fun H locs hP hD hS => ?_)
  refine W.eq (g2 := F0 m 4 ls [.int r1]) rfl ?_
  refine lv_if_ne (tgt := 9) hx hb dX2_remove_4 (by decide) (fun c2 => ?_) (fun c2 => ?_)
  · have hF := o_f c2 hF
    refine lv_aload_n hx hb dX2_remove_9 rfl (lv_at hl 0 rfl) ?_
    refine va_get (D := G) (ci := 2) (v := .ref (a 9)) (C := RX2) (T := TX2) (N := 18) hx hb hts hin2 hown hK hP 0 rfl rfl 9 (by decide) (hts (.fieldLink RX2 34 "SignalBoxModel" "at" "[I") (by decide +kernel)) (fun _ h9 => h9) rfl dX2_remove_10 ?_
    refine lv_iload_n hx hb dX2_remove_13 rfl (lv_at hl 1 rfl) ?_
    obtain ⟨h3, hF⟩ := o_n hF
    refine va_iald (n := 12) (f := z1.2.1) (cA := cy) hx hb hK hP 9 0 rfl rfl h3 dX2_remove_14 ?_
    obtain ⟨v3, e3, hF⟩ := o_l hF
    refine w_top e3 ?_
    refine lv_if_ge (tgt := 22) hx hb dX2_remove_15 (by decide) (fun c4 => ?_) (fun c4 => ?_)
    · have hF := o_t c4 hF
      refine lv_iconst (v := 1) hx hb dX2_remove_22 (by decide) ?_
      exact jX2_remove_23 X hr hlocks hK hN hA z1 x1 1 hF H locs hP hD hS ls (lv_sub hl [0, 1] rfl)
    · have hF := o_f c4 hF
      refine lv_iconst (v := 0) hx hb dX2_remove_18 (by decide) ?_
      refine lv_goto (tgt := 23) hx hb dX2_remove_19 (by decide) ?_
      exact jX2_remove_23 X hr hlocks hK hN hA z1 x1 0 hF H locs hP hD hS ls (lv_sub hl [0, 1] rfl)
  · have hF := o_t c2 hF
    refine lv_iconst (v := (-1)) hx hb dX2_remove_7 (by decide) ?_
    obtain ⟨rfl, rfl⟩ := o_s hF
    exact rt_i X hr hlocks hP hD hS dX2_remove_8
def fX2_same (z0 : SM) (x1 : Int32) (x2 : Int32) : Option (Int32 × SM) := bd_ (fX2_isPlace z0 x1) (fun r1 z1 => (if r1 = 0 then some ((-1), z1) else bd_ (fX2_isPlace z1 x2) (fun r3 z3 => (if r3 = 0 then some ((-1), z3) else if x1 < 0 ∨ 12 ≤ x1.toNatClampNeg then none else let_ (z3.2.1 x1.toNatClampNeg) (fun v5 => if x2 < 0 ∨ 12 ≤ x2.toNatClampNeg then none else let_ (z3.2.1 x2.toNatClampNeg) (fun v6 => (if v5 = v6 then some (1, z3) else some (0, z3))))))))
set_option maxRecDepth 100000 in
set_option maxHeartbeats 4000000 in
theorem kX2_same (l : Launch) (G : va_G) (cy cyO : ClassId) (a : Nat → Nat) (z0 : SM) (x1 : Int32) (x2 : Int32) (r : Int32) (u : SM) (hF : fX2_same z0 x1 x2 = some (r, u)) : Ct l G (tys_ cy cyO) yX2_same wsX2_same ({ frames := 2, cells := 0, slots := 0, locals := 42 } : Room) [.ref (a 0), .int x1, .int x2] (mW a cy z0) (some (.int r)) (mW a cy u) := by
  unfold fX2_same at hF
  refine ct_of (cc := cX2_same) (maxL := 3) (ret := (some .int)) (own := RX2) (by decide) rfl (Nat.le_of_ble_eq_true rfl) rfl ?_
  intro p e s m below meth c A ls X hr hlocks _ hK hN hA hP hD hl
  have hS : va_S A s.heap s.heap [] := va_S.rf
  have hl : lv_has ls 3 [(0, .ref (a 0)), (1, .int x1), (2, .int x2)] := hl
  obtain ⟨hx, hb, hml, hown, hts⟩ := id X
  have hin2 : ∀ w ∈ wsX20, w ∈ wsX2_same := by decide +kernel
  refine lv_iload_n hx hb dX2_same_0 rfl (lv_at hl 1 rfl) ?_
  obtain ⟨r1, z1, hG1, hF⟩ := o_b hF
  refine cl_S (rest := []) X hK hN hA hP hD hS (kX2_isPlace l G cy cyO a z0 x1 r1 z1 hG1) (va_cwS 1 hts gX2_same_X2_isPlace rfl rfl rfl (by decide +kernel) ⟨Nat.le_of_ble_eq_true rfl, Nat.le_of_ble_eq_true rfl⟩) rfl hl.1 rfl (Nat.le_of_ble_eq_true rfl) dX2_same_1 ⟨Nat.zero_le _, Nat.zero_le _⟩ (fun H locs hP hD hS => ?_)
  refine W.eq (g2 := F0 m 4 ls [.int r1]) rfl ?_
  refine lv_if_eq (tgt := 14) hx hb dX2_same_4 (by decide) (fun c2 => ?_) (fun c2 => ?_)
  · have hF := o_t c2 hF
    refine lv_iconst (v := (-1)) hx hb dX2_same_14 (by decide) ?_
    refine lv_goto (tgt := 38) hx hb dX2_same_15 (by decide) ?_
    obtain ⟨rfl, rfl⟩ := o_s hF
    exact rt_i X hr hlocks hP hD hS dX2_same_38
  · have hF := o_f c2 hF
    refine lv_iload_n hx hb dX2_same_7 rfl (lv_at hl 2 rfl) ?_
    obtain ⟨r3, z3, hG3, hF⟩ := o_b hF
    refine cl_S (rest := []) X hK hN hA hP hD hS (kX2_isPlace l G cy cyO a z1 x2 r3 z3 hG3) (va_cwS 1 hts gX2_same_X2_isPlace rfl rfl rfl (by decide +kernel) ⟨Nat.le_of_ble_eq_true rfl, Nat.le_of_ble_eq_true rfl⟩) rfl hl.1 rfl (Nat.le_of_ble_eq_true rfl) dX2_same_8 ⟨Nat.zero_le _, Nat.zero_le _⟩ (fun H locs hP hD hS => ?_)
    refine W.eq (g2 := F0 m 11 ls [.int r3]) rfl ?_
    refine lv_if_ne (tgt := 18) hx hb dX2_same_11 (by decide) (fun c4 => ?_) (fun c4 => ?_)
    · have hF := o_f c4 hF
      refine lv_aload_n hx hb dX2_same_18 rfl (lv_at hl 0 rfl) ?_
      refine va_get (D := G) (ci := 2) (v := .ref (a 9)) (C := RX2) (T := TX2) (N := 18) hx hb hts hin2 hown hK hP 0 rfl rfl 9 (by decide) (hts (.fieldLink RX2 34 "SignalBoxModel" "at" "[I") (by decide +kernel)) (fun _ h9 => h9) rfl dX2_same_19 ?_
      refine lv_iload_n hx hb dX2_same_22 rfl (lv_at hl 1 rfl) ?_
      obtain ⟨h5, hF⟩ := o_n hF
      refine va_iald (n := 12) (f := z3.2.1) (cA := cy) hx hb hK hP 9 0 rfl rfl h5 dX2_same_23 ?_
      obtain ⟨v5, e5, hF⟩ := o_l hF
      refine w_top e5 ?_
      refine lv_aload_n hx hb dX2_same_24 rfl (lv_at hl 0 rfl) ?_
      refine va_get (D := G) (ci := 2) (v := .ref (a 9)) (C := RX2) (T := TX2) (N := 18) hx hb hts hin2 hown hK hP 0 rfl rfl 9 (by decide) (hts (.fieldLink RX2 34 "SignalBoxModel" "at" "[I") (by decide +kernel)) (fun _ h9 => h9) rfl dX2_same_25 ?_
      refine lv_iload_n hx hb dX2_same_28 rfl (lv_at hl 2 rfl) ?_
      obtain ⟨h6, hF⟩ := o_n hF
      refine va_iald (n := 12) (f := z3.2.1) (cA := cy) hx hb hK hP 9 0 rfl rfl h6 dX2_same_29 ?_
      obtain ⟨v6, e6, hF⟩ := o_l hF
      refine w_top e6 ?_
      refine lv_icmp_ne (tgt := 37) hx hb dX2_same_30 (by decide) (fun c7 => ?_) (fun c7 => ?_)
      · have hF := o_f c7 hF
        refine lv_iconst (v := 0) hx hb dX2_same_37 (by decide) ?_
        obtain ⟨rfl, rfl⟩ := o_s hF
        exact rt_i X hr hlocks hP hD hS dX2_same_38
      · have hF := o_t c7 hF
        refine lv_iconst (v := 1) hx hb dX2_same_33 (by decide) ?_
        refine lv_goto (tgt := 38) hx hb dX2_same_34 (by decide) ?_
        obtain ⟨rfl, rfl⟩ := o_s hF
        exact rt_i X hr hlocks hP hD hS dX2_same_38
    · have hF := o_t c4 hF
      refine lv_iconst (v := (-1)) hx hb dX2_same_14 (by decide) ?_
      refine lv_goto (tgt := 38) hx hb dX2_same_15 (by decide) ?_
      obtain ⟨rfl, rfl⟩ := o_s hF
      exact rt_i X hr hlocks hP hD hS dX2_same_38
def fX2_lead (z0 : SM) (x1 : Int32) (x2 : Int32) : Option (Int32 × SM) := bd_ (fX2_isRoute z0 x1) (fun r1 z1 => (if r1 = 0 then some ((-1), z1) else bd_ (fX2_isPlace z1 x2) (fun r3 z3 => (if r3 = 0 then some ((-1), z3) else if x1 < 0 ∨ 6 ≤ x1.toNatClampNeg then none else let_ (z3.2.2.2.1 x1.toNatClampNeg) (fun v5 => (if v5 = 8 then some ((-2), z3) else if x1 < 0 ∨ 6 ≤ x1.toNatClampNeg then none else let_ (z3.2.2.2.1 x1.toNatClampNeg) (fun v7 => if ((8 * x1) + v7) < 0 ∨ 48 ≤ ((8 * x1) + v7).toNatClampNeg then none else let_ ((z3.1, z3.2.1, (upd z3.2.2.1 ((8 * x1) + v7).toNatClampNeg x2), z3.2.2.2) : SM) (fun z9 => if x1 < 0 ∨ 6 ≤ x1.toNatClampNeg then none else let_ (z9.2.2.2.1 x1.toNatClampNeg) (fun v10 => if x1 < 0 ∨ 6 ≤ x1.toNatClampNeg then none else let_ ((z9.1, z9.2.1, z9.2.2.1, (upd z9.2.2.2.1 x1.toNatClampNeg (v10 + 1)), z9.2.2.2.2) : SM) (fun z12 => if x1 < 0 ∨ 6 ≤ x1.toNatClampNeg then none else let_ (z12.2.2.2.1 x1.toNatClampNeg) (fun v13 => some (v13, z12))))))))))))
set_option maxRecDepth 100000 in
set_option maxHeartbeats 4000000 in
theorem kX2_lead (l : Launch) (G : va_G) (cy cyO : ClassId) (a : Nat → Nat) (z0 : SM) (x1 : Int32) (x2 : Int32) (r : Int32) (u : SM) (hF : fX2_lead z0 x1 x2 = some (r, u)) : Ct l G (tys_ cy cyO) yX2_lead wsX2_lead ({ frames := 2, cells := 0, slots := 0, locals := 42 } : Room) [.ref (a 0), .int x1, .int x2] (mW a cy z0) (some (.int r)) (mW a cy u) := by
  unfold fX2_lead at hF
  refine ct_of (cc := cX2_lead) (maxL := 3) (ret := (some .int)) (own := RX2) (by decide) rfl (Nat.le_of_ble_eq_true rfl) rfl ?_
  intro p e s m below meth c A ls X hr hlocks _ hK hN hA hP hD hl
  have hS : va_S A s.heap s.heap [] := va_S.rf
  have hl : lv_has ls 3 [(0, .ref (a 0)), (1, .int x1), (2, .int x2)] := hl
  obtain ⟨hx, hb, hml, hown, hts⟩ := id X
  have hin2 : ∀ w ∈ wsX20, w ∈ wsX2_lead := by decide +kernel
  refine lv_iload_n hx hb dX2_lead_0 rfl (lv_at hl 1 rfl) ?_
  obtain ⟨r1, z1, hG1, hF⟩ := o_b hF
  refine cl_S (rest := []) X hK hN hA hP hD hS (kX2_isRoute l G cy cyO a z0 x1 r1 z1 hG1) (va_cwS 1 hts gX2_lead_X2_isRoute rfl rfl rfl (by decide +kernel) ⟨Nat.le_of_ble_eq_true rfl, Nat.le_of_ble_eq_true rfl⟩) rfl hl.1 rfl (Nat.le_of_ble_eq_true rfl) dX2_lead_1 ⟨Nat.zero_le _, Nat.zero_le _⟩ (fun H locs hP hD hS => ?_)
  refine W.eq (g2 := F0 m 4 ls [.int r1]) rfl ?_
  refine lv_if_eq (tgt := 14) hx hb dX2_lead_4 (by decide) (fun c2 => ?_) (fun c2 => ?_)
  · have hF := o_t c2 hF
    refine lv_iconst (v := (-1)) hx hb dX2_lead_14 (by decide) ?_
    obtain ⟨rfl, rfl⟩ := o_s hF
    exact rt_i X hr hlocks hP hD hS dX2_lead_15
  · have hF := o_f c2 hF
    refine lv_iload_n hx hb dX2_lead_7 rfl (lv_at hl 2 rfl) ?_
    obtain ⟨r3, z3, hG3, hF⟩ := o_b hF
    refine cl_S (rest := []) X hK hN hA hP hD hS (kX2_isPlace l G cy cyO a z1 x2 r3 z3 hG3) (va_cwS 1 hts gX2_lead_X2_isPlace rfl rfl rfl (by decide +kernel) ⟨Nat.le_of_ble_eq_true rfl, Nat.le_of_ble_eq_true rfl⟩) rfl hl.1 rfl (Nat.le_of_ble_eq_true rfl) dX2_lead_8 ⟨Nat.zero_le _, Nat.zero_le _⟩ (fun H locs hP hD hS => ?_)
    refine W.eq (g2 := F0 m 11 ls [.int r3]) rfl ?_
    refine lv_if_ne (tgt := 16) hx hb dX2_lead_11 (by decide) (fun c4 => ?_) (fun c4 => ?_)
    · have hF := o_f c4 hF
      refine lv_aload_n hx hb dX2_lead_16 rfl (lv_at hl 0 rfl) ?_
      refine va_get (D := G) (ci := 2) (v := .ref (a 11)) (C := RX2) (T := TX2) (N := 18) hx hb hts hin2 hown hK hP 0 rfl rfl 11 (by decide) (hts (.fieldLink RX2 40 "SignalBoxModel" "lengths" "[I") (by decide +kernel)) (fun _ h9 => h9) rfl dX2_lead_17 ?_
      refine lv_iload_n hx hb dX2_lead_20 rfl (lv_at hl 1 rfl) ?_
      obtain ⟨h5, hF⟩ := o_n hF
      refine va_iald (n := 6) (f := z3.2.2.2.1) (cA := cy) hx hb hK hP 11 0 rfl rfl h5 dX2_lead_21 ?_
      obtain ⟨v5, e5, hF⟩ := o_l hF
      refine w_top e5 ?_
      refine lv_bipush (v := 8) hx hb dX2_lead_22 (by decide) ?_
      refine lv_icmp_ne (tgt := 30) hx hb dX2_lead_24 (by decide) (fun c6 => ?_) (fun c6 => ?_)
      · have hF := o_f c6 hF
        refine lv_aload_n hx hb dX2_lead_30 rfl (lv_at hl 0 rfl) ?_
        refine va_get (D := G) (ci := 2) (v := .ref (a 10)) (C := RX2) (T := TX2) (N := 18) hx hb hts hin2 hown hK hP 0 rfl rfl 10 (by decide) (hts (.fieldLink RX2 37 "SignalBoxModel" "routes" "[I") (by decide +kernel)) (fun _ h9 => h9) rfl dX2_lead_31 ?_
        refine lv_bipush (v := 8) hx hb dX2_lead_34 (by decide) ?_
        refine lv_iload_n hx hb dX2_lead_36 rfl (lv_at hl 1 rfl) ?_
        refine lv_imul hx hb dX2_lead_37 ?_
        refine lv_aload_n hx hb dX2_lead_38 rfl (lv_at hl 0 rfl) ?_
        refine va_get (D := G) (ci := 2) (v := .ref (a 11)) (C := RX2) (T := TX2) (N := 18) hx hb hts hin2 hown hK hP 0 rfl rfl 11 (by decide) (hts (.fieldLink RX2 40 "SignalBoxModel" "lengths" "[I") (by decide +kernel)) (fun _ h9 => h9) rfl dX2_lead_39 ?_
        refine lv_iload_n hx hb dX2_lead_42 rfl (lv_at hl 1 rfl) ?_
        obtain ⟨h7, hF⟩ := o_n hF
        refine va_iald (n := 6) (f := z3.2.2.2.1) (cA := cy) hx hb hK hP 11 0 rfl rfl h7 dX2_lead_43 ?_
        obtain ⟨v7, e7, hF⟩ := o_l hF
        refine w_top e7 ?_
        refine lv_iadd hx hb dX2_lead_44 ?_
        refine lv_iload_n hx hb dX2_lead_45 rfl (lv_at hl 2 rfl) ?_
        obtain ⟨h8, hF⟩ := o_n hF
        refine va_iast (n := 48) (f := z3.2.2.1) (cA := cy) hx hb hK hP hD hS 10 0 rfl rfl h8 dX2_lead_46 (fun H locs hP hD hS => ?_)
        obtain ⟨z9, e9, hF⟩ := o_l hF
        have hP : va_P G vwCl (mW a cy z9) H := by rw [e9]; exact hP
        have hD : va_D A (mW a cy z9) := by rw [e9]; exact hD
        refine lv_aload_n hx hb dX2_lead_47 rfl (lv_at hl 0 rfl) ?_
        refine va_get (D := G) (ci := 2) (v := .ref (a 11)) (C := RX2) (T := TX2) (N := 18) hx hb hts hin2 hown hK hP 0 rfl rfl 11 (by decide) (hts (.fieldLink RX2 40 "SignalBoxModel" "lengths" "[I") (by decide +kernel)) (fun _ h9 => h9) rfl dX2_lead_48 ?_
        refine lv_iload_n hx hb dX2_lead_51 rfl (lv_at hl 1 rfl) ?_
        refine lv_dup2_11 hx hb dX2_lead_52 rfl rfl ?_
        obtain ⟨h10, hF⟩ := o_n hF
        refine va_iald (n := 6) (f := z9.2.2.2.1) (cA := cy) hx hb hK hP 11 0 rfl rfl h10 dX2_lead_53 ?_
        obtain ⟨v10, e10, hF⟩ := o_l hF
        refine w_top e10 ?_
        refine lv_iconst (v := 1) hx hb dX2_lead_54 (by decide) ?_
        refine lv_iadd hx hb dX2_lead_55 ?_
        obtain ⟨h11, hF⟩ := o_n hF
        refine va_iast (n := 6) (f := z9.2.2.2.1) (cA := cy) hx hb hK hP hD hS 11 0 rfl rfl h11 dX2_lead_56 (fun H locs hP hD hS => ?_)
        obtain ⟨z12, e12, hF⟩ := o_l hF
        have hP : va_P G vwCl (mW a cy z12) H := by rw [e12]; exact hP
        have hD : va_D A (mW a cy z12) := by rw [e12]; exact hD
        refine lv_aload_n hx hb dX2_lead_57 rfl (lv_at hl 0 rfl) ?_
        refine va_get (D := G) (ci := 2) (v := .ref (a 11)) (C := RX2) (T := TX2) (N := 18) hx hb hts hin2 hown hK hP 0 rfl rfl 11 (by decide) (hts (.fieldLink RX2 40 "SignalBoxModel" "lengths" "[I") (by decide +kernel)) (fun _ h9 => h9) rfl dX2_lead_58 ?_
        refine lv_iload_n hx hb dX2_lead_61 rfl (lv_at hl 1 rfl) ?_
        obtain ⟨h13, hF⟩ := o_n hF
        refine va_iald (n := 6) (f := z12.2.2.2.1) (cA := cy) hx hb hK hP 11 0 rfl rfl h13 dX2_lead_62 ?_
        obtain ⟨v13, e13, hF⟩ := o_l hF
        refine w_top e13 ?_
        obtain ⟨rfl, rfl⟩ := o_s hF
        exact rt_i X hr hlocks hP hD hS dX2_lead_63
      · have hF := o_t c6 hF
        refine lv_bipush (v := (-2)) hx hb dX2_lead_27 (by decide) ?_
        obtain ⟨rfl, rfl⟩ := o_s hF
        exact rt_i X hr hlocks hP hD hS dX2_lead_29
    · have hF := o_t c4 hF
      refine lv_iconst (v := (-1)) hx hb dX2_lead_14 (by decide) ?_
      obtain ⟨rfl, rfl⟩ := o_s hF
      exact rt_i X hr hlocks hP hD hS dX2_lead_15
def fX2_unlead (z0 : SM) (x1 : Int32) : Option (Int32 × SM) := bd_ (fX2_isRoute z0 x1) (fun r1 z1 => (if r1 = 0 then some ((-1), z1) else if x1 < 0 ∨ 6 ≤ x1.toNatClampNeg then none else let_ (z1.2.2.2.1 x1.toNatClampNeg) (fun v3 => if x1 < 0 ∨ 6 ≤ x1.toNatClampNeg then none else let_ ((z1.1, z1.2.1, z1.2.2.1, (upd z1.2.2.2.1 x1.toNatClampNeg 0), z1.2.2.2.2) : SM) (fun z5 => some (v3, z5)))))
set_option maxRecDepth 100000 in
set_option maxHeartbeats 4000000 in
theorem kX2_unlead (l : Launch) (G : va_G) (cy cyO : ClassId) (a : Nat → Nat) (z0 : SM) (x1 : Int32) (r : Int32) (u : SM) (hF : fX2_unlead z0 x1 = some (r, u)) : Ct l G (tys_ cy cyO) yX2_unlead wsX2_unlead ({ frames := 2, cells := 0, slots := 0, locals := 42 } : Room) [.ref (a 0), .int x1] (mW a cy z0) (some (.int r)) (mW a cy u) := by
  unfold fX2_unlead at hF
  refine ct_of (cc := cX2_unlead) (maxL := 3) (ret := (some .int)) (own := RX2) (by decide) rfl (Nat.le_of_ble_eq_true rfl) rfl ?_
  intro p e s m below meth c A ls X hr hlocks _ hK hN hA hP hD hl
  have hS : va_S A s.heap s.heap [] := va_S.rf
  have hl : lv_has ls 3 [(0, .ref (a 0)), (1, .int x1)] := hl
  obtain ⟨hx, hb, hml, hown, hts⟩ := id X
  have hin2 : ∀ w ∈ wsX20, w ∈ wsX2_unlead := by decide +kernel
  refine lv_iload_n hx hb dX2_unlead_0 rfl (lv_at hl 1 rfl) ?_
  obtain ⟨r1, z1, hG1, hF⟩ := o_b hF
  refine cl_S (rest := []) X hK hN hA hP hD hS (kX2_isRoute l G cy cyO a z0 x1 r1 z1 hG1) (va_cwS 1 hts gX2_unlead_X2_isRoute rfl rfl rfl (by decide +kernel) ⟨Nat.le_of_ble_eq_true rfl, Nat.le_of_ble_eq_true rfl⟩) rfl hl.1 rfl (Nat.le_of_ble_eq_true rfl) dX2_unlead_1 ⟨Nat.zero_le _, Nat.zero_le _⟩ (fun H locs hP hD hS => ?_)
  refine W.eq (g2 := F0 m 4 ls [.int r1]) rfl ?_
  refine lv_if_ne (tgt := 9) hx hb dX2_unlead_4 (by decide) (fun c2 => ?_) (fun c2 => ?_)
  · have hF := o_f c2 hF
    refine lv_aload_n hx hb dX2_unlead_9 rfl (lv_at hl 0 rfl) ?_
    refine va_get (D := G) (ci := 2) (v := .ref (a 11)) (C := RX2) (T := TX2) (N := 18) hx hb hts hin2 hown hK hP 0 rfl rfl 11 (by decide) (hts (.fieldLink RX2 40 "SignalBoxModel" "lengths" "[I") (by decide +kernel)) (fun _ h9 => h9) rfl dX2_unlead_10 ?_
    refine lv_iload_n hx hb dX2_unlead_13 rfl (lv_at hl 1 rfl) ?_
    obtain ⟨h3, hF⟩ := o_n hF
    refine va_iald (n := 6) (f := z1.2.2.2.1) (cA := cy) hx hb hK hP 11 0 rfl rfl h3 dX2_unlead_14 ?_
    obtain ⟨v3, e3, hF⟩ := o_l hF
    refine w_top e3 ?_
    refine lv_istore_n (lv' := [(2, .int v3), (0, .ref (a 0)), (1, .int x1)]) hx hb dX2_unlead_15 rfl hl (by decide) rfl (fun ls hl => ?_)
    refine lv_aload_n hx hb dX2_unlead_16 rfl (lv_at hl 1 rfl) ?_
    refine va_get (D := G) (ci := 2) (v := .ref (a 11)) (C := RX2) (T := TX2) (N := 18) hx hb hts hin2 hown hK hP 0 rfl rfl 11 (by decide) (hts (.fieldLink RX2 40 "SignalBoxModel" "lengths" "[I") (by decide +kernel)) (fun _ h9 => h9) rfl dX2_unlead_17 ?_
    refine lv_iload_n hx hb dX2_unlead_20 rfl (lv_at hl 2 rfl) ?_
    refine lv_iconst (v := 0) hx hb dX2_unlead_21 (by decide) ?_
    obtain ⟨h4, hF⟩ := o_n hF
    refine va_iast (n := 6) (f := z1.2.2.2.1) (cA := cy) hx hb hK hP hD hS 11 0 rfl rfl h4 dX2_unlead_22 (fun H locs hP hD hS => ?_)
    obtain ⟨z5, e5, hF⟩ := o_l hF
    have hP : va_P G vwCl (mW a cy z5) H := by rw [e5]; exact hP
    have hD : va_D A (mW a cy z5) := by rw [e5]; exact hD
    refine lv_iload_n hx hb dX2_unlead_23 rfl (lv_at hl 0 rfl) ?_
    obtain ⟨rfl, rfl⟩ := o_s hF
    exact rt_i X hr hlocks hP hD hS dX2_unlead_24
  · have hF := o_t c2 hF
    refine lv_iconst (v := (-1)) hx hb dX2_unlead_7 (by decide) ?_
    obtain ⟨rfl, rfl⟩ := o_s hF
    exact rt_i X hr hlocks hP hD hS dX2_unlead_8
def fX2_passed (z0 : SM) : Option (Int32 × SM) := some (z0.2.2.2.2.2.2.2.2.2.2, z0)
set_option maxRecDepth 100000 in
set_option maxHeartbeats 4000000 in
theorem kX2_passed (l : Launch) (G : va_G) (cy cyO : ClassId) (a : Nat → Nat) (z0 : SM) (r : Int32) (u : SM) (hF : fX2_passed z0 = some (r, u)) : Ct l G (tys_ cy cyO) yX2_passed wsX2_passed ({ frames := 0, cells := 0, slots := 0, locals := 0 } : Room) [.ref (a 0)] (mW a cy z0) (some (.int r)) (mW a cy u) := by
  unfold fX2_passed at hF
  refine ct_of (cc := cX2_passed) (maxL := 1) (ret := (some .int)) (own := RX2) (by decide) rfl (Nat.le_of_ble_eq_true rfl) rfl ?_
  intro p e s m below meth c A ls X hr hlocks _ hK hN hA hP hD hl
  have hS : va_S A s.heap s.heap [] := va_S.rf
  have hl : lv_has ls 1 [(0, .ref (a 0))] := hl
  obtain ⟨hx, hb, hml, hown, hts⟩ := id X
  have hin2 : ∀ w ∈ wsX20, w ∈ wsX2_passed := by decide +kernel
  refine lv_aload_n hx hb dX2_passed_0 rfl (lv_at hl 0 rfl) ?_
  refine va_get (D := G) (ci := 2) (v := .int z0.2.2.2.2.2.2.2.2.2.2) (C := RX2) (T := TX2) (N := 18) hx hb hts hin2 hown hK hP 0 rfl rfl 14 (by decide) (hts (.fieldLink RX2 85 "SignalBoxModel" "passed" "I") (by decide +kernel)) (fun _ h9 => h9) rfl dX2_passed_1 ?_
  obtain ⟨rfl, rfl⟩ := o_s hF
  exact rt_i X hr hlocks hP hD hS dX2_passed_4
def fX2_trace (z0 : SM) (x1 : Int32) : Option (Int32 × SM) := (if x1 = (-1) then some (z0.2.2.2.2.2.1, z0) else bd_ (fX2_in z0 x1 0 (z0.2.2.2.2.2.1 - 1)) (fun r2 z2 => (if r2 = 0 then some ((-1), z2) else if x1 < 0 ∨ 150 ≤ x1.toNatClampNeg then none else let_ (z2.2.2.2.2.1 x1.toNatClampNeg) (fun v4 => some (v4, z2)))))
set_option maxRecDepth 100000 in
set_option maxHeartbeats 4000000 in
theorem kX2_trace (l : Launch) (G : va_G) (cy cyO : ClassId) (a : Nat → Nat) (z0 : SM) (x1 : Int32) (r : Int32) (u : SM) (hF : fX2_trace z0 x1 = some (r, u)) : Ct l G (tys_ cy cyO) yX2_trace wsX2_trace ({ frames := 1, cells := 0, slots := 0, locals := 22 } : Room) [.ref (a 0), .int x1] (mW a cy z0) (some (.int r)) (mW a cy u) := by
  unfold fX2_trace at hF
  refine ct_of (cc := cX2_trace) (maxL := 2) (ret := (some .int)) (own := RX2) (by decide) rfl (Nat.le_of_ble_eq_true rfl) rfl ?_
  intro p e s m below meth c A ls X hr hlocks _ hK hN hA hP hD hl
  have hS : va_S A s.heap s.heap [] := va_S.rf
  have hl : lv_has ls 2 [(0, .ref (a 0)), (1, .int x1)] := hl
  obtain ⟨hx, hb, hml, hown, hts⟩ := id X
  have hin2 : ∀ w ∈ wsX20, w ∈ wsX2_trace := by decide +kernel
  refine lv_iload_n hx hb dX2_trace_0 rfl (lv_at hl 1 rfl) ?_
  refine lv_iconst (v := (-1)) hx hb dX2_trace_1 (by decide) ?_
  refine lv_icmp_ne (tgt := 12) hx hb dX2_trace_2 (by decide) (fun c1 => ?_) (fun c1 => ?_)
  · have hF := o_f c1 hF
    refine lv_iload_n hx hb dX2_trace_12 rfl (lv_at hl 1 rfl) ?_
    refine lv_iconst (v := 0) hx hb dX2_trace_13 (by decide) ?_
    refine lv_aload_n hx hb dX2_trace_14 rfl (lv_at hl 0 rfl) ?_
    refine va_get (D := G) (ci := 2) (v := .int z0.2.2.2.2.2.1) (C := RX2) (T := TX2) (N := 18) hx hb hts hin2 hown hK hP 0 rfl rfl 13 (by decide) (hts (.fieldLink RX2 62 "SignalBoxModel" "traced" "I") (by decide +kernel)) (fun _ h9 => h9) rfl dX2_trace_15 ?_
    refine lv_iconst (v := 1) hx hb dX2_trace_18 (by decide) ?_
    refine lv_isub hx hb dX2_trace_19 ?_
    obtain ⟨r2, z2, hG2, hF⟩ := o_b hF
    refine cl_S (rest := []) X hK hN hA hP hD hS (kX2_in l G cy cyO a z0 x1 0 (z0.2.2.2.2.2.1 - 1) r2 z2 hG2) (va_cwS 3 hts gX2_trace_X2_in rfl rfl rfl (by decide +kernel) ⟨Nat.le_of_ble_eq_true rfl, Nat.le_of_ble_eq_true rfl⟩) rfl hl.1 rfl (Nat.le_of_ble_eq_true rfl) dX2_trace_20 ⟨Nat.zero_le _, Nat.zero_le _⟩ (fun H locs hP hD hS => ?_)
    refine W.eq (g2 := F0 m 23 ls [.int r2]) rfl ?_
    refine lv_if_eq (tgt := 35) hx hb dX2_trace_23 (by decide) (fun c3 => ?_) (fun c3 => ?_)
    · have hF := o_t c3 hF
      refine lv_iconst (v := (-1)) hx hb dX2_trace_35 (by decide) ?_
      obtain ⟨rfl, rfl⟩ := o_s hF
      exact rt_i X hr hlocks hP hD hS dX2_trace_36
    · have hF := o_f c3 hF
      refine lv_aload_n hx hb dX2_trace_26 rfl (lv_at hl 0 rfl) ?_
      refine va_get (D := G) (ci := 2) (v := .ref (a 12)) (C := RX2) (T := TX2) (N := 18) hx hb hts hin2 hown hK hP 0 rfl rfl 12 (by decide) (hts (.fieldLink RX2 43 "SignalBoxModel" "trace" "[I") (by decide +kernel)) (fun _ h9 => h9) rfl dX2_trace_27 ?_
      refine lv_iload_n hx hb dX2_trace_30 rfl (lv_at hl 1 rfl) ?_
      obtain ⟨h4, hF⟩ := o_n hF
      refine va_iald (n := 150) (f := z2.2.2.2.2.1) (cA := cy) hx hb hK hP 12 0 rfl rfl h4 dX2_trace_31 ?_
      obtain ⟨v4, e4, hF⟩ := o_l hF
      refine w_top e4 ?_
      refine lv_goto (tgt := 36) hx hb dX2_trace_32 (by decide) ?_
      obtain ⟨rfl, rfl⟩ := o_s hF
      exact rt_i X hr hlocks hP hD hS dX2_trace_36
  · have hF := o_t c1 hF
    refine lv_aload_n hx hb dX2_trace_5 rfl (lv_at hl 0 rfl) ?_
    refine va_get (D := G) (ci := 2) (v := .int z0.2.2.2.2.2.1) (C := RX2) (T := TX2) (N := 18) hx hb hts hin2 hown hK hP 0 rfl rfl 13 (by decide) (hts (.fieldLink RX2 62 "SignalBoxModel" "traced" "I") (by decide +kernel)) (fun _ h9 => h9) rfl dX2_trace_6 ?_
    refine lv_goto (tgt := 36) hx hb dX2_trace_9 (by decide) ?_
    obtain ⟨rfl, rfl⟩ := o_s hF
    exact rt_i X hr hlocks hP hD hS dX2_trace_36
def fX2_told (z0 : SM) (x1 : Int32) (x2 : Int32) : Option (Int32 × SM) := bd_ (fX2_isPlace z0 x1) (fun r1 z1 => (if r1 = 0 then some ((-1), z1) else if x1 < 0 ∨ 12 ≤ x1.toNatClampNeg then none else let_ (z1.2.1 x1.toNatClampNeg) (fun v3 => (if 0 ≤ v3 then if x1 < 0 ∨ 12 ≤ x1.toNatClampNeg then none else let_ (z1.2.1 x1.toNatClampNeg) (fun v5 => (if x2 = 0 then some (v5, z1) else (if x2 = 1 then if v5 < 0 ∨ 640 ≤ v5.toNatClampNeg then none else let_ ((z1.1 1) v5.toNatClampNeg) (fun v15 => some (v15, z1)) else (if x2 = 2 then if v5 < 0 ∨ 640 ≤ v5.toNatClampNeg then none else let_ ((z1.1 2) v5.toNatClampNeg) (fun v16 => some (v16, z1)) else (if x2 = 3 then if v5 < 0 ∨ 640 ≤ v5.toNatClampNeg then none else let_ ((z1.1 3) v5.toNatClampNeg) (fun v17 => some (v17, z1)) else (if x2 = 4 then if v5 < 0 ∨ 640 ≤ v5.toNatClampNeg then none else let_ ((z1.1 4) v5.toNatClampNeg) (fun v18 => some (v18, z1)) else (if x2 = 5 then if v5 < 0 ∨ 640 ≤ v5.toNatClampNeg then none else let_ ((z1.1 5) v5.toNatClampNeg) (fun v19 => some (v19, z1)) else (if x2 = 6 then if v5 < 0 ∨ 640 ≤ v5.toNatClampNeg then none else let_ ((z1.1 6) v5.toNatClampNeg) (fun v20 => some (v20, z1)) else (if x2 = 7 then if v5 < 0 ∨ 640 ≤ v5.toNatClampNeg then none else let_ ((z1.1 7) v5.toNatClampNeg) (fun v21 => some (v21, z1)) else (if x2 = 8 then if v5 < 0 ∨ 640 ≤ v5.toNatClampNeg then none else let_ ((z1.1 8) v5.toNatClampNeg) (fun v22 => some (v22, z1)) else some ((-1), z1))))))))))) else some ((-1), z1)))))
set_option maxRecDepth 100000 in
set_option maxHeartbeats 4000000 in
theorem kX2_told (l : Launch) (G : va_G) (cy cyO : ClassId) (a : Nat → Nat) (z0 : SM) (x1 : Int32) (x2 : Int32) (r : Int32) (u : SM) (hF : fX2_told z0 x1 x2 = some (r, u)) : Ct l G (tys_ cy cyO) yX2_told wsX2_told ({ frames := 2, cells := 0, slots := 0, locals := 42 } : Room) [.ref (a 0), .int x1, .int x2] (mW a cy z0) (some (.int r)) (mW a cy u) := by
  unfold fX2_told at hF
  refine ct_of (cc := cX2_told) (maxL := 4) (ret := (some .int)) (own := RX2) (by decide) rfl (Nat.le_of_ble_eq_true rfl) rfl ?_
  intro p e s m below meth c A ls X hr hlocks _ hK hN hA hP hD hl
  have hS : va_S A s.heap s.heap [] := va_S.rf
  have hl : lv_has ls 4 [(0, .ref (a 0)), (1, .int x1), (2, .int x2)] := hl
  obtain ⟨hx, hb, hml, hown, hts⟩ := id X
  have hin2 : ∀ w ∈ wsX20, w ∈ wsX2_told := by decide +kernel
  refine lv_iload_n hx hb dX2_told_0 rfl (lv_at hl 1 rfl) ?_
  obtain ⟨r1, z1, hG1, hF⟩ := o_b hF
  refine cl_S (rest := []) X hK hN hA hP hD hS (kX2_isPlace l G cy cyO a z0 x1 r1 z1 hG1) (va_cwS 1 hts gX2_told_X2_isPlace rfl rfl rfl (by decide +kernel) ⟨Nat.le_of_ble_eq_true rfl, Nat.le_of_ble_eq_true rfl⟩) rfl hl.1 rfl (Nat.le_of_ble_eq_true rfl) dX2_told_1 ⟨Nat.zero_le _, Nat.zero_le _⟩ (fun H locs hP hD hS => ?_)
  refine W.eq (g2 := F0 m 4 ls [.int r1]) rfl ?_
  refine lv_if_eq (tgt := 16) hx hb dX2_told_4 (by decide) (fun c2 => ?_) (fun c2 => ?_)
  · have hF := o_t c2 hF
    refine lv_iconst (v := (-1)) hx hb dX2_told_16 (by decide) ?_
    obtain ⟨rfl, rfl⟩ := o_s hF
    exact rt_i X hr hlocks hP hD hS dX2_told_17
  · have hF := o_f c2 hF
    refine lv_aload_n hx hb dX2_told_7 rfl (lv_at hl 0 rfl) ?_
    refine va_get (D := G) (ci := 2) (v := .ref (a 9)) (C := RX2) (T := TX2) (N := 18) hx hb hts hin2 hown hK hP 0 rfl rfl 9 (by decide) (hts (.fieldLink RX2 34 "SignalBoxModel" "at" "[I") (by decide +kernel)) (fun _ h9 => h9) rfl dX2_told_8 ?_
    refine lv_iload_n hx hb dX2_told_11 rfl (lv_at hl 1 rfl) ?_
    obtain ⟨h3, hF⟩ := o_n hF
    refine va_iald (n := 12) (f := z1.2.1) (cA := cy) hx hb hK hP 9 0 rfl rfl h3 dX2_told_12 ?_
    obtain ⟨v3, e3, hF⟩ := o_l hF
    refine w_top e3 ?_
    refine lv_if_ge (tgt := 18) hx hb dX2_told_13 (by decide) (fun c4 => ?_) (fun c4 => ?_)
    · have hF := o_t c4 hF
      refine lv_aload_n hx hb dX2_told_18 rfl (lv_at hl 0 rfl) ?_
      refine va_get (D := G) (ci := 2) (v := .ref (a 9)) (C := RX2) (T := TX2) (N := 18) hx hb hts hin2 hown hK hP 0 rfl rfl 9 (by decide) (hts (.fieldLink RX2 34 "SignalBoxModel" "at" "[I") (by decide +kernel)) (fun _ h9 => h9) rfl dX2_told_19 ?_
      refine lv_iload_n hx hb dX2_told_22 rfl (lv_at hl 1 rfl) ?_
      obtain ⟨h5, hF⟩ := o_n hF
      refine va_iald (n := 12) (f := z1.2.1) (cA := cy) hx hb hK hP 9 0 rfl rfl h5 dX2_told_23 ?_
      obtain ⟨v5, e5, hF⟩ := o_l hF
      refine w_top e5 ?_
      refine lv_istore_n (lv' := [(3, .int v5), (0, .ref (a 0)), (1, .int x1), (2, .int x2)]) hx hb dX2_told_24 rfl hl (by decide) rfl (fun ls hl => ?_)
      refine lv_iload_n hx hb dX2_told_25 rfl (lv_at hl 3 rfl) ?_
      by_cases c6 : x2 = 0
      · have hF := o_t c6 hF
        refine lv_tableIn (off := 50) (tgt := 76) hx hb dX2_told_26 (by rw [c6]; decide) (by rw [c6]; decide) (by rw [c6]; rfl) (by decide) ?_
        refine lv_iload_n hx hb dX2_told_76 rfl (lv_at hl 0 rfl) ?_
        obtain ⟨rfl, rfl⟩ := o_s hF
        exact rt_i X hr hlocks hP hD hS dX2_told_77
      · have hF := o_f c6 hF
        by_cases c7 : x2 = 1
        · have hF := o_t c7 hF
          refine lv_tableIn (off := 52) (tgt := 78) hx hb dX2_told_26 (by rw [c7]; decide) (by rw [c7]; decide) (by rw [c7]; rfl) (by decide) ?_
          refine lv_aload_n hx hb dX2_told_78 rfl (lv_at hl 1 rfl) ?_
          refine va_get (D := G) (ci := 2) (v := .ref (a 1)) (C := RX2) (T := TX2) (N := 18) hx hb hts hin2 hown hK hP 0 rfl rfl 1 (by decide) (hts (.fieldLink RX2 7 "SignalBoxModel" "kinds" "[I") (by decide +kernel)) (fun _ h9 => h9) rfl dX2_told_79 ?_
          refine lv_iload_n hx hb dX2_told_82 rfl (lv_at hl 0 rfl) ?_
          obtain ⟨h15, hF⟩ := o_n hF
          refine va_iald (n := 640) (f := (z1.1 1)) (cA := cy) hx hb hK hP 1 0 rfl rfl h15 dX2_told_83 ?_
          obtain ⟨v15, e15, hF⟩ := o_l hF
          refine w_top e15 ?_
          obtain ⟨rfl, rfl⟩ := o_s hF
          exact rt_i X hr hlocks hP hD hS dX2_told_84
        · have hF := o_f c7 hF
          by_cases c8 : x2 = 2
          · have hF := o_t c8 hF
            refine lv_tableIn (off := 59) (tgt := 85) hx hb dX2_told_26 (by rw [c8]; decide) (by rw [c8]; decide) (by rw [c8]; rfl) (by decide) ?_
            refine lv_aload_n hx hb dX2_told_85 rfl (lv_at hl 1 rfl) ?_
            refine va_get (D := G) (ci := 2) (v := .ref (a 2)) (C := RX2) (T := TX2) (N := 18) hx hb hts hin2 hown hK hP 0 rfl rfl 2 (by decide) (hts (.fieldLink RX2 13 "SignalBoxModel" "limits" "[I") (by decide +kernel)) (fun _ h9 => h9) rfl dX2_told_86 ?_
            refine lv_iload_n hx hb dX2_told_89 rfl (lv_at hl 0 rfl) ?_
            obtain ⟨h16, hF⟩ := o_n hF
            refine va_iald (n := 640) (f := (z1.1 2)) (cA := cy) hx hb hK hP 2 0 rfl rfl h16 dX2_told_90 ?_
            obtain ⟨v16, e16, hF⟩ := o_l hF
            refine w_top e16 ?_
            obtain ⟨rfl, rfl⟩ := o_s hF
            exact rt_i X hr hlocks hP hD hS dX2_told_91
          · have hF := o_f c8 hF
            by_cases c9 : x2 = 3
            · have hF := o_t c9 hF
              refine lv_tableIn (off := 66) (tgt := 92) hx hb dX2_told_26 (by rw [c9]; decide) (by rw [c9]; decide) (by rw [c9]; rfl) (by decide) ?_
              refine lv_aload_n hx hb dX2_told_92 rfl (lv_at hl 1 rfl) ?_
              refine va_get (D := G) (ci := 2) (v := .ref (a 3)) (C := RX2) (T := TX2) (N := 18) hx hb hts hin2 hown hK hP 0 rfl rfl 3 (by decide) (hts (.fieldLink RX2 16 "SignalBoxModel" "marks" "[I") (by decide +kernel)) (fun _ h9 => h9) rfl dX2_told_93 ?_
              refine lv_iload_n hx hb dX2_told_96 rfl (lv_at hl 0 rfl) ?_
              obtain ⟨h17, hF⟩ := o_n hF
              refine va_iald (n := 640) (f := (z1.1 3)) (cA := cy) hx hb hK hP 3 0 rfl rfl h17 dX2_told_97 ?_
              obtain ⟨v17, e17, hF⟩ := o_l hF
              refine w_top e17 ?_
              obtain ⟨rfl, rfl⟩ := o_s hF
              exact rt_i X hr hlocks hP hD hS dX2_told_98
            · have hF := o_f c9 hF
              by_cases c10 : x2 = 4
              · have hF := o_t c10 hF
                refine lv_tableIn (off := 73) (tgt := 99) hx hb dX2_told_26 (by rw [c10]; decide) (by rw [c10]; decide) (by rw [c10]; rfl) (by decide) ?_
                refine lv_aload_n hx hb dX2_told_99 rfl (lv_at hl 1 rfl) ?_
                refine va_get (D := G) (ci := 2) (v := .ref (a 4)) (C := RX2) (T := TX2) (N := 18) hx hb hts hin2 hown hK hP 0 rfl rfl 4 (by decide) (hts (.fieldLink RX2 19 "SignalBoxModel" "axles" "[I") (by decide +kernel)) (fun _ h9 => h9) rfl dX2_told_100 ?_
                refine lv_iload_n hx hb dX2_told_103 rfl (lv_at hl 0 rfl) ?_
                obtain ⟨h18, hF⟩ := o_n hF
                refine va_iald (n := 640) (f := (z1.1 4)) (cA := cy) hx hb hK hP 4 0 rfl rfl h18 dX2_told_104 ?_
                obtain ⟨v18, e18, hF⟩ := o_l hF
                refine w_top e18 ?_
                obtain ⟨rfl, rfl⟩ := o_s hF
                exact rt_i X hr hlocks hP hD hS dX2_told_105
              · have hF := o_f c10 hF
                by_cases c11 : x2 = 5
                · have hF := o_t c11 hF
                  refine lv_tableIn (off := 80) (tgt := 106) hx hb dX2_told_26 (by rw [c11]; decide) (by rw [c11]; decide) (by rw [c11]; rfl) (by decide) ?_
                  refine lv_aload_n hx hb dX2_told_106 rfl (lv_at hl 1 rfl) ?_
                  refine va_get (D := G) (ci := 2) (v := .ref (a 5)) (C := RX2) (T := TX2) (N := 18) hx hb hts hin2 hown hK hP 0 rfl rfl 5 (by decide) (hts (.fieldLink RX2 22 "SignalBoxModel" "legs" "[I") (by decide +kernel)) (fun _ h9 => h9) rfl dX2_told_107 ?_
                  refine lv_iload_n hx hb dX2_told_110 rfl (lv_at hl 0 rfl) ?_
                  obtain ⟨h19, hF⟩ := o_n hF
                  refine va_iald (n := 640) (f := (z1.1 5)) (cA := cy) hx hb hK hP 5 0 rfl rfl h19 dX2_told_111 ?_
                  obtain ⟨v19, e19, hF⟩ := o_l hF
                  refine w_top e19 ?_
                  obtain ⟨rfl, rfl⟩ := o_s hF
                  exact rt_i X hr hlocks hP hD hS dX2_told_112
                · have hF := o_f c11 hF
                  by_cases c12 : x2 = 6
                  · have hF := o_t c12 hF
                    refine lv_tableIn (off := 87) (tgt := 113) hx hb dX2_told_26 (by rw [c12]; decide) (by rw [c12]; decide) (by rw [c12]; rfl) (by decide) ?_
                    refine lv_aload_n hx hb dX2_told_113 rfl (lv_at hl 1 rfl) ?_
                    refine va_get (D := G) (ci := 2) (v := .ref (a 6)) (C := RX2) (T := TX2) (N := 18) hx hb hts hin2 hown hK hP 0 rfl rfl 6 (by decide) (hts (.fieldLink RX2 25 "SignalBoxModel" "claims" "[I") (by decide +kernel)) (fun _ h9 => h9) rfl dX2_told_114 ?_
                    refine lv_iload_n hx hb dX2_told_117 rfl (lv_at hl 0 rfl) ?_
                    obtain ⟨h20, hF⟩ := o_n hF
                    refine va_iald (n := 640) (f := (z1.1 6)) (cA := cy) hx hb hK hP 6 0 rfl rfl h20 dX2_told_118 ?_
                    obtain ⟨v20, e20, hF⟩ := o_l hF
                    refine w_top e20 ?_
                    obtain ⟨rfl, rfl⟩ := o_s hF
                    exact rt_i X hr hlocks hP hD hS dX2_told_119
                  · have hF := o_f c12 hF
                    by_cases c13 : x2 = 7
                    · have hF := o_t c13 hF
                      refine lv_tableIn (off := 94) (tgt := 120) hx hb dX2_told_26 (by rw [c13]; decide) (by rw [c13]; decide) (by rw [c13]; rfl) (by decide) ?_
                      refine lv_aload_n hx hb dX2_told_120 rfl (lv_at hl 1 rfl) ?_
                      refine va_get (D := G) (ci := 2) (v := .ref (a 7)) (C := RX2) (T := TX2) (N := 18) hx hb hts hin2 hown hK hP 0 rfl rfl 7 (by decide) (hts (.fieldLink RX2 28 "SignalBoxModel" "held" "[I") (by decide +kernel)) (fun _ h9 => h9) rfl dX2_told_121 ?_
                      refine lv_iload_n hx hb dX2_told_124 rfl (lv_at hl 0 rfl) ?_
                      obtain ⟨h21, hF⟩ := o_n hF
                      refine va_iald (n := 640) (f := (z1.1 7)) (cA := cy) hx hb hK hP 7 0 rfl rfl h21 dX2_told_125 ?_
                      obtain ⟨v21, e21, hF⟩ := o_l hF
                      refine w_top e21 ?_
                      obtain ⟨rfl, rfl⟩ := o_s hF
                      exact rt_i X hr hlocks hP hD hS dX2_told_126
                    · have hF := o_f c13 hF
                      by_cases c14 : x2 = 8
                      · have hF := o_t c14 hF
                        refine lv_tableIn (off := 101) (tgt := 127) hx hb dX2_told_26 (by rw [c14]; decide) (by rw [c14]; decide) (by rw [c14]; rfl) (by decide) ?_
                        refine lv_aload_n hx hb dX2_told_127 rfl (lv_at hl 1 rfl) ?_
                        refine va_get (D := G) (ci := 2) (v := .ref (a 8)) (C := RX2) (T := TX2) (N := 18) hx hb hts hin2 hown hK hP 0 rfl rfl 8 (by decide) (hts (.fieldLink RX2 31 "SignalBoxModel" "most" "[I") (by decide +kernel)) (fun _ h9 => h9) rfl dX2_told_128 ?_
                        refine lv_iload_n hx hb dX2_told_131 rfl (lv_at hl 0 rfl) ?_
                        obtain ⟨h22, hF⟩ := o_n hF
                        refine va_iald (n := 640) (f := (z1.1 8)) (cA := cy) hx hb hK hP 8 0 rfl rfl h22 dX2_told_132 ?_
                        obtain ⟨v22, e22, hF⟩ := o_l hF
                        refine w_top e22 ?_
                        obtain ⟨rfl, rfl⟩ := o_s hF
                        exact rt_i X hr hlocks hP hD hS dX2_told_133
                      · have hF := o_f c14 hF
                        refine lv_tableOut (tgt := 134) hx hb dX2_told_26 (by have g6 := lv_neT c6 (a := 0) rfl; have g7 := lv_neT c7 (a := 1) rfl; have g8 := lv_neT c8 (a := 2) rfl; have g9 := lv_neT c9 (a := 3) rfl; have g10 := lv_neT c10 (a := 4) rfl; have g11 := lv_neT c11 (a := 5) rfl; have g12 := lv_neT c12 (a := 6) rfl; have g13 := lv_neT c13 (a := 7) rfl; have g14 := lv_neT c14 (a := 8) rfl; omega) (by decide) ?_
                        refine lv_iconst (v := (-1)) hx hb dX2_told_134 (by decide) ?_
                        obtain ⟨rfl, rfl⟩ := o_s hF
                        exact rt_i X hr hlocks hP hD hS dX2_told_135
    · have hF := o_f c4 hF
      refine lv_iconst (v := (-1)) hx hb dX2_told_16 (by decide) ?_
      obtain ⟨rfl, rfl⟩ := o_s hF
      exact rt_i X hr hlocks hP hD hS dX2_told_17
def fX2_count_j44 (K23 : SM → Int32 → Int32 → Int32 → Option (Int32 × SM)) (z0 : SM) (y1 : Int32) (y3 : Int32) (t0 : Int32) (t1 : Int32) : Option (Int32 × SM) := (K23 z0 y1 (t1 + t0) (y3 + 1))
set_option maxRecDepth 100000 in
set_option maxHeartbeats 4000000 in
theorem jX2_count_44 {p : Program} {l : Launch} {e : Env} {s : State} {m : MethodId} {args : Array Value} {below : List Frame} {meth : Method} {c : Code} {G : va_G} {cy cyO : ClassId} {a : Nat → Nat} {A : Nat → Prop} {r : Int32} {u : SM} (X : CallFix p m c cX2_count 4 s args wsX2_count RX2) (hr : meth.sig.returnType = (some .int)) (hlocks : meth.locks = false) (hK : va_K G vwCl (tys_ cy cyO) s) (hN : nw s) (hA : ∀ q, s.heap.size ≤ q → A q) (K23 : SM → Int32 → Int32 → Int32 → Option (Int32 × SM)) (hK23 : ∀ (z0 : SM) (y1 : Int32) (y2 : Int32) (y3 : Int32), K23 z0 y1 y2 y3 = some (r, u) → ∀ (H : Heap) (locs : List Loc), va_P G vwCl (mW a cy z0) H → va_D A (mW a cy z0) → va_S A s.heap H locs → ∀ (ls : Array Slot), lv_has ls 4 [(0, .ref (a 0)), (1, .int y1), (2, .int y2), (3, .int y3)] → W p l e ({ frames := 1, cells := 0, slots := 0, locals := 22 } : Room) s m args below meth c H locs 0 0 (MQ below (qg (some (.int r)) (fun t => wPost G A (mW a cy u) t) A) args s 0 0 A) (F0 m 23 ls [])) : ∀ (z0 : SM) (y1 : Int32) (y3 : Int32) (t0 : Int32) (t1 : Int32), fX2_count_j44 K23 z0 y1 y3 t0 t1 = some (r, u) → ∀ (H : Heap) (locs : List Loc), va_P G vwCl (mW a cy z0) H → va_D A (mW a cy z0) → va_S A s.heap H locs → ∀ (ls : Array Slot), lv_has ls 4 [(0, .ref (a 0)), (1, .int y1), (3, .int y3)] → W p l e ({ frames := 1, cells := 0, slots := 0, locals := 22 } : Room) s m args below meth c H locs 0 0 (MQ below (qg (some (.int r)) (fun t => wPost G A (mW a cy u) t) A) args s 0 0 A) (F0 m 44 ls [.int t0, .int t1]) := by
  obtain ⟨hx, hb, hml, hown, hts⟩ := id X
  have hin2 : ∀ w ∈ wsX20, w ∈ wsX2_count := by decide +kernel
  intro z0 y1 y3 t0 t1 hF H locs hP hD hS ls hl
  unfold fX2_count_j44 at hF
  refine lv_iadd hx hb dX2_count_44 ?_
  refine lv_istore_n (lv' := [(2, .int (t1 + t0)), (0, .ref (a 0)), (1, .int y1), (3, .int y3)]) hx hb dX2_count_45 rfl hl (by decide) rfl (fun ls hl => ?_)
  refine lv_iinc (v := y3 + 1) (lv' := [(3, .int (y3 + 1)), (2, .int (t1 + t0)), (0, .ref (a 0)), (1, .int y1)]) hx hb dX2_count_46 hl (k := 3) rfl rfl (by decide) rfl (fun ls hl => ?_)
  refine lv_goto (tgt := 23) hx hb dX2_count_49 (by decide) ?_
  exact hK23 z0 y1 (t1 + t0) (y3 + 1) hF H locs hP hD hS ls (lv_sub hl [2, 3, 1, 0] rfl)
def fX2_count_j23 : Nat → SM → Int32 → Int32 → Int32 → Option (Int32 × SM)
  | 0, _, _, _, _ => none
  | n + 1, z0, y1, y2, y3 => (if 12 ≤ y3 then (if y1 = 0 then some (z0.2.2.2.2.2.2.1, z0) else (if y1 = 1 then some (y2, z0) else (if y1 = 2 then some (z0.2.2.2.2.2.2.2.1, z0) else (if y1 = 3 then some (z0.2.2.2.2.2.2.2.2.1, z0) else (if y1 = 4 then some (z0.2.2.2.2.2.2.2.2.2.1, z0) else some ((-1), z0)))))) else if y3 < 0 ∨ 12 ≤ y3.toNatClampNeg then none else let_ (z0.2.1 y3.toNatClampNeg) (fun v7 => (if 0 ≤ v7 then (fX2_count_j44 (fX2_count_j23 n) z0 y1 y3 1 y2) else (fX2_count_j44 (fX2_count_j23 n) z0 y1 y3 0 y2))))
set_option maxRecDepth 100000 in
set_option maxHeartbeats 4000000 in
theorem jX2_count_23 {p : Program} {l : Launch} {e : Env} {s : State} {m : MethodId} {args : Array Value} {below : List Frame} {meth : Method} {c : Code} {G : va_G} {cy cyO : ClassId} {a : Nat → Nat} {A : Nat → Prop} {r : Int32} {u : SM} (X : CallFix p m c cX2_count 4 s args wsX2_count RX2) (hr : meth.sig.returnType = (some .int)) (hlocks : meth.locks = false) (hK : va_K G vwCl (tys_ cy cyO) s) (hN : nw s) (hA : ∀ q, s.heap.size ≤ q → A q) : ∀ n : Nat, ∀ (z0 : SM) (y1 : Int32) (y2 : Int32) (y3 : Int32), fX2_count_j23 n z0 y1 y2 y3 = some (r, u) → ∀ (H : Heap) (locs : List Loc), va_P G vwCl (mW a cy z0) H → va_D A (mW a cy z0) → va_S A s.heap H locs → ∀ (ls : Array Slot), lv_has ls 4 [(0, .ref (a 0)), (1, .int y1), (2, .int y2), (3, .int y3)] → W p l e ({ frames := 1, cells := 0, slots := 0, locals := 22 } : Room) s m args below meth c H locs 0 0 (MQ below (qg (some (.int r)) (fun t => wPost G A (mW a cy u) t) A) args s 0 0 A) (F0 m 23 ls []) := by
  obtain ⟨hx, hb, hml, hown, hts⟩ := id X
  have hin2 : ∀ w ∈ wsX20, w ∈ wsX2_count := by decide +kernel
  intro n
  induction n with
  | zero => intro z0 y1 y2 y3 hF; cases hF
  | succ n ih =>
    intro z0 y1 y2 y3 hF H locs hP hD hS ls hl
    rw [fX2_count_j23] at hF
    refine lv_iload_n hx hb dX2_count_23 rfl (lv_at hl 3 rfl) ?_
    refine lv_bipush (v := 12) hx hb dX2_count_24 (by decide) ?_
    refine lv_icmp_ge (tgt := 52) hx hb dX2_count_26 (by decide) (fun c1 => ?_) (fun c1 => ?_)
    · have hF := o_t c1 hF
      refine lv_iload_n hx hb dX2_count_52 rfl (lv_at hl 1 rfl) ?_
      refine lv_if_ne (tgt := 63) hx hb dX2_count_53 (by decide) (fun c2 => ?_) (fun c2 => ?_)
      · have hF := o_f c2 hF
        refine lv_iload_n hx hb dX2_count_63 rfl (lv_at hl 1 rfl) ?_
        refine lv_iconst (v := 1) hx hb dX2_count_64 (by decide) ?_
        refine lv_icmp_ne (tgt := 72) hx hb dX2_count_65 (by decide) (fun c3 => ?_) (fun c3 => ?_)
        · have hF := o_f c3 hF
          refine lv_iload_n hx hb dX2_count_72 rfl (lv_at hl 1 rfl) ?_
          refine lv_iconst (v := 2) hx hb dX2_count_73 (by decide) ?_
          refine lv_icmp_ne (tgt := 84) hx hb dX2_count_74 (by decide) (fun c4 => ?_) (fun c4 => ?_)
          · have hF := o_f c4 hF
            refine lv_iload_n hx hb dX2_count_84 rfl (lv_at hl 1 rfl) ?_
            refine lv_iconst (v := 3) hx hb dX2_count_85 (by decide) ?_
            refine lv_icmp_ne (tgt := 96) hx hb dX2_count_86 (by decide) (fun c5 => ?_) (fun c5 => ?_)
            · have hF := o_f c5 hF
              refine lv_iload_n hx hb dX2_count_96 rfl (lv_at hl 1 rfl) ?_
              refine lv_iconst (v := 4) hx hb dX2_count_97 (by decide) ?_
              refine lv_icmp_ne (tgt := 108) hx hb dX2_count_98 (by decide) (fun c6 => ?_) (fun c6 => ?_)
              · have hF := o_f c6 hF
                refine lv_iconst (v := (-1)) hx hb dX2_count_108 (by decide) ?_
                obtain ⟨rfl, rfl⟩ := o_s hF
                exact rt_i X hr hlocks hP hD hS dX2_count_109
              · have hF := o_t c6 hF
                refine lv_aload_n hx hb dX2_count_101 rfl (lv_at hl 0 rfl) ?_
                refine va_get (D := G) (ci := 2) (v := .int z0.2.2.2.2.2.2.2.2.2.1) (C := RX2) (T := TX2) (N := 18) hx hb hts hin2 hown hK hP 0 rfl rfl 17 (by decide) (hts (.fieldLink RX2 118 "SignalBoxModel" "fulls" "I") (by decide +kernel)) (fun _ h9 => h9) rfl dX2_count_102 ?_
                refine lv_goto (tgt := 109) hx hb dX2_count_105 (by decide) ?_
                obtain ⟨rfl, rfl⟩ := o_s hF
                exact rt_i X hr hlocks hP hD hS dX2_count_109
            · have hF := o_t c5 hF
              refine lv_aload_n hx hb dX2_count_89 rfl (lv_at hl 0 rfl) ?_
              refine va_get (D := G) (ci := 2) (v := .int z0.2.2.2.2.2.2.2.2.1) (C := RX2) (T := TX2) (N := 18) hx hb hts hin2 hown hK hP 0 rfl rfl 16 (by decide) (hts (.fieldLink RX2 115 "SignalBoxModel" "nulls" "I") (by decide +kernel)) (fun _ h9 => h9) rfl dX2_count_90 ?_
              refine lv_goto (tgt := 109) hx hb dX2_count_93 (by decide) ?_
              obtain ⟨rfl, rfl⟩ := o_s hF
              exact rt_i X hr hlocks hP hD hS dX2_count_109
          · have hF := o_t c4 hF
            refine lv_aload_n hx hb dX2_count_77 rfl (lv_at hl 0 rfl) ?_
            refine va_get (D := G) (ci := 2) (v := .int z0.2.2.2.2.2.2.2.1) (C := RX2) (T := TX2) (N := 18) hx hb hts hin2 hown hK hP 0 rfl rfl 15 (by decide) (hts (.fieldLink RX2 100 "SignalBoxModel" "runs" "I") (by decide +kernel)) (fun _ h9 => h9) rfl dX2_count_78 ?_
            refine lv_goto (tgt := 109) hx hb dX2_count_81 (by decide) ?_
            obtain ⟨rfl, rfl⟩ := o_s hF
            exact rt_i X hr hlocks hP hD hS dX2_count_109
        · have hF := o_t c3 hF
          refine lv_iload_n hx hb dX2_count_68 rfl (lv_at hl 2 rfl) ?_
          refine lv_goto (tgt := 109) hx hb dX2_count_69 (by decide) ?_
          obtain ⟨rfl, rfl⟩ := o_s hF
          exact rt_i X hr hlocks hP hD hS dX2_count_109
      · have hF := o_t c2 hF
        refine lv_aload_n hx hb dX2_count_56 rfl (lv_at hl 0 rfl) ?_
        refine va_get (D := G) (ci := 2) (v := .int z0.2.2.2.2.2.2.1) (C := RX2) (T := TX2) (N := 18) hx hb hts hin2 hown hK hP 0 rfl rfl 0 (by decide) (hts (.fieldLink RX2 55 "SignalBoxModel" "made" "I") (by decide +kernel)) (fun _ h9 => h9) rfl dX2_count_57 ?_
        refine lv_goto (tgt := 109) hx hb dX2_count_60 (by decide) ?_
        obtain ⟨rfl, rfl⟩ := o_s hF
        exact rt_i X hr hlocks hP hD hS dX2_count_109
    · have hF := o_f c1 hF
      refine lv_iload_n hx hb dX2_count_29 rfl (lv_at hl 2 rfl) ?_
      refine lv_aload_n hx hb dX2_count_30 rfl (lv_at hl 0 rfl) ?_
      refine va_get (D := G) (ci := 2) (v := .ref (a 9)) (C := RX2) (T := TX2) (N := 18) hx hb hts hin2 hown hK hP 0 rfl rfl 9 (by decide) (hts (.fieldLink RX2 34 "SignalBoxModel" "at" "[I") (by decide +kernel)) (fun _ h9 => h9) rfl dX2_count_31 ?_
      refine lv_iload_n hx hb dX2_count_34 rfl (lv_at hl 3 rfl) ?_
      obtain ⟨h7, hF⟩ := o_n hF
      refine va_iald (n := 12) (f := z0.2.1) (cA := cy) hx hb hK hP 9 0 rfl rfl h7 dX2_count_35 ?_
      obtain ⟨v7, e7, hF⟩ := o_l hF
      refine w_top e7 ?_
      refine lv_if_ge (tgt := 43) hx hb dX2_count_36 (by decide) (fun c8 => ?_) (fun c8 => ?_)
      · have hF := o_t c8 hF
        refine lv_iconst (v := 1) hx hb dX2_count_43 (by decide) ?_
        exact jX2_count_44 X hr hlocks hK hN hA (fX2_count_j23 n) ih z0 y1 y3 1 y2 hF H locs hP hD hS ls (lv_sub hl [0, 1, 3] rfl)
      · have hF := o_f c8 hF
        refine lv_iconst (v := 0) hx hb dX2_count_39 (by decide) ?_
        refine lv_goto (tgt := 44) hx hb dX2_count_40 (by decide) ?_
        exact jX2_count_44 X hr hlocks hK hN hA (fX2_count_j23 n) ih z0 y1 y3 0 y2 hF H locs hP hD hS ls (lv_sub hl [0, 1, 3] rfl)
def fX2_count (z0 : SM) (x1 : Int32) : Option (Int32 × SM) := bd_ (fX2_in z0 x1 5 10) (fun r1 z1 => (if r1 = 0 then (fX2_count_j23 20 z1 x1 0 0) else if (x1 - 5) < 0 ∨ 6 ≤ (x1 - 5).toNatClampNeg then none else let_ (z1.2.2.2.1 (x1 - 5).toNatClampNeg) (fun v3 => some (v3, z1))))
set_option maxRecDepth 100000 in
set_option maxHeartbeats 4000000 in
theorem kX2_count (l : Launch) (G : va_G) (cy cyO : ClassId) (a : Nat → Nat) (z0 : SM) (x1 : Int32) (r : Int32) (u : SM) (hF : fX2_count z0 x1 = some (r, u)) : Ct l G (tys_ cy cyO) yX2_count wsX2_count ({ frames := 1, cells := 0, slots := 0, locals := 22 } : Room) [.ref (a 0), .int x1] (mW a cy z0) (some (.int r)) (mW a cy u) := by
  unfold fX2_count at hF
  refine ct_of (cc := cX2_count) (maxL := 4) (ret := (some .int)) (own := RX2) (by decide) rfl (Nat.le_of_ble_eq_true rfl) rfl ?_
  intro p e s m below meth c A ls X hr hlocks _ hK hN hA hP hD hl
  have hS : va_S A s.heap s.heap [] := va_S.rf
  have hl : lv_has ls 4 [(0, .ref (a 0)), (1, .int x1)] := hl
  obtain ⟨hx, hb, hml, hown, hts⟩ := id X
  have hin2 : ∀ w ∈ wsX20, w ∈ wsX2_count := by decide +kernel
  refine lv_iload_n hx hb dX2_count_0 rfl (lv_at hl 1 rfl) ?_
  refine lv_iconst (v := 5) hx hb dX2_count_1 (by decide) ?_
  refine lv_bipush (v := 10) hx hb dX2_count_2 (by decide) ?_
  obtain ⟨r1, z1, hG1, hF⟩ := o_b hF
  refine cl_S (rest := []) X hK hN hA hP hD hS (kX2_in l G cy cyO a z0 x1 5 10 r1 z1 hG1) (va_cwS 3 hts gX2_count_X2_in rfl rfl rfl (by decide +kernel) ⟨Nat.le_of_ble_eq_true rfl, Nat.le_of_ble_eq_true rfl⟩) rfl hl.1 rfl (Nat.le_of_ble_eq_true rfl) dX2_count_4 ⟨Nat.zero_le _, Nat.zero_le _⟩ (fun H locs hP hD hS => ?_)
  refine W.eq (g2 := F0 m 7 ls [.int r1]) rfl ?_
  refine lv_if_eq (tgt := 19) hx hb dX2_count_7 (by decide) (fun c2 => ?_) (fun c2 => ?_)
  · have hF := o_t c2 hF
    refine lv_iconst (v := 0) hx hb dX2_count_19 (by decide) ?_
    refine lv_istore_n (lv' := [(2, .int 0), (0, .ref (a 0)), (1, .int x1)]) hx hb dX2_count_20 rfl hl (by decide) rfl (fun ls hl => ?_)
    refine lv_iconst (v := 0) hx hb dX2_count_21 (by decide) ?_
    refine lv_istore_n (lv' := [(3, .int 0), (2, .int 0), (0, .ref (a 0)), (1, .int x1)]) hx hb dX2_count_22 rfl hl (by decide) rfl (fun ls hl => ?_)
    exact jX2_count_23 X hr hlocks hK hN hA 20 z1 x1 0 0 hF H locs hP hD hS ls (lv_sub hl [2, 3, 1, 0] rfl)
  · have hF := o_f c2 hF
    refine lv_aload_n hx hb dX2_count_10 rfl (lv_at hl 0 rfl) ?_
    refine va_get (D := G) (ci := 2) (v := .ref (a 11)) (C := RX2) (T := TX2) (N := 18) hx hb hts hin2 hown hK hP 0 rfl rfl 11 (by decide) (hts (.fieldLink RX2 40 "SignalBoxModel" "lengths" "[I") (by decide +kernel)) (fun _ h9 => h9) rfl dX2_count_11 ?_
    refine lv_iload_n hx hb dX2_count_14 rfl (lv_at hl 1 rfl) ?_
    refine lv_iconst (v := 5) hx hb dX2_count_15 (by decide) ?_
    refine lv_isub hx hb dX2_count_16 ?_
    obtain ⟨h3, hF⟩ := o_n hF
    refine va_iald (n := 6) (f := z1.2.2.2.1) (cA := cy) hx hb hK hP 11 0 rfl rfl h3 dX2_count_17 ?_
    obtain ⟨v3, e3, hF⟩ := o_l hF
    refine w_top e3 ?_
    obtain ⟨rfl, rfl⟩ := o_s hF
    exact rt_i X hr hlocks hP hD hS dX2_count_18
