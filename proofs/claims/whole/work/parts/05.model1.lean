def fX2_in (z0 : SM) (x0 : Int32) (x1 : Int32) (x2 : Int32) : Option (Int32 × SM) := (if x0 < x1 then some (0, z0) else (if x2 < x0 then some (0, z0) else some (1, z0)))
set_option maxRecDepth 100000 in
set_option maxHeartbeats 4000000 in
theorem kX2_in (l : Launch) (G : va_G) (cy cyO : ClassId) (a : Nat → Nat) (z0 : SM) (x0 : Int32) (x1 : Int32) (x2 : Int32) (r : Int32) (u : SM) (hF : fX2_in z0 x0 x1 x2 = some (r, u)) : Ct l G (tys_ cy cyO) yX2_in wsX2_in ({ frames := 0, cells := 0, slots := 0, locals := 0 } : Room) [.int x0, .int x1, .int x2] (mW a cy z0) (some (.int r)) (mW a cy u) := by
  unfold fX2_in at hF
  refine ct_of (cc := cX2_in) (maxL := 3) (ret := (some .boolean)) (own := RX2) (by decide) rfl (Nat.le_of_ble_eq_true rfl) rfl ?_
  intro p e s m below meth c A ls X hr hlocks _ hK hN hA hP hD hl
  have hS : va_S A s.heap s.heap [] := va_S.rf
  have hl : lv_has ls 3 [(0, .int x0), (1, .int x1), (2, .int x2)] := hl
  obtain ⟨hx, hb, hml, hown, hts⟩ := id X
  refine lv_iload_n hx hb dX2_in_0 rfl (lv_at hl 0 rfl) ?_
  refine lv_iload_n hx hb dX2_in_1 rfl (lv_at hl 1 rfl) ?_
  refine lv_icmp_lt (tgt := 14) hx hb dX2_in_2 (by decide) (fun c1 => ?_) (fun c1 => ?_)
  · have hF := o_t c1 hF
    refine lv_iconst (v := 0) hx hb dX2_in_14 (by decide) ?_
    obtain ⟨rfl, rfl⟩ := o_s hF
    exact rt_z X hr hlocks hP hD hS rfl dX2_in_15
  · have hF := o_f c1 hF
    refine lv_iload_n hx hb dX2_in_5 rfl (lv_at hl 0 rfl) ?_
    refine lv_iload_n hx hb dX2_in_6 rfl (lv_at hl 2 rfl) ?_
    refine lv_icmp_gt (tgt := 14) hx hb dX2_in_7 (by decide) (fun c2 => ?_) (fun c2 => ?_)
    · have hF := o_t c2 hF
      refine lv_iconst (v := 0) hx hb dX2_in_14 (by decide) ?_
      obtain ⟨rfl, rfl⟩ := o_s hF
      exact rt_z X hr hlocks hP hD hS rfl dX2_in_15
    · have hF := o_f c2 hF
      refine lv_iconst (v := 1) hx hb dX2_in_10 (by decide) ?_
      refine lv_goto (tgt := 15) hx hb dX2_in_11 (by decide) ?_
      obtain ⟨rfl, rfl⟩ := o_s hF
      exact rt_z X hr hlocks hP hD hS rfl dX2_in_15
def fX2_isPlace (z0 : SM) (x0 : Int32) : Option (Int32 × SM) := bd_ (fX2_in z0 x0 0 11) (fun r1 z1 => (if (r1 &&& 1) = r1 then some (r1, z1) else none))
set_option maxRecDepth 100000 in
set_option maxHeartbeats 4000000 in
theorem kX2_isPlace (l : Launch) (G : va_G) (cy cyO : ClassId) (a : Nat → Nat) (z0 : SM) (x0 : Int32) (r : Int32) (u : SM) (hF : fX2_isPlace z0 x0 = some (r, u)) : Ct l G (tys_ cy cyO) yX2_isPlace wsX2_isPlace ({ frames := 1, cells := 0, slots := 0, locals := 22 } : Room) [.int x0] (mW a cy z0) (some (.int r)) (mW a cy u) := by
  unfold fX2_isPlace at hF
  refine ct_of (cc := cX2_isPlace) (maxL := 1) (ret := (some .boolean)) (own := RX2) (by decide) rfl (Nat.le_of_ble_eq_true rfl) rfl ?_
  intro p e s m below meth c A ls X hr hlocks _ hK hN hA hP hD hl
  have hS : va_S A s.heap s.heap [] := va_S.rf
  have hl : lv_has ls 1 [(0, .int x0)] := hl
  obtain ⟨hx, hb, hml, hown, hts⟩ := id X
  refine lv_iload_n hx hb dX2_isPlace_0 rfl (lv_at hl 0 rfl) ?_
  refine lv_iconst (v := 0) hx hb dX2_isPlace_1 (by decide) ?_
  refine lv_bipush (v := 11) hx hb dX2_isPlace_2 (by decide) ?_
  obtain ⟨r1, z1, hG1, hF⟩ := o_b hF
  refine cl_S (rest := []) X hK hN hA hP hD hS (kX2_in l G cy cyO a z0 x0 0 11 r1 z1 hG1) (va_cwS 3 hts gX2_isPlace_X2_in rfl rfl rfl (by decide +kernel) ⟨Nat.le_of_ble_eq_true rfl, Nat.le_of_ble_eq_true rfl⟩) rfl hl.1 rfl (Nat.le_of_ble_eq_true rfl) dX2_isPlace_4 ⟨Nat.zero_le _, Nat.zero_le _⟩ (fun H locs hP hD hS => ?_)
  refine W.eq (g2 := F0 m 7 ls [.int r1]) rfl ?_
  obtain ⟨h2, hF⟩ := o_i hF
  have h2 : narrow .boolean (.int r1) = .int r1 := congrArg Value.int h2
  obtain ⟨rfl, rfl⟩ := o_s hF
  exact rt_z X hr hlocks hP hD hS h2 dX2_isPlace_7
def fX2_isRoute (z0 : SM) (x0 : Int32) : Option (Int32 × SM) := bd_ (fX2_in z0 x0 0 5) (fun r1 z1 => (if (r1 &&& 1) = r1 then some (r1, z1) else none))
set_option maxRecDepth 100000 in
set_option maxHeartbeats 4000000 in
theorem kX2_isRoute (l : Launch) (G : va_G) (cy cyO : ClassId) (a : Nat → Nat) (z0 : SM) (x0 : Int32) (r : Int32) (u : SM) (hF : fX2_isRoute z0 x0 = some (r, u)) : Ct l G (tys_ cy cyO) yX2_isRoute wsX2_isRoute ({ frames := 1, cells := 0, slots := 0, locals := 22 } : Room) [.int x0] (mW a cy z0) (some (.int r)) (mW a cy u) := by
  unfold fX2_isRoute at hF
  refine ct_of (cc := cX2_isRoute) (maxL := 1) (ret := (some .boolean)) (own := RX2) (by decide) rfl (Nat.le_of_ble_eq_true rfl) rfl ?_
  intro p e s m below meth c A ls X hr hlocks _ hK hN hA hP hD hl
  have hS : va_S A s.heap s.heap [] := va_S.rf
  have hl : lv_has ls 1 [(0, .int x0)] := hl
  obtain ⟨hx, hb, hml, hown, hts⟩ := id X
  refine lv_iload_n hx hb dX2_isRoute_0 rfl (lv_at hl 0 rfl) ?_
  refine lv_iconst (v := 0) hx hb dX2_isRoute_1 (by decide) ?_
  refine lv_iconst (v := 5) hx hb dX2_isRoute_2 (by decide) ?_
  obtain ⟨r1, z1, hG1, hF⟩ := o_b hF
  refine cl_S (rest := []) X hK hN hA hP hD hS (kX2_in l G cy cyO a z0 x0 0 5 r1 z1 hG1) (va_cwS 3 hts gX2_isRoute_X2_in rfl rfl rfl (by decide +kernel) ⟨Nat.le_of_ble_eq_true rfl, Nat.le_of_ble_eq_true rfl⟩) rfl hl.1 rfl (Nat.le_of_ble_eq_true rfl) dX2_isRoute_3 ⟨Nat.zero_le _, Nat.zero_le _⟩ (fun H locs hP hD hS => ?_)
  refine W.eq (g2 := F0 m 6 ls [.int r1]) rfl ?_
  obtain ⟨h2, hF⟩ := o_i hF
  have h2 : narrow .boolean (.int r1) = .int r1 := congrArg Value.int h2
  obtain ⟨rfl, rfl⟩ := o_s hF
  exact rt_z X hr hlocks hP hD hS h2 dX2_isRoute_6
def fX2_ended (z0 : SM) (x0 : Int32) (x1 : Int32) : Option (Int32 × SM) := (if x0 = 2 then some (((-100) - x1), z0) else some (x0, z0))
set_option maxRecDepth 100000 in
set_option maxHeartbeats 4000000 in
theorem kX2_ended (l : Launch) (G : va_G) (cy cyO : ClassId) (a : Nat → Nat) (z0 : SM) (x0 : Int32) (x1 : Int32) (r : Int32) (u : SM) (hF : fX2_ended z0 x0 x1 = some (r, u)) : Ct l G (tys_ cy cyO) yX2_ended wsX2_ended ({ frames := 0, cells := 0, slots := 0, locals := 0 } : Room) [.int x0, .int x1] (mW a cy z0) (some (.int r)) (mW a cy u) := by
  unfold fX2_ended at hF
  refine ct_of (cc := cX2_ended) (maxL := 2) (ret := (some .int)) (own := RX2) (by decide) rfl (Nat.le_of_ble_eq_true rfl) rfl ?_
  intro p e s m below meth c A ls X hr hlocks _ hK hN hA hP hD hl
  have hS : va_S A s.heap s.heap [] := va_S.rf
  have hl : lv_has ls 2 [(0, .int x0), (1, .int x1)] := hl
  obtain ⟨hx, hb, hml, hown, hts⟩ := id X
  refine lv_iload_n hx hb dX2_ended_0 rfl (lv_at hl 0 rfl) ?_
  refine lv_iconst (v := 2) hx hb dX2_ended_1 (by decide) ?_
  refine lv_icmp_ne (tgt := 12) hx hb dX2_ended_2 (by decide) (fun c1 => ?_) (fun c1 => ?_)
  · have hF := o_f c1 hF
    refine lv_iload_n hx hb dX2_ended_12 rfl (lv_at hl 0 rfl) ?_
    obtain ⟨rfl, rfl⟩ := o_s hF
    exact rt_i X hr hlocks hP hD hS dX2_ended_13
  · have hF := o_t c1 hF
    refine lv_bipush (v := (-100)) hx hb dX2_ended_5 (by decide) ?_
    refine lv_iload_n hx hb dX2_ended_7 rfl (lv_at hl 1 rfl) ?_
    refine lv_isub hx hb dX2_ended_8 ?_
    refine lv_goto (tgt := 13) hx hb dX2_ended_9 (by decide) ?_
    obtain ⟨rfl, rfl⟩ := o_s hF
    exact rt_i X hr hlocks hP hD hS dX2_ended_13
def fX2_leave (z0 : SM) (x1 : Int32) : Option (Int32 × SM) := (if 150 ≤ z0.2.2.2.2.2.1 then some (0, z0) else if z0.2.2.2.2.2.1 < 0 ∨ 150 ≤ z0.2.2.2.2.2.1.toNatClampNeg then none else let_ ((z0.1, z0.2.1, z0.2.2.1, z0.2.2.2.1, (upd z0.2.2.2.2.1 z0.2.2.2.2.2.1.toNatClampNeg x1), z0.2.2.2.2.2) : SM) (fun z3 => let_ ((z3.1, z3.2.1, z3.2.2.1, z3.2.2.2.1, z3.2.2.2.2.1, (z3.2.2.2.2.2.1 + 1), z3.2.2.2.2.2.2) : SM) (fun z4 => some (0, z4))))
set_option maxRecDepth 100000 in
set_option maxHeartbeats 4000000 in
theorem kX2_leave (l : Launch) (G : va_G) (cy cyO : ClassId) (a : Nat → Nat) (z0 : SM) (x1 : Int32) (r : Int32) (u : SM) (hF : fX2_leave z0 x1 = some (r, u)) : Ct l G (tys_ cy cyO) yX2_leave wsX2_leave ({ frames := 0, cells := 0, slots := 0, locals := 0 } : Room) [.ref (a 0), .int x1] (mW a cy z0) none (mW a cy u) := by
  unfold fX2_leave at hF
  refine ct_of (cc := cX2_leave) (maxL := 2) (ret := none) (own := RX2) (by decide) rfl (Nat.le_of_ble_eq_true rfl) rfl ?_
  intro p e s m below meth c A ls X hr hlocks _ hK hN hA hP hD hl
  have hS : va_S A s.heap s.heap [] := va_S.rf
  have hl : lv_has ls 2 [(0, .ref (a 0)), (1, .int x1)] := hl
  obtain ⟨hx, hb, hml, hown, hts⟩ := id X
  have hin2 : ∀ w ∈ wsX20, w ∈ wsX2_leave := by decide +kernel
  refine lv_aload_n hx hb dX2_leave_0 rfl (lv_at hl 0 rfl) ?_
  refine va_get (D := G) (ci := 2) (v := .int z0.2.2.2.2.2.1) (C := RX2) (T := TX2) (N := 18) hx hb hts hin2 hown hK hP 0 rfl rfl 13 (by decide) (hts (.fieldLink RX2 62 "SignalBoxModel" "traced" "I") (by decide +kernel)) (fun _ h9 => h9) rfl dX2_leave_1 ?_
  refine lv_sipush (v := 150) hx hb dX2_leave_4 (by decide) ?_
  refine lv_icmp_ge (tgt := 30) hx hb dX2_leave_7 (by decide) (fun c1 => ?_) (fun c1 => ?_)
  · have hF := o_t c1 hF
    obtain ⟨rfl, rfl⟩ := o_s hF
    exact rt_v X hr hlocks hP hD hS dX2_leave_30
  · have hF := o_f c1 hF
    refine lv_aload_n hx hb dX2_leave_10 rfl (lv_at hl 0 rfl) ?_
    refine va_get (D := G) (ci := 2) (v := .ref (a 12)) (C := RX2) (T := TX2) (N := 18) hx hb hts hin2 hown hK hP 0 rfl rfl 12 (by decide) (hts (.fieldLink RX2 43 "SignalBoxModel" "trace" "[I") (by decide +kernel)) (fun _ h9 => h9) rfl dX2_leave_11 ?_
    refine lv_aload_n hx hb dX2_leave_14 rfl (lv_at hl 0 rfl) ?_
    refine va_get (D := G) (ci := 2) (v := .int z0.2.2.2.2.2.1) (C := RX2) (T := TX2) (N := 18) hx hb hts hin2 hown hK hP 0 rfl rfl 13 (by decide) (hts (.fieldLink RX2 62 "SignalBoxModel" "traced" "I") (by decide +kernel)) (fun _ h9 => h9) rfl dX2_leave_15 ?_
    refine lv_iload_n hx hb dX2_leave_18 rfl (lv_at hl 1 rfl) ?_
    obtain ⟨h2, hF⟩ := o_n hF
    refine va_iast (n := 150) (f := z0.2.2.2.2.1) (cA := cy) hx hb hK hP hD hS 12 0 rfl rfl h2 dX2_leave_19 (fun H locs hP hD hS => ?_)
    obtain ⟨z3, e3, hF⟩ := o_l hF
    have hP : va_P G vwCl (mW a cy z3) H := by rw [e3]; exact hP
    have hD : va_D A (mW a cy z3) := by rw [e3]; exact hD
    refine lv_aload_n hx hb dX2_leave_20 rfl (lv_at hl 0 rfl) ?_
    refine lv_dup hx hb dX2_leave_21 rfl ?_
    refine va_get (D := G) (ci := 2) (v := .int z3.2.2.2.2.2.1) (C := RX2) (T := TX2) (N := 18) hx hb hts hin2 hown hK hP 0 rfl rfl 13 (by decide) (hts (.fieldLink RX2 62 "SignalBoxModel" "traced" "I") (by decide +kernel)) (fun _ h9 => h9) rfl dX2_leave_22 ?_
    refine lv_iconst (v := 1) hx hb dX2_leave_25 (by decide) ?_
    refine lv_iadd hx hb dX2_leave_26 ?_
    refine va_put (D := G) (ci := 2) (v := .int (z3.2.2.2.2.2.1 + 1)) (ty := .int) (C := RX2) (T := TX2) (N := 18) hx hb hts hin2 tyX2 tyX2_ok nmX2 hown hK hP hD hS 0 rfl rfl 13 (by decide) (hts (.fieldLink RX2 62 "SignalBoxModel" "traced" "I") (by decide +kernel)) (fun _ h9 => h9) rfl (by decide +kernel) rfl rfl (Nat.le_of_ble_eq_true rfl) dX2_leave_27 (fun H locs hP hD hS => ?_)
    obtain ⟨z4, e4, hF⟩ := o_l hF
    have hP : va_P G vwCl (mW a cy z4) H := by rw [e4]; exact hP
    have hD : va_D A (mW a cy z4) := by rw [e4]; exact hD
    obtain ⟨rfl, rfl⟩ := o_s hF
    exact rt_v X hr hlocks hP hD hS dX2_leave_30
def fX2_claim (z0 : SM) (x1 : Int32) : Option (Int32 × SM) := if x1 < 0 ∨ 640 ≤ x1.toNatClampNeg then none else let_ ((z0.1 7) x1.toNatClampNeg) (fun v1 => if x1 < 0 ∨ 640 ≤ x1.toNatClampNeg then none else let_ ((setA z0.1 7 (upd (z0.1 7) x1.toNatClampNeg (v1 + 1)), z0.2) : SM) (fun z3 => if x1 < 0 ∨ 640 ≤ x1.toNatClampNeg then none else let_ ((z3.1 6) x1.toNatClampNeg) (fun v4 => if x1 < 0 ∨ 640 ≤ x1.toNatClampNeg then none else let_ ((setA z3.1 6 (upd (z3.1 6) x1.toNatClampNeg (v4 + 1)), z3.2) : SM) (fun z6 => if x1 < 0 ∨ 640 ≤ x1.toNatClampNeg then none else let_ ((z6.1 7) x1.toNatClampNeg) (fun v7 => if x1 < 0 ∨ 640 ≤ x1.toNatClampNeg then none else let_ ((z6.1 8) x1.toNatClampNeg) (fun v8 => (if v7 ≤ v8 then if x1 < 0 ∨ 640 ≤ x1.toNatClampNeg then none else let_ ((z6.1 8) x1.toNatClampNeg) (fun v10 => if x1 < 0 ∨ 640 ≤ x1.toNatClampNeg then none else let_ ((setA z6.1 8 (upd (z6.1 8) x1.toNatClampNeg v10), z6.2) : SM) (fun z12 => bd_ (fX2_leave z12 (1000 + x1)) (fun r13 z13 => some (0, z13)))) else if x1 < 0 ∨ 640 ≤ x1.toNatClampNeg then none else let_ ((z6.1 7) x1.toNatClampNeg) (fun v14 => if x1 < 0 ∨ 640 ≤ x1.toNatClampNeg then none else let_ ((setA z6.1 8 (upd (z6.1 8) x1.toNatClampNeg v14), z6.2) : SM) (fun z16 => bd_ (fX2_leave z16 (1000 + x1)) (fun r17 z17 => some (0, z17)))))))))))
set_option maxRecDepth 100000 in
set_option maxHeartbeats 4000000 in
theorem kX2_claim (l : Launch) (G : va_G) (cy cyO : ClassId) (a : Nat → Nat) (z0 : SM) (x1 : Int32) (r : Int32) (u : SM) (hF : fX2_claim z0 x1 = some (r, u)) : Ct l G (tys_ cy cyO) yX2_claim wsX2_claim ({ frames := 1, cells := 0, slots := 0, locals := 21 } : Room) [.ref (a 0), .int x1] (mW a cy z0) none (mW a cy u) := by
  unfold fX2_claim at hF
  refine ct_of (cc := cX2_claim) (maxL := 2) (ret := none) (own := RX2) (by decide) rfl (Nat.le_of_ble_eq_true rfl) rfl ?_
  intro p e s m below meth c A ls X hr hlocks _ hK hN hA hP hD hl
  have hS : va_S A s.heap s.heap [] := va_S.rf
  have hl : lv_has ls 2 [(0, .ref (a 0)), (1, .int x1)] := hl
  obtain ⟨hx, hb, hml, hown, hts⟩ := id X
  have hin2 : ∀ w ∈ wsX20, w ∈ wsX2_claim := by decide +kernel
  refine lv_aload_n hx hb dX2_claim_0 rfl (lv_at hl 0 rfl) ?_
  refine va_get (D := G) (ci := 2) (v := .ref (a 7)) (C := RX2) (T := TX2) (N := 18) hx hb hts hin2 hown hK hP 0 rfl rfl 7 (by decide) (hts (.fieldLink RX2 28 "SignalBoxModel" "held" "[I") (by decide +kernel)) (fun _ h9 => h9) rfl dX2_claim_1 ?_
  refine lv_iload_n hx hb dX2_claim_4 rfl (lv_at hl 1 rfl) ?_
  refine lv_dup2_11 hx hb dX2_claim_5 rfl rfl ?_
  obtain ⟨h1, hF⟩ := o_n hF
  refine va_iald (n := 640) (f := (z0.1 7)) (cA := cy) hx hb hK hP 7 0 rfl rfl h1 dX2_claim_6 ?_
  obtain ⟨v1, e1, hF⟩ := o_l hF
  refine w_top e1 ?_
  refine lv_iconst (v := 1) hx hb dX2_claim_7 (by decide) ?_
  refine lv_iadd hx hb dX2_claim_8 ?_
  obtain ⟨h2, hF⟩ := o_n hF
  refine va_iast (n := 640) (f := (z0.1 7)) (cA := cy) hx hb hK hP hD hS 7 0 rfl rfl h2 dX2_claim_9 (fun H locs hP hD hS => ?_)
  obtain ⟨z3, e3, hF⟩ := o_l hF
  have hP : va_P G vwCl (mW a cy z3) H := by rw [e3]; exact hP
  have hD : va_D A (mW a cy z3) := by rw [e3]; exact hD
  refine lv_aload_n hx hb dX2_claim_10 rfl (lv_at hl 0 rfl) ?_
  refine va_get (D := G) (ci := 2) (v := .ref (a 6)) (C := RX2) (T := TX2) (N := 18) hx hb hts hin2 hown hK hP 0 rfl rfl 6 (by decide) (hts (.fieldLink RX2 25 "SignalBoxModel" "claims" "[I") (by decide +kernel)) (fun _ h9 => h9) rfl dX2_claim_11 ?_
  refine lv_iload_n hx hb dX2_claim_14 rfl (lv_at hl 1 rfl) ?_
  refine lv_dup2_11 hx hb dX2_claim_15 rfl rfl ?_
  obtain ⟨h4, hF⟩ := o_n hF
  refine va_iald (n := 640) (f := (z3.1 6)) (cA := cy) hx hb hK hP 6 0 rfl rfl h4 dX2_claim_16 ?_
  obtain ⟨v4, e4, hF⟩ := o_l hF
  refine w_top e4 ?_
  refine lv_iconst (v := 1) hx hb dX2_claim_17 (by decide) ?_
  refine lv_iadd hx hb dX2_claim_18 ?_
  obtain ⟨h5, hF⟩ := o_n hF
  refine va_iast (n := 640) (f := (z3.1 6)) (cA := cy) hx hb hK hP hD hS 6 0 rfl rfl h5 dX2_claim_19 (fun H locs hP hD hS => ?_)
  obtain ⟨z6, e6, hF⟩ := o_l hF
  have hP : va_P G vwCl (mW a cy z6) H := by rw [e6]; exact hP
  have hD : va_D A (mW a cy z6) := by rw [e6]; exact hD
  refine lv_aload_n hx hb dX2_claim_20 rfl (lv_at hl 0 rfl) ?_
  refine va_get (D := G) (ci := 2) (v := .ref (a 8)) (C := RX2) (T := TX2) (N := 18) hx hb hts hin2 hown hK hP 0 rfl rfl 8 (by decide) (hts (.fieldLink RX2 31 "SignalBoxModel" "most" "[I") (by decide +kernel)) (fun _ h9 => h9) rfl dX2_claim_21 ?_
  refine lv_iload_n hx hb dX2_claim_24 rfl (lv_at hl 1 rfl) ?_
  refine lv_aload_n hx hb dX2_claim_25 rfl (lv_at hl 0 rfl) ?_
  refine va_get (D := G) (ci := 2) (v := .ref (a 7)) (C := RX2) (T := TX2) (N := 18) hx hb hts hin2 hown hK hP 0 rfl rfl 7 (by decide) (hts (.fieldLink RX2 28 "SignalBoxModel" "held" "[I") (by decide +kernel)) (fun _ h9 => h9) rfl dX2_claim_26 ?_
  refine lv_iload_n hx hb dX2_claim_29 rfl (lv_at hl 1 rfl) ?_
  obtain ⟨h7, hF⟩ := o_n hF
  refine va_iald (n := 640) (f := (z6.1 7)) (cA := cy) hx hb hK hP 7 0 rfl rfl h7 dX2_claim_30 ?_
  obtain ⟨v7, e7, hF⟩ := o_l hF
  refine w_top e7 ?_
  refine lv_aload_n hx hb dX2_claim_31 rfl (lv_at hl 0 rfl) ?_
  refine va_get (D := G) (ci := 2) (v := .ref (a 8)) (C := RX2) (T := TX2) (N := 18) hx hb hts hin2 hown hK hP 0 rfl rfl 8 (by decide) (hts (.fieldLink RX2 31 "SignalBoxModel" "most" "[I") (by decide +kernel)) (fun _ h9 => h9) rfl dX2_claim_32 ?_
  refine lv_iload_n hx hb dX2_claim_35 rfl (lv_at hl 1 rfl) ?_
  obtain ⟨h8, hF⟩ := o_n hF
  refine va_iald (n := 640) (f := (z6.1 8)) (cA := cy) hx hb hK hP 8 0 rfl rfl h8 dX2_claim_36 ?_
  obtain ⟨v8, e8, hF⟩ := o_l hF
  refine w_top e8 ?_
  refine lv_icmp_le (tgt := 49) hx hb dX2_claim_37 (by decide) (fun c9 => ?_) (fun c9 => ?_)
  · have hF := o_t c9 hF
    refine lv_aload_n hx hb dX2_claim_49 rfl (lv_at hl 0 rfl) ?_
    refine va_get (D := G) (ci := 2) (v := .ref (a 8)) (C := RX2) (T := TX2) (N := 18) hx hb hts hin2 hown hK hP 0 rfl rfl 8 (by decide) (hts (.fieldLink RX2 31 "SignalBoxModel" "most" "[I") (by decide +kernel)) (fun _ h9 => h9) rfl dX2_claim_50 ?_
    refine lv_iload_n hx hb dX2_claim_53 rfl (lv_at hl 1 rfl) ?_
    obtain ⟨h10, hF⟩ := o_n hF
    refine va_iald (n := 640) (f := (z6.1 8)) (cA := cy) hx hb hK hP 8 0 rfl rfl h10 dX2_claim_54 ?_
    obtain ⟨v10, e10, hF⟩ := o_l hF
    refine w_top e10 ?_
    obtain ⟨h11, hF⟩ := o_n hF
    refine va_iast (n := 640) (f := (z6.1 8)) (cA := cy) hx hb hK hP hD hS 8 0 rfl rfl h11 dX2_claim_55 (fun H locs hP hD hS => ?_)
    obtain ⟨z12, e12, hF⟩ := o_l hF
    have hP : va_P G vwCl (mW a cy z12) H := by rw [e12]; exact hP
    have hD : va_D A (mW a cy z12) := by rw [e12]; exact hD
    refine lv_aload_n hx hb dX2_claim_56 rfl (lv_at hl 0 rfl) ?_
    refine lv_sipush (v := 1000) hx hb dX2_claim_57 (by decide) ?_
    refine lv_iload_n hx hb dX2_claim_60 rfl (lv_at hl 1 rfl) ?_
    refine lv_iadd hx hb dX2_claim_61 ?_
    obtain ⟨r13, z13, hG13, hF⟩ := o_b hF
    refine cl_V (C := RX2) (rest := []) X hK hN hA hP hD hS (kX2_leave l G cy cyO a z12 (1000 + x1) r13 z13 hG13) (cwV 1 hts gX2_claim_X2_leave rfl rfl rfl (by decide +kernel) ⟨Nat.le_of_ble_eq_true rfl, Nat.le_of_ble_eq_true rfl⟩) (va_recv hK hP (ci := 2) (q0 := 0) rfl rfl) rfl hl.1 rfl (Nat.le_of_ble_eq_true rfl) dX2_claim_62 ⟨Nat.zero_le _, Nat.zero_le _⟩ (fun H locs hP hD hS => ?_)
    refine W.eq (g2 := F0 m 65 ls []) rfl ?_
    obtain ⟨rfl, rfl⟩ := o_s hF
    exact rt_v X hr hlocks hP hD hS dX2_claim_65
  · have hF := o_f c9 hF
    refine lv_aload_n hx hb dX2_claim_40 rfl (lv_at hl 0 rfl) ?_
    refine va_get (D := G) (ci := 2) (v := .ref (a 7)) (C := RX2) (T := TX2) (N := 18) hx hb hts hin2 hown hK hP 0 rfl rfl 7 (by decide) (hts (.fieldLink RX2 28 "SignalBoxModel" "held" "[I") (by decide +kernel)) (fun _ h9 => h9) rfl dX2_claim_41 ?_
    refine lv_iload_n hx hb dX2_claim_44 rfl (lv_at hl 1 rfl) ?_
    obtain ⟨h14, hF⟩ := o_n hF
    refine va_iald (n := 640) (f := (z6.1 7)) (cA := cy) hx hb hK hP 7 0 rfl rfl h14 dX2_claim_45 ?_
    obtain ⟨v14, e14, hF⟩ := o_l hF
    refine w_top e14 ?_
    refine lv_goto (tgt := 55) hx hb dX2_claim_46 (by decide) ?_
    obtain ⟨h15, hF⟩ := o_n hF
    refine va_iast (n := 640) (f := (z6.1 8)) (cA := cy) hx hb hK hP hD hS 8 0 rfl rfl h15 dX2_claim_55 (fun H locs hP hD hS => ?_)
    obtain ⟨z16, e16, hF⟩ := o_l hF
    have hP : va_P G vwCl (mW a cy z16) H := by rw [e16]; exact hP
    have hD : va_D A (mW a cy z16) := by rw [e16]; exact hD
    refine lv_aload_n hx hb dX2_claim_56 rfl (lv_at hl 0 rfl) ?_
    refine lv_sipush (v := 1000) hx hb dX2_claim_57 (by decide) ?_
    refine lv_iload_n hx hb dX2_claim_60 rfl (lv_at hl 1 rfl) ?_
    refine lv_iadd hx hb dX2_claim_61 ?_
    obtain ⟨r17, z17, hG17, hF⟩ := o_b hF
    refine cl_V (C := RX2) (rest := []) X hK hN hA hP hD hS (kX2_leave l G cy cyO a z16 (1000 + x1) r17 z17 hG17) (cwV 1 hts gX2_claim_X2_leave rfl rfl rfl (by decide +kernel) ⟨Nat.le_of_ble_eq_true rfl, Nat.le_of_ble_eq_true rfl⟩) (va_recv hK hP (ci := 2) (q0 := 0) rfl rfl) rfl hl.1 rfl (Nat.le_of_ble_eq_true rfl) dX2_claim_62 ⟨Nat.zero_le _, Nat.zero_le _⟩ (fun H locs hP hD hS => ?_)
    refine W.eq (g2 := F0 m 65 ls []) rfl ?_
    obtain ⟨rfl, rfl⟩ := o_s hF
    exact rt_v X hr hlocks hP hD hS dX2_claim_65
def fX2_let (z0 : SM) (x1 : Int32) : Option (Int32 × SM) := if x1 < 0 ∨ 640 ≤ x1.toNatClampNeg then none else let_ ((z0.1 7) x1.toNatClampNeg) (fun v1 => if x1 < 0 ∨ 640 ≤ x1.toNatClampNeg then none else let_ ((setA z0.1 7 (upd (z0.1 7) x1.toNatClampNeg (v1 - 1)), z0.2) : SM) (fun z3 => bd_ (fX2_leave z3 (2000 + x1)) (fun r4 z4 => some (0, z4))))
set_option maxRecDepth 100000 in
set_option maxHeartbeats 4000000 in
theorem kX2_let (l : Launch) (G : va_G) (cy cyO : ClassId) (a : Nat → Nat) (z0 : SM) (x1 : Int32) (r : Int32) (u : SM) (hF : fX2_let z0 x1 = some (r, u)) : Ct l G (tys_ cy cyO) yX2_let wsX2_let ({ frames := 1, cells := 0, slots := 0, locals := 21 } : Room) [.ref (a 0), .int x1] (mW a cy z0) none (mW a cy u) := by
  unfold fX2_let at hF
  refine ct_of (cc := cX2_let) (maxL := 2) (ret := none) (own := RX2) (by decide) rfl (Nat.le_of_ble_eq_true rfl) rfl ?_
  intro p e s m below meth c A ls X hr hlocks _ hK hN hA hP hD hl
  have hS : va_S A s.heap s.heap [] := va_S.rf
  have hl : lv_has ls 2 [(0, .ref (a 0)), (1, .int x1)] := hl
  obtain ⟨hx, hb, hml, hown, hts⟩ := id X
  have hin2 : ∀ w ∈ wsX20, w ∈ wsX2_let := by decide +kernel
  refine lv_aload_n hx hb dX2_let_0 rfl (lv_at hl 0 rfl) ?_
  refine va_get (D := G) (ci := 2) (v := .ref (a 7)) (C := RX2) (T := TX2) (N := 18) hx hb hts hin2 hown hK hP 0 rfl rfl 7 (by decide) (hts (.fieldLink RX2 28 "SignalBoxModel" "held" "[I") (by decide +kernel)) (fun _ h9 => h9) rfl dX2_let_1 ?_
  refine lv_iload_n hx hb dX2_let_4 rfl (lv_at hl 1 rfl) ?_
  refine lv_dup2_11 hx hb dX2_let_5 rfl rfl ?_
  obtain ⟨h1, hF⟩ := o_n hF
  refine va_iald (n := 640) (f := (z0.1 7)) (cA := cy) hx hb hK hP 7 0 rfl rfl h1 dX2_let_6 ?_
  obtain ⟨v1, e1, hF⟩ := o_l hF
  refine w_top e1 ?_
  refine lv_iconst (v := 1) hx hb dX2_let_7 (by decide) ?_
  refine lv_isub hx hb dX2_let_8 ?_
  obtain ⟨h2, hF⟩ := o_n hF
  refine va_iast (n := 640) (f := (z0.1 7)) (cA := cy) hx hb hK hP hD hS 7 0 rfl rfl h2 dX2_let_9 (fun H locs hP hD hS => ?_)
  obtain ⟨z3, e3, hF⟩ := o_l hF
  have hP : va_P G vwCl (mW a cy z3) H := by rw [e3]; exact hP
  have hD : va_D A (mW a cy z3) := by rw [e3]; exact hD
  refine lv_aload_n hx hb dX2_let_10 rfl (lv_at hl 0 rfl) ?_
  refine lv_sipush (v := 2000) hx hb dX2_let_11 (by decide) ?_
  refine lv_iload_n hx hb dX2_let_14 rfl (lv_at hl 1 rfl) ?_
  refine lv_iadd hx hb dX2_let_15 ?_
  obtain ⟨r4, z4, hG4, hF⟩ := o_b hF
  refine cl_V (C := RX2) (rest := []) X hK hN hA hP hD hS (kX2_leave l G cy cyO a z3 (2000 + x1) r4 z4 hG4) (cwV 1 hts gX2_let_X2_leave rfl rfl rfl (by decide +kernel) ⟨Nat.le_of_ble_eq_true rfl, Nat.le_of_ble_eq_true rfl⟩) (va_recv hK hP (ci := 2) (q0 := 0) rfl rfl) rfl hl.1 rfl (Nat.le_of_ble_eq_true rfl) dX2_let_16 ⟨Nat.zero_le _, Nat.zero_le _⟩ (fun H locs hP hD hS => ?_)
  refine W.eq (g2 := F0 m 19 ls []) rfl ?_
  obtain ⟨rfl, rfl⟩ := o_s hF
  exact rt_v X hr hlocks hP hD hS dX2_let_19
def fX2_passPlain_j32 (z0 : SM) (y1 : Int32) (y2 : Int32) (t0 : Int32) : Option (Int32 × SM) := if y1 < 0 ∨ 640 ≤ y1.toNatClampNeg then none else let_ ((z0.1 4) y1.toNatClampNeg) (fun v1 => (if t0 = 0 then if y1 < 0 ∨ 640 ≤ y1.toNatClampNeg then none else let_ ((setA z0.1 4 (upd (z0.1 4) y1.toNatClampNeg (v1 + y2)), z0.2) : SM) (fun z7 => bd_ (fX2_let z7 y1) (fun r8 z8 => some (t0, z8))) else if y1 < 0 ∨ 640 ≤ y1.toNatClampNeg then none else let_ ((setA z0.1 4 (upd (z0.1 4) y1.toNatClampNeg (v1 + 0)), z0.2) : SM) (fun z4 => bd_ (fX2_let z4 y1) (fun r5 z5 => some (t0, z5)))))
set_option maxRecDepth 100000 in
set_option maxHeartbeats 4000000 in
theorem jX2_passPlain_32 {p : Program} {l : Launch} {e : Env} {s : State} {m : MethodId} {args : Array Value} {below : List Frame} {meth : Method} {c : Code} {G : va_G} {cy cyO : ClassId} {a : Nat → Nat} {A : Nat → Prop} {r : Int32} {u : SM} (X : CallFix p m c cX2_passPlain 4 s args wsX2_passPlain RX2) (hr : meth.sig.returnType = (some .int)) (hlocks : meth.locks = false) (hK : va_K G vwCl (tys_ cy cyO) s) (hN : nw s) (hA : ∀ q, s.heap.size ≤ q → A q) : ∀ (z0 : SM) (y1 : Int32) (y2 : Int32) (t0 : Int32), fX2_passPlain_j32 z0 y1 y2 t0 = some (r, u) → ∀ (H : Heap) (locs : List Loc), va_P G vwCl (mW a cy z0) H → va_D A (mW a cy z0) → va_S A s.heap H locs → ∀ (ls : Array Slot), lv_has ls 4 [(0, .ref (a 0)), (1, .int y1), (2, .int y2)] → W p l e ({ frames := 2, cells := 0, slots := 0, locals := 42 } : Room) s m args below meth c H locs 0 0 (MQ below (qg (some (.int r)) (fun t => wPost G A (mW a cy u) t) A) args s 0 0 A) (F0 m 32 ls [.int t0]) := by
  obtain ⟨hx, hb, hml, hown, hts⟩ := id X
  have hin2 : ∀ w ∈ wsX20, w ∈ wsX2_passPlain := by decide +kernel
  intro z0 y1 y2 t0 hF H locs hP hD hS ls hl
  unfold fX2_passPlain_j32 at hF
  refine lv_istore_n (lv' := [(3, .int t0), (0, .ref (a 0)), (1, .int y1), (2, .int y2)]) hx hb dX2_passPlain_32 rfl hl (by decide) rfl (fun ls hl => ?_)
  refine lv_aload_n hx hb dX2_passPlain_33 rfl (lv_at hl 1 rfl) ?_
  refine va_get (D := G) (ci := 2) (v := .ref (a 4)) (C := RX2) (T := TX2) (N := 18) hx hb hts hin2 hown hK hP 0 rfl rfl 4 (by decide) (hts (.fieldLink RX2 19 "SignalBoxModel" "axles" "[I") (by decide +kernel)) (fun _ h9 => h9) rfl dX2_passPlain_34 ?_
  refine lv_iload_n hx hb dX2_passPlain_37 rfl (lv_at hl 2 rfl) ?_
  refine lv_dup2_11 hx hb dX2_passPlain_38 rfl rfl ?_
  obtain ⟨h1, hF⟩ := o_n hF
  refine va_iald (n := 640) (f := (z0.1 4)) (cA := cy) hx hb hK hP 4 0 rfl rfl h1 dX2_passPlain_39 ?_
  obtain ⟨v1, e1, hF⟩ := o_l hF
  refine w_top e1 ?_
  refine lv_iload_n hx hb dX2_passPlain_40 rfl (lv_at hl 0 rfl) ?_
  refine lv_if_ne (tgt := 48) hx hb dX2_passPlain_41 (by decide) (fun c2 => ?_) (fun c2 => ?_)
  · have hF := o_f c2 hF
    refine lv_iconst (v := 0) hx hb dX2_passPlain_48 (by decide) ?_
    refine lv_iadd hx hb dX2_passPlain_49 ?_
    obtain ⟨h3, hF⟩ := o_n hF
    refine va_iast (n := 640) (f := (z0.1 4)) (cA := cy) hx hb hK hP hD hS 4 0 rfl rfl h3 dX2_passPlain_50 (fun H locs hP hD hS => ?_)
    obtain ⟨z4, e4, hF⟩ := o_l hF
    have hP : va_P G vwCl (mW a cy z4) H := by rw [e4]; exact hP
    have hD : va_D A (mW a cy z4) := by rw [e4]; exact hD
    refine lv_aload_n hx hb dX2_passPlain_51 rfl (lv_at hl 1 rfl) ?_
    refine lv_iload_n hx hb dX2_passPlain_52 rfl (lv_at hl 2 rfl) ?_
    obtain ⟨r5, z5, hG5, hF⟩ := o_b hF
    refine cl_V (C := RX2) (rest := []) X hK hN hA hP hD hS (kX2_let l G cy cyO a z4 y1 r5 z5 hG5) (cwV 1 hts gX2_passPlain_X2_let rfl rfl rfl (by decide +kernel) ⟨Nat.le_of_ble_eq_true rfl, Nat.le_of_ble_eq_true rfl⟩) (va_recv hK hP (ci := 2) (q0 := 0) rfl rfl) rfl hl.1 rfl (Nat.le_of_ble_eq_true rfl) dX2_passPlain_53 ⟨Nat.zero_le _, Nat.zero_le _⟩ (fun H locs hP hD hS => ?_)
    refine W.eq (g2 := F0 m 56 ls []) rfl ?_
    refine lv_iload_n hx hb dX2_passPlain_56 rfl (lv_at hl 0 rfl) ?_
    obtain ⟨rfl, rfl⟩ := o_s hF
    exact rt_i X hr hlocks hP hD hS dX2_passPlain_57
  · have hF := o_t c2 hF
    refine lv_iload_n hx hb dX2_passPlain_44 rfl (lv_at hl 3 rfl) ?_
    refine lv_goto (tgt := 49) hx hb dX2_passPlain_45 (by decide) ?_
    refine lv_iadd hx hb dX2_passPlain_49 ?_
    obtain ⟨h6, hF⟩ := o_n hF
    refine va_iast (n := 640) (f := (z0.1 4)) (cA := cy) hx hb hK hP hD hS 4 0 rfl rfl h6 dX2_passPlain_50 (fun H locs hP hD hS => ?_)
    obtain ⟨z7, e7, hF⟩ := o_l hF
    have hP : va_P G vwCl (mW a cy z7) H := by rw [e7]; exact hP
    have hD : va_D A (mW a cy z7) := by rw [e7]; exact hD
    refine lv_aload_n hx hb dX2_passPlain_51 rfl (lv_at hl 1 rfl) ?_
    refine lv_iload_n hx hb dX2_passPlain_52 rfl (lv_at hl 2 rfl) ?_
    obtain ⟨r8, z8, hG8, hF⟩ := o_b hF
    refine cl_V (C := RX2) (rest := []) X hK hN hA hP hD hS (kX2_let l G cy cyO a z7 y1 r8 z8 hG8) (cwV 1 hts gX2_passPlain_X2_let rfl rfl rfl (by decide +kernel) ⟨Nat.le_of_ble_eq_true rfl, Nat.le_of_ble_eq_true rfl⟩) (va_recv hK hP (ci := 2) (q0 := 0) rfl rfl) rfl hl.1 rfl (Nat.le_of_ble_eq_true rfl) dX2_passPlain_53 ⟨Nat.zero_le _, Nat.zero_le _⟩ (fun H locs hP hD hS => ?_)
    refine W.eq (g2 := F0 m 56 ls []) rfl ?_
    refine lv_iload_n hx hb dX2_passPlain_56 rfl (lv_at hl 0 rfl) ?_
    obtain ⟨rfl, rfl⟩ := o_s hF
    exact rt_i X hr hlocks hP hD hS dX2_passPlain_57
def fX2_passPlain (z0 : SM) (x1 : Int32) (x2 : Int32) : Option (Int32 × SM) := bd_ (fX2_claim z0 x1) (fun r1 z1 => if x1 < 0 ∨ 640 ≤ x1.toNatClampNeg then none else let_ ((z1.1 4) x1.toNatClampNeg) (fun v2 => if x1 < 0 ∨ 640 ≤ x1.toNatClampNeg then none else let_ ((z1.1 2) x1.toNatClampNeg) (fun v3 => (if (lg_cmp (v2.toInt64 + x2.toInt64) v3.toInt64) ≤ 0 then (fX2_passPlain_j32 z1 x1 x2 0) else (fX2_passPlain_j32 z1 x1 x2 (-30))))))
set_option maxRecDepth 100000 in
set_option maxHeartbeats 4000000 in
theorem kX2_passPlain (l : Launch) (G : va_G) (cy cyO : ClassId) (a : Nat → Nat) (z0 : SM) (x1 : Int32) (x2 : Int32) (r : Int32) (u : SM) (hF : fX2_passPlain z0 x1 x2 = some (r, u)) : Ct l G (tys_ cy cyO) yX2_passPlain wsX2_passPlain ({ frames := 2, cells := 0, slots := 0, locals := 42 } : Room) [.ref (a 0), .int x1, .int x2] (mW a cy z0) (some (.int r)) (mW a cy u) := by
  unfold fX2_passPlain at hF
  refine ct_of (cc := cX2_passPlain) (maxL := 4) (ret := (some .int)) (own := RX2) (by decide) rfl (Nat.le_of_ble_eq_true rfl) rfl ?_
  intro p e s m below meth c A ls X hr hlocks _ hK hN hA hP hD hl
  have hS : va_S A s.heap s.heap [] := va_S.rf
  have hl : lv_has ls 4 [(0, .ref (a 0)), (1, .int x1), (2, .int x2)] := hl
  obtain ⟨hx, hb, hml, hown, hts⟩ := id X
  have hin2 : ∀ w ∈ wsX20, w ∈ wsX2_passPlain := by decide +kernel
  refine lv_aload_n hx hb dX2_passPlain_0 rfl (lv_at hl 0 rfl) ?_
  refine lv_iload_n hx hb dX2_passPlain_1 rfl (lv_at hl 1 rfl) ?_
  obtain ⟨r1, z1, hG1, hF⟩ := o_b hF
  refine cl_V (C := RX2) (rest := []) X hK hN hA hP hD hS (kX2_claim l G cy cyO a z0 x1 r1 z1 hG1) (cwV 1 hts gX2_passPlain_X2_claim rfl rfl rfl (by decide +kernel) ⟨Nat.le_of_ble_eq_true rfl, Nat.le_of_ble_eq_true rfl⟩) (va_recv hK hP (ci := 2) (q0 := 0) rfl rfl) rfl hl.1 rfl (Nat.le_of_ble_eq_true rfl) dX2_passPlain_2 ⟨Nat.zero_le _, Nat.zero_le _⟩ (fun H locs hP hD hS => ?_)
  refine W.eq (g2 := F0 m 5 ls []) rfl ?_
  refine lv_aload_n hx hb dX2_passPlain_5 rfl (lv_at hl 0 rfl) ?_
  refine va_get (D := G) (ci := 2) (v := .ref (a 4)) (C := RX2) (T := TX2) (N := 18) hx hb hts hin2 hown hK hP 0 rfl rfl 4 (by decide) (hts (.fieldLink RX2 19 "SignalBoxModel" "axles" "[I") (by decide +kernel)) (fun _ h9 => h9) rfl dX2_passPlain_6 ?_
  refine lv_iload_n hx hb dX2_passPlain_9 rfl (lv_at hl 1 rfl) ?_
  obtain ⟨h2, hF⟩ := o_n hF
  refine va_iald (n := 640) (f := (z1.1 4)) (cA := cy) hx hb hK hP 4 0 rfl rfl h2 dX2_passPlain_10 ?_
  obtain ⟨v2, e2, hF⟩ := o_l hF
  refine w_top e2 ?_
  refine lv_i2l hx hb dX2_passPlain_11 rfl ?_
  refine lv_iload_n hx hb dX2_passPlain_12 rfl (lv_at hl 2 rfl) ?_
  refine lv_i2l hx hb dX2_passPlain_13 rfl ?_
  refine lv_ladd hx hb dX2_passPlain_14 ?_
  refine lv_aload_n hx hb dX2_passPlain_15 rfl (lv_at hl 0 rfl) ?_
  refine va_get (D := G) (ci := 2) (v := .ref (a 2)) (C := RX2) (T := TX2) (N := 18) hx hb hts hin2 hown hK hP 0 rfl rfl 2 (by decide) (hts (.fieldLink RX2 13 "SignalBoxModel" "limits" "[I") (by decide +kernel)) (fun _ h9 => h9) rfl dX2_passPlain_16 ?_
  refine lv_iload_n hx hb dX2_passPlain_19 rfl (lv_at hl 1 rfl) ?_
  obtain ⟨h3, hF⟩ := o_n hF
  refine va_iald (n := 640) (f := (z1.1 2)) (cA := cy) hx hb hK hP 2 0 rfl rfl h3 dX2_passPlain_20 ?_
  obtain ⟨v3, e3, hF⟩ := o_l hF
  refine w_top e3 ?_
  refine lv_i2l hx hb dX2_passPlain_21 rfl ?_
  refine W.lcmp hx hb dX2_passPlain_22 ?_
  refine lv_if_le (tgt := 31) hx hb dX2_passPlain_23 (by decide) (fun c4 => ?_) (fun c4 => ?_)
  · have hF := o_t c4 hF
    refine lv_iconst (v := 0) hx hb dX2_passPlain_31 (by decide) ?_
    exact jX2_passPlain_32 X hr hlocks hK hN hA z1 x1 x2 0 hF H locs hP hD hS ls (lv_sub hl [0, 1, 2] rfl)
  · have hF := o_f c4 hF
    refine lv_bipush (v := (-30)) hx hb dX2_passPlain_26 (by decide) ?_
    refine lv_goto (tgt := 32) hx hb dX2_passPlain_28 (by decide) ?_
    exact jX2_passPlain_32 X hr hlocks hK hN hA z1 x1 x2 (-30) hF H locs hP hD hS ls (lv_sub hl [0, 1, 2] rfl)
def fX2_passPoints (z0 : SM) (x1 : Int32) (x2 : Int32) : Option (Int32 × SM) := bd_ (fX2_claim z0 x1) (fun r1 z1 => if x1 < 0 ∨ 640 ≤ x1.toNatClampNeg then none else let_ ((z1.1 5) x1.toNatClampNeg) (fun v2 => (if v2 = 1 then if x1 < 0 ∨ 640 ≤ x1.toNatClampNeg then none else let_ ((setA z1.1 5 (upd (z1.1 5) x1.toNatClampNeg 0), z1.2) : SM) (fun z9 => bd_ (fX2_let z9 x1) (fun r10 z10 => some (1, z10))) else if x1 < 0 ∨ 640 ≤ x1.toNatClampNeg then none else let_ ((setA z1.1 5 (upd (z1.1 5) x1.toNatClampNeg 1), z1.2) : SM) (fun z5 => bd_ (fX2_passPlain z5 x1 x2) (fun r6 z6 => bd_ (fX2_let z6 x1) (fun r7 z7 => some (r6, z7)))))))
set_option maxRecDepth 100000 in
set_option maxHeartbeats 4000000 in
theorem kX2_passPoints (l : Launch) (G : va_G) (cy cyO : ClassId) (a : Nat → Nat) (z0 : SM) (x1 : Int32) (x2 : Int32) (r : Int32) (u : SM) (hF : fX2_passPoints z0 x1 x2 = some (r, u)) : Ct l G (tys_ cy cyO) yX2_passPoints wsX2_passPoints ({ frames := 3, cells := 0, slots := 0, locals := 65 } : Room) [.ref (a 0), .int x1, .int x2] (mW a cy z0) (some (.int r)) (mW a cy u) := by
  unfold fX2_passPoints at hF
  refine ct_of (cc := cX2_passPoints) (maxL := 4) (ret := (some .int)) (own := RX2) (by decide) rfl (Nat.le_of_ble_eq_true rfl) rfl ?_
  intro p e s m below meth c A ls X hr hlocks _ hK hN hA hP hD hl
  have hS : va_S A s.heap s.heap [] := va_S.rf
  have hl : lv_has ls 4 [(0, .ref (a 0)), (1, .int x1), (2, .int x2)] := hl
  obtain ⟨hx, hb, hml, hown, hts⟩ := id X
  have hin2 : ∀ w ∈ wsX20, w ∈ wsX2_passPoints := by decide +kernel
  refine lv_aload_n hx hb dX2_passPoints_0 rfl (lv_at hl 0 rfl) ?_
  refine lv_iload_n hx hb dX2_passPoints_1 rfl (lv_at hl 1 rfl) ?_
  obtain ⟨r1, z1, hG1, hF⟩ := o_b hF
  refine cl_V (C := RX2) (rest := []) X hK hN hA hP hD hS (kX2_claim l G cy cyO a z0 x1 r1 z1 hG1) (cwV 1 hts gX2_passPoints_X2_claim rfl rfl rfl (by decide +kernel) ⟨Nat.le_of_ble_eq_true rfl, Nat.le_of_ble_eq_true rfl⟩) (va_recv hK hP (ci := 2) (q0 := 0) rfl rfl) rfl hl.1 rfl (Nat.le_of_ble_eq_true rfl) dX2_passPoints_2 ⟨Nat.zero_le _, Nat.zero_le _⟩ (fun H locs hP hD hS => ?_)
  refine W.eq (g2 := F0 m 5 ls []) rfl ?_
  refine lv_iconst (v := 1) hx hb dX2_passPoints_5 (by decide) ?_
  refine lv_istore_n (lv' := [(3, .int 1), (0, .ref (a 0)), (1, .int x1), (2, .int x2)]) hx hb dX2_passPoints_6 rfl hl (by decide) rfl (fun ls hl => ?_)
  refine lv_aload_n hx hb dX2_passPoints_7 rfl (lv_at hl 1 rfl) ?_
  refine va_get (D := G) (ci := 2) (v := .ref (a 5)) (C := RX2) (T := TX2) (N := 18) hx hb hts hin2 hown hK hP 0 rfl rfl 5 (by decide) (hts (.fieldLink RX2 22 "SignalBoxModel" "legs" "[I") (by decide +kernel)) (fun _ h9 => h9) rfl dX2_passPoints_8 ?_
  refine lv_iload_n hx hb dX2_passPoints_11 rfl (lv_at hl 2 rfl) ?_
  obtain ⟨h2, hF⟩ := o_n hF
  refine va_iald (n := 640) (f := (z1.1 5)) (cA := cy) hx hb hK hP 5 0 rfl rfl h2 dX2_passPoints_12 ?_
  obtain ⟨v2, e2, hF⟩ := o_l hF
  refine w_top e2 ?_
  refine lv_iconst (v := 1) hx hb dX2_passPoints_13 (by decide) ?_
  refine lv_icmp_ne (tgt := 27) hx hb dX2_passPoints_14 (by decide) (fun c3 => ?_) (fun c3 => ?_)
  · have hF := o_f c3 hF
    refine lv_aload_n hx hb dX2_passPoints_27 rfl (lv_at hl 1 rfl) ?_
    refine va_get (D := G) (ci := 2) (v := .ref (a 5)) (C := RX2) (T := TX2) (N := 18) hx hb hts hin2 hown hK hP 0 rfl rfl 5 (by decide) (hts (.fieldLink RX2 22 "SignalBoxModel" "legs" "[I") (by decide +kernel)) (fun _ h9 => h9) rfl dX2_passPoints_28 ?_
    refine lv_iload_n hx hb dX2_passPoints_31 rfl (lv_at hl 2 rfl) ?_
    refine lv_iconst (v := 1) hx hb dX2_passPoints_32 (by decide) ?_
    obtain ⟨h4, hF⟩ := o_n hF
    refine va_iast (n := 640) (f := (z1.1 5)) (cA := cy) hx hb hK hP hD hS 5 0 rfl rfl h4 dX2_passPoints_33 (fun H locs hP hD hS => ?_)
    obtain ⟨z5, e5, hF⟩ := o_l hF
    have hP : va_P G vwCl (mW a cy z5) H := by rw [e5]; exact hP
    have hD : va_D A (mW a cy z5) := by rw [e5]; exact hD
    refine lv_aload_n hx hb dX2_passPoints_34 rfl (lv_at hl 1 rfl) ?_
    refine lv_iload_n hx hb dX2_passPoints_35 rfl (lv_at hl 2 rfl) ?_
    refine lv_iload_n hx hb dX2_passPoints_36 rfl (lv_at hl 3 rfl) ?_
    obtain ⟨r6, z6, hG6, hF⟩ := o_b hF
    refine cl_V (C := RX2) (rest := []) X hK hN hA hP hD hS (kX2_passPlain l G cy cyO a z5 x1 x2 r6 z6 hG6) (cwV 2 hts gX2_passPoints_X2_passPlain rfl rfl rfl (by decide +kernel) ⟨Nat.le_of_ble_eq_true rfl, Nat.le_of_ble_eq_true rfl⟩) (va_recv hK hP (ci := 2) (q0 := 0) rfl rfl) rfl hl.1 rfl (Nat.le_of_ble_eq_true rfl) dX2_passPoints_37 ⟨Nat.zero_le _, Nat.zero_le _⟩ (fun H locs hP hD hS => ?_)
    refine W.eq (g2 := F0 m 40 ls [.int r6]) rfl ?_
    refine lv_istore_n (lv' := [(3, .int r6), (0, .ref (a 0)), (1, .int x1), (2, .int x2)]) hx hb dX2_passPoints_40 rfl hl (by decide) rfl (fun ls hl => ?_)
    refine lv_aload_n hx hb dX2_passPoints_41 rfl (lv_at hl 1 rfl) ?_
    refine lv_iload_n hx hb dX2_passPoints_42 rfl (lv_at hl 2 rfl) ?_
    obtain ⟨r7, z7, hG7, hF⟩ := o_b hF
    refine cl_V (C := RX2) (rest := []) X hK hN hA hP hD hS (kX2_let l G cy cyO a z6 x1 r7 z7 hG7) (cwV 1 hts gX2_passPoints_X2_let rfl rfl rfl (by decide +kernel) ⟨Nat.le_of_ble_eq_true rfl, Nat.le_of_ble_eq_true rfl⟩) (va_recv hK hP (ci := 2) (q0 := 0) rfl rfl) rfl hl.1 rfl (Nat.le_of_ble_eq_true rfl) dX2_passPoints_43 ⟨Nat.zero_le _, Nat.zero_le _⟩ (fun H locs hP hD hS => ?_)
    refine W.eq (g2 := F0 m 46 ls []) rfl ?_
    refine lv_iload_n hx hb dX2_passPoints_46 rfl (lv_at hl 0 rfl) ?_
    obtain ⟨rfl, rfl⟩ := o_s hF
    exact rt_i X hr hlocks hP hD hS dX2_passPoints_47
  · have hF := o_t c3 hF
    refine lv_aload_n hx hb dX2_passPoints_17 rfl (lv_at hl 1 rfl) ?_
    refine va_get (D := G) (ci := 2) (v := .ref (a 5)) (C := RX2) (T := TX2) (N := 18) hx hb hts hin2 hown hK hP 0 rfl rfl 5 (by decide) (hts (.fieldLink RX2 22 "SignalBoxModel" "legs" "[I") (by decide +kernel)) (fun _ h9 => h9) rfl dX2_passPoints_18 ?_
    refine lv_iload_n hx hb dX2_passPoints_21 rfl (lv_at hl 2 rfl) ?_
    refine lv_iconst (v := 0) hx hb dX2_passPoints_22 (by decide) ?_
    obtain ⟨h8, hF⟩ := o_n hF
    refine va_iast (n := 640) (f := (z1.1 5)) (cA := cy) hx hb hK hP hD hS 5 0 rfl rfl h8 dX2_passPoints_23 (fun H locs hP hD hS => ?_)
    obtain ⟨z9, e9, hF⟩ := o_l hF
    have hP : va_P G vwCl (mW a cy z9) H := by rw [e9]; exact hP
    have hD : va_D A (mW a cy z9) := by rw [e9]; exact hD
    refine lv_goto (tgt := 41) hx hb dX2_passPoints_24 (by decide) ?_
    refine lv_aload_n hx hb dX2_passPoints_41 rfl (lv_at hl 1 rfl) ?_
    refine lv_iload_n hx hb dX2_passPoints_42 rfl (lv_at hl 2 rfl) ?_
    obtain ⟨r10, z10, hG10, hF⟩ := o_b hF
    refine cl_V (C := RX2) (rest := []) X hK hN hA hP hD hS (kX2_let l G cy cyO a z9 x1 r10 z10 hG10) (cwV 1 hts gX2_passPoints_X2_let rfl rfl rfl (by decide +kernel) ⟨Nat.le_of_ble_eq_true rfl, Nat.le_of_ble_eq_true rfl⟩) (va_recv hK hP (ci := 2) (q0 := 0) rfl rfl) rfl hl.1 rfl (Nat.le_of_ble_eq_true rfl) dX2_passPoints_43 ⟨Nat.zero_le _, Nat.zero_le _⟩ (fun H locs hP hD hS => ?_)
    refine W.eq (g2 := F0 m 46 ls []) rfl ?_
    refine lv_iload_n hx hb dX2_passPoints_46 rfl (lv_at hl 0 rfl) ?_
    obtain ⟨rfl, rfl⟩ := o_s hF
    exact rt_i X hr hlocks hP hD hS dX2_passPoints_47
def fX2_passBridge (z0 : SM) (x1 : Int32) (x2 : Int32) : Option (Int32 × SM) := bd_ (fX2_claim z0 x1) (fun r1 z1 => if x1 < 0 ∨ 640 ≤ x1.toNatClampNeg then none else let_ ((z1.1 3) x1.toNatClampNeg) (fun v2 => (if v2 < x2 then bd_ (fX2_let z1 x1) (fun r4 z4 => some (2, z4)) else bd_ (fX2_passPoints z1 x1 x2) (fun r5 z5 => if x1 < 0 ∨ 640 ≤ x1.toNatClampNeg then none else let_ ((z5.1 3) x1.toNatClampNeg) (fun v6 => (if r5 = 0 then if x1 < 0 ∨ 640 ≤ x1.toNatClampNeg then none else let_ ((setA z5.1 3 (upd (z5.1 3) x1.toNatClampNeg (v6 - 1)), z5.2) : SM) (fun z12 => bd_ (fX2_let z12 x1) (fun r13 z13 => some (r5, z13))) else if x1 < 0 ∨ 640 ≤ x1.toNatClampNeg then none else let_ ((setA z5.1 3 (upd (z5.1 3) x1.toNatClampNeg (v6 - 0)), z5.2) : SM) (fun z9 => bd_ (fX2_let z9 x1) (fun r10 z10 => some (r5, z10)))))))))
set_option maxRecDepth 100000 in
set_option maxHeartbeats 4000000 in
theorem kX2_passBridge (l : Launch) (G : va_G) (cy cyO : ClassId) (a : Nat → Nat) (z0 : SM) (x1 : Int32) (x2 : Int32) (r : Int32) (u : SM) (hF : fX2_passBridge z0 x1 x2 = some (r, u)) : Ct l G (tys_ cy cyO) yX2_passBridge wsX2_passBridge ({ frames := 4, cells := 0, slots := 0, locals := 88 } : Room) [.ref (a 0), .int x1, .int x2] (mW a cy z0) (some (.int r)) (mW a cy u) := by
  unfold fX2_passBridge at hF
  refine ct_of (cc := cX2_passBridge) (maxL := 4) (ret := (some .int)) (own := RX2) (by decide) rfl (Nat.le_of_ble_eq_true rfl) rfl ?_
  intro p e s m below meth c A ls X hr hlocks _ hK hN hA hP hD hl
  have hS : va_S A s.heap s.heap [] := va_S.rf
  have hl : lv_has ls 4 [(0, .ref (a 0)), (1, .int x1), (2, .int x2)] := hl
  obtain ⟨hx, hb, hml, hown, hts⟩ := id X
  have hin2 : ∀ w ∈ wsX20, w ∈ wsX2_passBridge := by decide +kernel
  refine lv_aload_n hx hb dX2_passBridge_0 rfl (lv_at hl 0 rfl) ?_
  refine lv_iload_n hx hb dX2_passBridge_1 rfl (lv_at hl 1 rfl) ?_
  obtain ⟨r1, z1, hG1, hF⟩ := o_b hF
  refine cl_V (C := RX2) (rest := []) X hK hN hA hP hD hS (kX2_claim l G cy cyO a z0 x1 r1 z1 hG1) (cwV 1 hts gX2_passBridge_X2_claim rfl rfl rfl (by decide +kernel) ⟨Nat.le_of_ble_eq_true rfl, Nat.le_of_ble_eq_true rfl⟩) (va_recv hK hP (ci := 2) (q0 := 0) rfl rfl) rfl hl.1 rfl (Nat.le_of_ble_eq_true rfl) dX2_passBridge_2 ⟨Nat.zero_le _, Nat.zero_le _⟩ (fun H locs hP hD hS => ?_)
  refine W.eq (g2 := F0 m 5 ls []) rfl ?_
  refine lv_iconst (v := 2) hx hb dX2_passBridge_5 (by decide) ?_
  refine lv_istore_n (lv' := [(3, .int 2), (0, .ref (a 0)), (1, .int x1), (2, .int x2)]) hx hb dX2_passBridge_6 rfl hl (by decide) rfl (fun ls hl => ?_)
  refine lv_iload_n hx hb dX2_passBridge_7 rfl (lv_at hl 3 rfl) ?_
  refine lv_aload_n hx hb dX2_passBridge_8 rfl (lv_at hl 1 rfl) ?_
  refine va_get (D := G) (ci := 2) (v := .ref (a 3)) (C := RX2) (T := TX2) (N := 18) hx hb hts hin2 hown hK hP 0 rfl rfl 3 (by decide) (hts (.fieldLink RX2 16 "SignalBoxModel" "marks" "[I") (by decide +kernel)) (fun _ h9 => h9) rfl dX2_passBridge_9 ?_
  refine lv_iload_n hx hb dX2_passBridge_12 rfl (lv_at hl 2 rfl) ?_
  obtain ⟨h2, hF⟩ := o_n hF
  refine va_iald (n := 640) (f := (z1.1 3)) (cA := cy) hx hb hK hP 3 0 rfl rfl h2 dX2_passBridge_13 ?_
  obtain ⟨v2, e2, hF⟩ := o_l hF
  refine w_top e2 ?_
  refine lv_icmp_gt (tgt := 42) hx hb dX2_passBridge_14 (by decide) (fun c3 => ?_) (fun c3 => ?_)
  · have hF := o_t c3 hF
    refine lv_aload_n hx hb dX2_passBridge_42 rfl (lv_at hl 1 rfl) ?_
    refine lv_iload_n hx hb dX2_passBridge_43 rfl (lv_at hl 2 rfl) ?_
    obtain ⟨r4, z4, hG4, hF⟩ := o_b hF
    refine cl_V (C := RX2) (rest := []) X hK hN hA hP hD hS (kX2_let l G cy cyO a z1 x1 r4 z4 hG4) (cwV 1 hts gX2_passBridge_X2_let rfl rfl rfl (by decide +kernel) ⟨Nat.le_of_ble_eq_true rfl, Nat.le_of_ble_eq_true rfl⟩) (va_recv hK hP (ci := 2) (q0 := 0) rfl rfl) rfl hl.1 rfl (Nat.le_of_ble_eq_true rfl) dX2_passBridge_44 ⟨Nat.zero_le _, Nat.zero_le _⟩ (fun H locs hP hD hS => ?_)
    refine W.eq (g2 := F0 m 47 ls []) rfl ?_
    refine lv_iload_n hx hb dX2_passBridge_47 rfl (lv_at hl 0 rfl) ?_
    obtain ⟨rfl, rfl⟩ := o_s hF
    exact rt_i X hr hlocks hP hD hS dX2_passBridge_48
  · have hF := o_f c3 hF
    refine lv_aload_n hx hb dX2_passBridge_17 rfl (lv_at hl 1 rfl) ?_
    refine lv_iload_n hx hb dX2_passBridge_18 rfl (lv_at hl 2 rfl) ?_
    refine lv_iload_n hx hb dX2_passBridge_19 rfl (lv_at hl 3 rfl) ?_
    obtain ⟨r5, z5, hG5, hF⟩ := o_b hF
    refine cl_V (C := RX2) (rest := []) X hK hN hA hP hD hS (kX2_passPoints l G cy cyO a z1 x1 x2 r5 z5 hG5) (cwV 2 hts gX2_passBridge_X2_passPoints rfl rfl rfl (by decide +kernel) ⟨Nat.le_of_ble_eq_true rfl, Nat.le_of_ble_eq_true rfl⟩) (va_recv hK hP (ci := 2) (q0 := 0) rfl rfl) rfl hl.1 rfl (Nat.le_of_ble_eq_true rfl) dX2_passBridge_20 ⟨Nat.zero_le _, Nat.zero_le _⟩ (fun H locs hP hD hS => ?_)
    refine W.eq (g2 := F0 m 23 ls [.int r5]) rfl ?_
    refine lv_istore_n (lv' := [(3, .int r5), (0, .ref (a 0)), (1, .int x1), (2, .int x2)]) hx hb dX2_passBridge_23 rfl hl (by decide) rfl (fun ls hl => ?_)
    refine lv_aload_n hx hb dX2_passBridge_24 rfl (lv_at hl 1 rfl) ?_
    refine va_get (D := G) (ci := 2) (v := .ref (a 3)) (C := RX2) (T := TX2) (N := 18) hx hb hts hin2 hown hK hP 0 rfl rfl 3 (by decide) (hts (.fieldLink RX2 16 "SignalBoxModel" "marks" "[I") (by decide +kernel)) (fun _ h9 => h9) rfl dX2_passBridge_25 ?_
    refine lv_iload_n hx hb dX2_passBridge_28 rfl (lv_at hl 2 rfl) ?_
    refine lv_dup2_11 hx hb dX2_passBridge_29 rfl rfl ?_
    obtain ⟨h6, hF⟩ := o_n hF
    refine va_iald (n := 640) (f := (z5.1 3)) (cA := cy) hx hb hK hP 3 0 rfl rfl h6 dX2_passBridge_30 ?_
    obtain ⟨v6, e6, hF⟩ := o_l hF
    refine w_top e6 ?_
    refine lv_iload_n hx hb dX2_passBridge_31 rfl (lv_at hl 0 rfl) ?_
    refine lv_if_ne (tgt := 39) hx hb dX2_passBridge_32 (by decide) (fun c7 => ?_) (fun c7 => ?_)
    · have hF := o_f c7 hF
      refine lv_iconst (v := 0) hx hb dX2_passBridge_39 (by decide) ?_
      refine lv_isub hx hb dX2_passBridge_40 ?_
      obtain ⟨h8, hF⟩ := o_n hF
      refine va_iast (n := 640) (f := (z5.1 3)) (cA := cy) hx hb hK hP hD hS 3 0 rfl rfl h8 dX2_passBridge_41 (fun H locs hP hD hS => ?_)
      obtain ⟨z9, e9, hF⟩ := o_l hF
      have hP : va_P G vwCl (mW a cy z9) H := by rw [e9]; exact hP
      have hD : va_D A (mW a cy z9) := by rw [e9]; exact hD
      refine lv_aload_n hx hb dX2_passBridge_42 rfl (lv_at hl 1 rfl) ?_
      refine lv_iload_n hx hb dX2_passBridge_43 rfl (lv_at hl 2 rfl) ?_
      obtain ⟨r10, z10, hG10, hF⟩ := o_b hF
      refine cl_V (C := RX2) (rest := []) X hK hN hA hP hD hS (kX2_let l G cy cyO a z9 x1 r10 z10 hG10) (cwV 1 hts gX2_passBridge_X2_let rfl rfl rfl (by decide +kernel) ⟨Nat.le_of_ble_eq_true rfl, Nat.le_of_ble_eq_true rfl⟩) (va_recv hK hP (ci := 2) (q0 := 0) rfl rfl) rfl hl.1 rfl (Nat.le_of_ble_eq_true rfl) dX2_passBridge_44 ⟨Nat.zero_le _, Nat.zero_le _⟩ (fun H locs hP hD hS => ?_)
      refine W.eq (g2 := F0 m 47 ls []) rfl ?_
      refine lv_iload_n hx hb dX2_passBridge_47 rfl (lv_at hl 0 rfl) ?_
      obtain ⟨rfl, rfl⟩ := o_s hF
      exact rt_i X hr hlocks hP hD hS dX2_passBridge_48
    · have hF := o_t c7 hF
      refine lv_iconst (v := 1) hx hb dX2_passBridge_35 (by decide) ?_
      refine lv_goto (tgt := 40) hx hb dX2_passBridge_36 (by decide) ?_
      refine lv_isub hx hb dX2_passBridge_40 ?_
      obtain ⟨h11, hF⟩ := o_n hF
      refine va_iast (n := 640) (f := (z5.1 3)) (cA := cy) hx hb hK hP hD hS 3 0 rfl rfl h11 dX2_passBridge_41 (fun H locs hP hD hS => ?_)
      obtain ⟨z12, e12, hF⟩ := o_l hF
      have hP : va_P G vwCl (mW a cy z12) H := by rw [e12]; exact hP
      have hD : va_D A (mW a cy z12) := by rw [e12]; exact hD
      refine lv_aload_n hx hb dX2_passBridge_42 rfl (lv_at hl 1 rfl) ?_
      refine lv_iload_n hx hb dX2_passBridge_43 rfl (lv_at hl 2 rfl) ?_
      obtain ⟨r13, z13, hG13, hF⟩ := o_b hF
      refine cl_V (C := RX2) (rest := []) X hK hN hA hP hD hS (kX2_let l G cy cyO a z12 x1 r13 z13 hG13) (cwV 1 hts gX2_passBridge_X2_let rfl rfl rfl (by decide +kernel) ⟨Nat.le_of_ble_eq_true rfl, Nat.le_of_ble_eq_true rfl⟩) (va_recv hK hP (ci := 2) (q0 := 0) rfl rfl) rfl hl.1 rfl (Nat.le_of_ble_eq_true rfl) dX2_passBridge_44 ⟨Nat.zero_le _, Nat.zero_le _⟩ (fun H locs hP hD hS => ?_)
      refine W.eq (g2 := F0 m 47 ls []) rfl ?_
      refine lv_iload_n hx hb dX2_passBridge_47 rfl (lv_at hl 0 rfl) ?_
      obtain ⟨rfl, rfl⟩ := o_s hF
      exact rt_i X hr hlocks hP hD hS dX2_passBridge_48
def fX2_pass_j43 (z0 : SM) (t0 : Int32) : Option (Int32 × SM) := (if t0 = 0 then let_ ((z0.1, z0.2.1, z0.2.2.1, z0.2.2.2.1, z0.2.2.2.2.1, z0.2.2.2.2.2.1, z0.2.2.2.2.2.2.1, z0.2.2.2.2.2.2.2.1, z0.2.2.2.2.2.2.2.2.1, z0.2.2.2.2.2.2.2.2.2.1, (z0.2.2.2.2.2.2.2.2.2.2 + 1)) : SM) (fun z3 => some (t0, z3)) else let_ ((z0.1, z0.2.1, z0.2.2.1, z0.2.2.2.1, z0.2.2.2.2.1, z0.2.2.2.2.2.1, z0.2.2.2.2.2.2.1, z0.2.2.2.2.2.2.2.1, z0.2.2.2.2.2.2.2.2.1, z0.2.2.2.2.2.2.2.2.2.1, (z0.2.2.2.2.2.2.2.2.2.2 + 0)) : SM) (fun z2 => some (t0, z2)))
set_option maxRecDepth 100000 in
set_option maxHeartbeats 4000000 in
theorem jX2_pass_43 {p : Program} {l : Launch} {e : Env} {s : State} {m : MethodId} {args : Array Value} {below : List Frame} {meth : Method} {c : Code} {G : va_G} {cy cyO : ClassId} {a : Nat → Nat} {A : Nat → Prop} {r : Int32} {u : SM} (X : CallFix p m c cX2_pass 4 s args wsX2_pass RX2) (hr : meth.sig.returnType = (some .int)) (hlocks : meth.locks = false) (hK : va_K G vwCl (tys_ cy cyO) s) (hN : nw s) (hA : ∀ q, s.heap.size ≤ q → A q) : ∀ (z0 : SM) (t0 : Int32), fX2_pass_j43 z0 t0 = some (r, u) → ∀ (H : Heap) (locs : List Loc), va_P G vwCl (mW a cy z0) H → va_D A (mW a cy z0) → va_S A s.heap H locs → ∀ (ls : Array Slot), lv_has ls 4 [(0, .ref (a 0))] → W p l e ({ frames := 5, cells := 0, slots := 0, locals := 111 } : Room) s m args below meth c H locs 0 0 (MQ below (qg (some (.int r)) (fun t => wPost G A (mW a cy u) t) A) args s 0 0 A) (F0 m 43 ls [.int t0]) := by
  obtain ⟨hx, hb, hml, hown, hts⟩ := id X
  have hin2 : ∀ w ∈ wsX20, w ∈ wsX2_pass := by decide +kernel
  intro z0 t0 hF H locs hP hD hS ls hl
  unfold fX2_pass_j43 at hF
  refine lv_istore_n (lv' := [(3, .int t0), (0, .ref (a 0))]) hx hb dX2_pass_43 rfl hl (by decide) rfl (fun ls hl => ?_)
  refine lv_aload_n hx hb dX2_pass_44 rfl (lv_at hl 1 rfl) ?_
  refine lv_dup hx hb dX2_pass_45 rfl ?_
  refine va_get (D := G) (ci := 2) (v := .int z0.2.2.2.2.2.2.2.2.2.2) (C := RX2) (T := TX2) (N := 18) hx hb hts hin2 hown hK hP 0 rfl rfl 14 (by decide) (hts (.fieldLink RX2 85 "SignalBoxModel" "passed" "I") (by decide +kernel)) (fun _ h9 => h9) rfl dX2_pass_46 ?_
  refine lv_iload_n hx hb dX2_pass_49 rfl (lv_at hl 0 rfl) ?_
  refine lv_if_ne (tgt := 57) hx hb dX2_pass_50 (by decide) (fun c1 => ?_) (fun c1 => ?_)
  · have hF := o_f c1 hF
    refine lv_iconst (v := 0) hx hb dX2_pass_57 (by decide) ?_
    refine lv_iadd hx hb dX2_pass_58 ?_
    refine va_put (D := G) (ci := 2) (v := .int (z0.2.2.2.2.2.2.2.2.2.2 + 0)) (ty := .int) (C := RX2) (T := TX2) (N := 18) hx hb hts hin2 tyX2 tyX2_ok nmX2 hown hK hP hD hS 0 rfl rfl 14 (by decide) (hts (.fieldLink RX2 85 "SignalBoxModel" "passed" "I") (by decide +kernel)) (fun _ h9 => h9) rfl (by decide +kernel) rfl rfl (Nat.le_of_ble_eq_true rfl) dX2_pass_59 (fun H locs hP hD hS => ?_)
    obtain ⟨z2, e2, hF⟩ := o_l hF
    have hP : va_P G vwCl (mW a cy z2) H := by rw [e2]; exact hP
    have hD : va_D A (mW a cy z2) := by rw [e2]; exact hD
    refine lv_iload_n hx hb dX2_pass_62 rfl (lv_at hl 0 rfl) ?_
    obtain ⟨rfl, rfl⟩ := o_s hF
    exact rt_i X hr hlocks hP hD hS dX2_pass_63
  · have hF := o_t c1 hF
    refine lv_iconst (v := 1) hx hb dX2_pass_53 (by decide) ?_
    refine lv_goto (tgt := 58) hx hb dX2_pass_54 (by decide) ?_
    refine lv_iadd hx hb dX2_pass_58 ?_
    refine va_put (D := G) (ci := 2) (v := .int (z0.2.2.2.2.2.2.2.2.2.2 + 1)) (ty := .int) (C := RX2) (T := TX2) (N := 18) hx hb hts hin2 tyX2 tyX2_ok nmX2 hown hK hP hD hS 0 rfl rfl 14 (by decide) (hts (.fieldLink RX2 85 "SignalBoxModel" "passed" "I") (by decide +kernel)) (fun _ h9 => h9) rfl (by decide +kernel) rfl rfl (Nat.le_of_ble_eq_true rfl) dX2_pass_59 (fun H locs hP hD hS => ?_)
    obtain ⟨z3, e3, hF⟩ := o_l hF
    have hP : va_P G vwCl (mW a cy z3) H := by rw [e3]; exact hP
    have hD : va_D A (mW a cy z3) := by rw [e3]; exact hD
    refine lv_iload_n hx hb dX2_pass_62 rfl (lv_at hl 0 rfl) ?_
    obtain ⟨rfl, rfl⟩ := o_s hF
    exact rt_i X hr hlocks hP hD hS dX2_pass_63
def fX2_pass (z0 : SM) (x1 : Int32) (x2 : Int32) : Option (Int32 × SM) := if x1 < 0 ∨ 640 ≤ x1.toNatClampNeg then none else let_ ((z0.1 1) x1.toNatClampNeg) (fun v1 => (if v1 = 0 then bd_ (fX2_passPlain z0 x1 x2) (fun r7 z7 => (fX2_pass_j43 z7 r7)) else if x1 < 0 ∨ 640 ≤ x1.toNatClampNeg then none else let_ ((z0.1 1) x1.toNatClampNeg) (fun v3 => (if v3 = 1 then bd_ (fX2_passPoints z0 x1 x2) (fun r6 z6 => (fX2_pass_j43 z6 r6)) else bd_ (fX2_passBridge z0 x1 x2) (fun r5 z5 => (fX2_pass_j43 z5 r5))))))
set_option maxRecDepth 100000 in
set_option maxHeartbeats 4000000 in
theorem kX2_pass (l : Launch) (G : va_G) (cy cyO : ClassId) (a : Nat → Nat) (z0 : SM) (x1 : Int32) (x2 : Int32) (r : Int32) (u : SM) (hF : fX2_pass z0 x1 x2 = some (r, u)) : Ct l G (tys_ cy cyO) yX2_pass wsX2_pass ({ frames := 5, cells := 0, slots := 0, locals := 111 } : Room) [.ref (a 0), .int x1, .int x2] (mW a cy z0) (some (.int r)) (mW a cy u) := by
  unfold fX2_pass at hF
  refine ct_of (cc := cX2_pass) (maxL := 4) (ret := (some .int)) (own := RX2) (by decide) rfl (Nat.le_of_ble_eq_true rfl) rfl ?_
  intro p e s m below meth c A ls X hr hlocks _ hK hN hA hP hD hl
  have hS : va_S A s.heap s.heap [] := va_S.rf
  have hl : lv_has ls 4 [(0, .ref (a 0)), (1, .int x1), (2, .int x2)] := hl
  obtain ⟨hx, hb, hml, hown, hts⟩ := id X
  have hin2 : ∀ w ∈ wsX20, w ∈ wsX2_pass := by decide +kernel
  refine lv_aload_n hx hb dX2_pass_0 rfl (lv_at hl 0 rfl) ?_
  refine va_get (D := G) (ci := 2) (v := .ref (a 1)) (C := RX2) (T := TX2) (N := 18) hx hb hts hin2 hown hK hP 0 rfl rfl 1 (by decide) (hts (.fieldLink RX2 7 "SignalBoxModel" "kinds" "[I") (by decide +kernel)) (fun _ h9 => h9) rfl dX2_pass_1 ?_
  refine lv_iload_n hx hb dX2_pass_4 rfl (lv_at hl 1 rfl) ?_
  obtain ⟨h1, hF⟩ := o_n hF
  refine va_iald (n := 640) (f := (z0.1 1)) (cA := cy) hx hb hK hP 1 0 rfl rfl h1 dX2_pass_5 ?_
  obtain ⟨v1, e1, hF⟩ := o_l hF
  refine w_top e1 ?_
  refine lv_if_ne (tgt := 18) hx hb dX2_pass_6 (by decide) (fun c2 => ?_) (fun c2 => ?_)
  · have hF := o_f c2 hF
    refine lv_aload_n hx hb dX2_pass_18 rfl (lv_at hl 0 rfl) ?_
    refine va_get (D := G) (ci := 2) (v := .ref (a 1)) (C := RX2) (T := TX2) (N := 18) hx hb hts hin2 hown hK hP 0 rfl rfl 1 (by decide) (hts (.fieldLink RX2 7 "SignalBoxModel" "kinds" "[I") (by decide +kernel)) (fun _ h9 => h9) rfl dX2_pass_19 ?_
    refine lv_iload_n hx hb dX2_pass_22 rfl (lv_at hl 1 rfl) ?_
    obtain ⟨h3, hF⟩ := o_n hF
    refine va_iald (n := 640) (f := (z0.1 1)) (cA := cy) hx hb hK hP 1 0 rfl rfl h3 dX2_pass_23 ?_
    obtain ⟨v3, e3, hF⟩ := o_l hF
    refine w_top e3 ?_
    refine lv_iconst (v := 1) hx hb dX2_pass_24 (by decide) ?_
    refine lv_icmp_ne (tgt := 37) hx hb dX2_pass_25 (by decide) (fun c4 => ?_) (fun c4 => ?_)
    · have hF := o_f c4 hF
      refine lv_aload_n hx hb dX2_pass_37 rfl (lv_at hl 0 rfl) ?_
      refine lv_iload_n hx hb dX2_pass_38 rfl (lv_at hl 1 rfl) ?_
      refine lv_iload_n hx hb dX2_pass_39 rfl (lv_at hl 2 rfl) ?_
      obtain ⟨r5, z5, hG5, hF⟩ := o_b hF
      refine cl_V (C := RX2) (rest := []) X hK hN hA hP hD hS (kX2_passBridge l G cy cyO a z0 x1 x2 r5 z5 hG5) (cwV 2 hts gX2_pass_X2_passBridge rfl rfl rfl (by decide +kernel) ⟨Nat.le_of_ble_eq_true rfl, Nat.le_of_ble_eq_true rfl⟩) (va_recv hK hP (ci := 2) (q0 := 0) rfl rfl) rfl hl.1 rfl (Nat.le_of_ble_eq_true rfl) dX2_pass_40 ⟨Nat.zero_le _, Nat.zero_le _⟩ (fun H locs hP hD hS => ?_)
      refine W.eq (g2 := F0 m 43 ls [.int r5]) rfl ?_
      exact jX2_pass_43 X hr hlocks hK hN hA z5 r5 hF H locs hP hD hS ls (lv_sub hl [0] rfl)
    · have hF := o_t c4 hF
      refine lv_aload_n hx hb dX2_pass_28 rfl (lv_at hl 0 rfl) ?_
      refine lv_iload_n hx hb dX2_pass_29 rfl (lv_at hl 1 rfl) ?_
      refine lv_iload_n hx hb dX2_pass_30 rfl (lv_at hl 2 rfl) ?_
      obtain ⟨r6, z6, hG6, hF⟩ := o_b hF
      refine cl_V (C := RX2) (rest := []) X hK hN hA hP hD hS (kX2_passPoints l G cy cyO a z0 x1 x2 r6 z6 hG6) (cwV 2 hts gX2_pass_X2_passPoints rfl rfl rfl (by decide +kernel) ⟨Nat.le_of_ble_eq_true rfl, Nat.le_of_ble_eq_true rfl⟩) (va_recv hK hP (ci := 2) (q0 := 0) rfl rfl) rfl hl.1 rfl (Nat.le_of_ble_eq_true rfl) dX2_pass_31 ⟨Nat.zero_le _, Nat.zero_le _⟩ (fun H locs hP hD hS => ?_)
      refine W.eq (g2 := F0 m 34 ls [.int r6]) rfl ?_
      refine lv_goto (tgt := 43) hx hb dX2_pass_34 (by decide) ?_
      exact jX2_pass_43 X hr hlocks hK hN hA z6 r6 hF H locs hP hD hS ls (lv_sub hl [0] rfl)
  · have hF := o_t c2 hF
    refine lv_aload_n hx hb dX2_pass_9 rfl (lv_at hl 0 rfl) ?_
    refine lv_iload_n hx hb dX2_pass_10 rfl (lv_at hl 1 rfl) ?_
    refine lv_iload_n hx hb dX2_pass_11 rfl (lv_at hl 2 rfl) ?_
    obtain ⟨r7, z7, hG7, hF⟩ := o_b hF
    refine cl_V (C := RX2) (rest := []) X hK hN hA hP hD hS (kX2_passPlain l G cy cyO a z0 x1 x2 r7 z7 hG7) (cwV 2 hts gX2_pass_X2_passPlain rfl rfl rfl (by decide +kernel) ⟨Nat.le_of_ble_eq_true rfl, Nat.le_of_ble_eq_true rfl⟩) (va_recv hK hP (ci := 2) (q0 := 0) rfl rfl) rfl hl.1 rfl (Nat.le_of_ble_eq_true rfl) dX2_pass_12 ⟨Nat.zero_le _, Nat.zero_le _⟩ (fun H locs hP hD hS => ?_)
    refine W.eq (g2 := F0 m 15 ls [.int r7]) rfl ?_
    refine lv_goto (tgt := 43) hx hb dX2_pass_15 (by decide) ?_
    exact jX2_pass_43 X hr hlocks hK hN hA z7 r7 hF H locs hP hD hS ls (lv_sub hl [0] rfl)
def fX2_sectionOf (z0 : SM) (x1 : Int32) (x2 : Int32) : Option (Int32 × SM) := if ((8 * x1) + x2) < 0 ∨ 48 ≤ ((8 * x1) + x2).toNatClampNeg then none else let_ (z0.2.2.1 ((8 * x1) + x2).toNatClampNeg) (fun v1 => if v1 < 0 ∨ 12 ≤ v1.toNatClampNeg then none else let_ (z0.2.1 v1.toNatClampNeg) (fun v2 => some (v2, z0)))
set_option maxRecDepth 100000 in
set_option maxHeartbeats 4000000 in
theorem kX2_sectionOf (l : Launch) (G : va_G) (cy cyO : ClassId) (a : Nat → Nat) (z0 : SM) (x1 : Int32) (x2 : Int32) (r : Int32) (u : SM) (hF : fX2_sectionOf z0 x1 x2 = some (r, u)) : Ct l G (tys_ cy cyO) yX2_sectionOf wsX2_sectionOf ({ frames := 0, cells := 0, slots := 0, locals := 0 } : Room) [.ref (a 0), .int x1, .int x2] (mW a cy z0) (some (.int r)) (mW a cy u) := by
  unfold fX2_sectionOf at hF
  refine ct_of (cc := cX2_sectionOf) (maxL := 3) (ret := (some .int)) (own := RX2) (by decide) rfl (Nat.le_of_ble_eq_true rfl) rfl ?_
  intro p e s m below meth c A ls X hr hlocks _ hK hN hA hP hD hl
  have hS : va_S A s.heap s.heap [] := va_S.rf
  have hl : lv_has ls 3 [(0, .ref (a 0)), (1, .int x1), (2, .int x2)] := hl
  obtain ⟨hx, hb, hml, hown, hts⟩ := id X
  have hin2 : ∀ w ∈ wsX20, w ∈ wsX2_sectionOf := by decide +kernel
  refine lv_aload_n hx hb dX2_sectionOf_0 rfl (lv_at hl 0 rfl) ?_
  refine va_get (D := G) (ci := 2) (v := .ref (a 9)) (C := RX2) (T := TX2) (N := 18) hx hb hts hin2 hown hK hP 0 rfl rfl 9 (by decide) (hts (.fieldLink RX2 34 "SignalBoxModel" "at" "[I") (by decide +kernel)) (fun _ h9 => h9) rfl dX2_sectionOf_1 ?_
  refine lv_aload_n hx hb dX2_sectionOf_4 rfl (lv_at hl 0 rfl) ?_
  refine va_get (D := G) (ci := 2) (v := .ref (a 10)) (C := RX2) (T := TX2) (N := 18) hx hb hts hin2 hown hK hP 0 rfl rfl 10 (by decide) (hts (.fieldLink RX2 37 "SignalBoxModel" "routes" "[I") (by decide +kernel)) (fun _ h9 => h9) rfl dX2_sectionOf_5 ?_
  refine lv_bipush (v := 8) hx hb dX2_sectionOf_8 (by decide) ?_
  refine lv_iload_n hx hb dX2_sectionOf_10 rfl (lv_at hl 1 rfl) ?_
  refine lv_imul hx hb dX2_sectionOf_11 ?_
  refine lv_iload_n hx hb dX2_sectionOf_12 rfl (lv_at hl 2 rfl) ?_
  refine lv_iadd hx hb dX2_sectionOf_13 ?_
  obtain ⟨h1, hF⟩ := o_n hF
  refine va_iald (n := 48) (f := z0.2.2.1) (cA := cy) hx hb hK hP 10 0 rfl rfl h1 dX2_sectionOf_14 ?_
  obtain ⟨v1, e1, hF⟩ := o_l hF
  refine w_top e1 ?_
  obtain ⟨h2, hF⟩ := o_n hF
  refine va_iald (n := 12) (f := z0.2.1) (cA := cy) hx hb hK hP 9 0 rfl rfl h2 dX2_sectionOf_15 ?_
  obtain ⟨v2, e2, hF⟩ := o_l hF
  refine w_top e2 ?_
  obtain ⟨rfl, rfl⟩ := o_s hF
  exact rt_i X hr hlocks hP hD hS dX2_sectionOf_16
def fX2_alone_j5 : Nat → SM → Int32 → Int32 → Int32 → Int32 → Option (Int32 × SM)
  | 0, _, _, _, _, _ => none
  | n + 1, z0, y1, y2, y3, y4 => if y1 < 0 ∨ 6 ≤ y1.toNatClampNeg then none else let_ (z0.2.2.2.1 y1.toNatClampNeg) (fun v1 => (if v1 ≤ y4 then some (y3, z0) else (if y3 = 0 then bd_ (fX2_sectionOf z0 y1 y4) (fun r4 z4 => (if 0 ≤ r4 then bd_ (fX2_claim z4 r4) (fun r6 z6 => bd_ (fX2_pass z6 r4 y2) (fun r7 z7 => bd_ (fX2_ended z7 r7 y4) (fun r8 z8 => bd_ (fX2_let z8 r4) (fun r9 z9 => (fX2_alone_j5 n z9 y1 y2 r8 (y4 + 1)))))) else some ((-11), z4))) else some (y3, z0))))
set_option maxRecDepth 100000 in
set_option maxHeartbeats 4000000 in
theorem jX2_alone_5 {p : Program} {l : Launch} {e : Env} {s : State} {m : MethodId} {args : Array Value} {below : List Frame} {meth : Method} {c : Code} {G : va_G} {cy cyO : ClassId} {a : Nat → Nat} {A : Nat → Prop} {r : Int32} {u : SM} (X : CallFix p m c cX2_alone 6 s args wsX2_alone RX2) (hr : meth.sig.returnType = (some .int)) (hlocks : meth.locks = false) (hK : va_K G vwCl (tys_ cy cyO) s) (hN : nw s) (hA : ∀ q, s.heap.size ≤ q → A q) : ∀ n : Nat, ∀ (z0 : SM) (y1 : Int32) (y2 : Int32) (y3 : Int32) (y4 : Int32), fX2_alone_j5 n z0 y1 y2 y3 y4 = some (r, u) → ∀ (H : Heap) (locs : List Loc), va_P G vwCl (mW a cy z0) H → va_D A (mW a cy z0) → va_S A s.heap H locs → ∀ (ls : Array Slot), lv_has ls 6 [(0, .ref (a 0)), (1, .int y1), (2, .int y2), (3, .int y3), (4, .int y4)] → W p l e ({ frames := 6, cells := 0, slots := 0, locals := 134 } : Room) s m args below meth c H locs 0 0 (MQ below (qg (some (.int r)) (fun t => wPost G A (mW a cy u) t) A) args s 0 0 A) (F0 m 5 ls []) := by
  obtain ⟨hx, hb, hml, hown, hts⟩ := id X
  have hin2 : ∀ w ∈ wsX20, w ∈ wsX2_alone := by decide +kernel
  intro n
  induction n with
  | zero => intro z0 y1 y2 y3 y4 hF; cases hF
  | succ n ih =>
    intro z0 y1 y2 y3 y4 hF H locs hP hD hS ls hl
    rw [fX2_alone_j5] at hF
    refine lv_iload hx hb dX2_alone_5 (lv_at hl 4 rfl) ?_
    refine lv_aload_n hx hb dX2_alone_7 rfl (lv_at hl 0 rfl) ?_
    refine va_get (D := G) (ci := 2) (v := .ref (a 11)) (C := RX2) (T := TX2) (N := 18) hx hb hts hin2 hown hK hP 0 rfl rfl 11 (by decide) (hts (.fieldLink RX2 40 "SignalBoxModel" "lengths" "[I") (by decide +kernel)) (fun _ h9 => h9) rfl dX2_alone_8 ?_
    refine lv_iload_n hx hb dX2_alone_11 rfl (lv_at hl 1 rfl) ?_
    obtain ⟨h1, hF⟩ := o_n hF
    refine va_iald (n := 6) (f := z0.2.2.2.1) (cA := cy) hx hb hK hP 11 0 rfl rfl h1 dX2_alone_12 ?_
    obtain ⟨v1, e1, hF⟩ := o_l hF
    refine w_top e1 ?_
    refine lv_icmp_ge (tgt := 68) hx hb dX2_alone_13 (by decide) (fun c2 => ?_) (fun c2 => ?_)
    · have hF := o_t c2 hF
      refine lv_iload_n hx hb dX2_alone_68 rfl (lv_at hl 3 rfl) ?_
      obtain ⟨rfl, rfl⟩ := o_s hF
      exact rt_i X hr hlocks hP hD hS dX2_alone_69
    · have hF := o_f c2 hF
      refine lv_iload_n hx hb dX2_alone_16 rfl (lv_at hl 3 rfl) ?_
      refine lv_if_ne (tgt := 68) hx hb dX2_alone_17 (by decide) (fun c3 => ?_) (fun c3 => ?_)
      · have hF := o_f c3 hF
        refine lv_iload_n hx hb dX2_alone_68 rfl (lv_at hl 3 rfl) ?_
        obtain ⟨rfl, rfl⟩ := o_s hF
        exact rt_i X hr hlocks hP hD hS dX2_alone_69
      · have hF := o_t c3 hF
        refine lv_aload_n hx hb dX2_alone_20 rfl (lv_at hl 0 rfl) ?_
        refine lv_iload_n hx hb dX2_alone_21 rfl (lv_at hl 1 rfl) ?_
        refine lv_iload hx hb dX2_alone_22 (lv_at hl 4 rfl) ?_
        obtain ⟨r4, z4, hG4, hF⟩ := o_b hF
        refine cl_V (C := RX2) (rest := []) X hK hN hA hP hD hS (kX2_sectionOf l G cy cyO a z0 y1 y4 r4 z4 hG4) (cwV 2 hts gX2_alone_X2_sectionOf rfl rfl rfl (by decide +kernel) ⟨Nat.le_of_ble_eq_true rfl, Nat.le_of_ble_eq_true rfl⟩) (va_recv hK hP (ci := 2) (q0 := 0) rfl rfl) rfl hl.1 rfl (Nat.le_of_ble_eq_true rfl) dX2_alone_24 ⟨Nat.zero_le _, Nat.zero_le _⟩ (fun H locs hP hD hS => ?_)
        refine W.eq (g2 := F0 m 27 ls [.int r4]) rfl ?_
        refine lv_istore (lv' := [(5, .int r4), (0, .ref (a 0)), (1, .int y1), (2, .int y2), (3, .int y3), (4, .int y4)]) hx hb dX2_alone_27 hl (by decide) rfl (fun ls hl => ?_)
        refine lv_iload hx hb dX2_alone_29 (lv_at hl 0 rfl) ?_
        refine lv_if_ge (tgt := 37) hx hb dX2_alone_31 (by decide) (fun c5 => ?_) (fun c5 => ?_)
        · have hF := o_t c5 hF
          refine lv_aload_n hx hb dX2_alone_37 rfl (lv_at hl 1 rfl) ?_
          refine lv_iload hx hb dX2_alone_38 (lv_at hl 0 rfl) ?_
          obtain ⟨r6, z6, hG6, hF⟩ := o_b hF
          refine cl_V (C := RX2) (rest := []) X hK hN hA hP hD hS (kX2_claim l G cy cyO a z4 r4 r6 z6 hG6) (cwV 1 hts gX2_alone_X2_claim rfl rfl rfl (by decide +kernel) ⟨Nat.le_of_ble_eq_true rfl, Nat.le_of_ble_eq_true rfl⟩) (va_recv hK hP (ci := 2) (q0 := 0) rfl rfl) rfl hl.1 rfl (Nat.le_of_ble_eq_true rfl) dX2_alone_40 ⟨Nat.zero_le _, Nat.zero_le _⟩ (fun H locs hP hD hS => ?_)
          refine W.eq (g2 := F0 m 43 ls []) rfl ?_
          refine lv_aload_n hx hb dX2_alone_43 rfl (lv_at hl 1 rfl) ?_
          refine lv_iload hx hb dX2_alone_44 (lv_at hl 0 rfl) ?_
          refine lv_iload_n hx hb dX2_alone_46 rfl (lv_at hl 3 rfl) ?_
          obtain ⟨r7, z7, hG7, hF⟩ := o_b hF
          refine cl_V (C := RX2) (rest := []) X hK hN hA hP hD hS (kX2_pass l G cy cyO a z6 r4 y2 r7 z7 hG7) (cwV 2 hts gX2_alone_X2_pass rfl rfl rfl (by decide +kernel) ⟨Nat.le_of_ble_eq_true rfl, Nat.le_of_ble_eq_true rfl⟩) (va_recv hK hP (ci := 2) (q0 := 0) rfl rfl) rfl hl.1 rfl (Nat.le_of_ble_eq_true rfl) dX2_alone_47 ⟨Nat.zero_le _, Nat.zero_le _⟩ (fun H locs hP hD hS => ?_)
          refine W.eq (g2 := F0 m 50 ls [.int r7]) rfl ?_
          refine lv_iload hx hb dX2_alone_50 (lv_at hl 5 rfl) ?_
          obtain ⟨r8, z8, hG8, hF⟩ := o_b hF
          refine cl_S (rest := []) X hK hN hA hP hD hS (kX2_ended l G cy cyO a z7 r7 y4 r8 z8 hG8) (va_cwS 2 hts gX2_alone_X2_ended rfl rfl rfl (by decide +kernel) ⟨Nat.le_of_ble_eq_true rfl, Nat.le_of_ble_eq_true rfl⟩) rfl hl.1 rfl (Nat.le_of_ble_eq_true rfl) dX2_alone_52 ⟨Nat.zero_le _, Nat.zero_le _⟩ (fun H locs hP hD hS => ?_)
          refine W.eq (g2 := F0 m 55 ls [.int r8]) rfl ?_
          refine lv_istore_n (lv' := [(3, .int r8), (5, .int r4), (0, .ref (a 0)), (1, .int y1), (2, .int y2), (4, .int y4)]) hx hb dX2_alone_55 rfl hl (by decide) rfl (fun ls hl => ?_)
          refine lv_aload_n hx hb dX2_alone_56 rfl (lv_at hl 2 rfl) ?_
          refine lv_iload hx hb dX2_alone_57 (lv_at hl 1 rfl) ?_
          obtain ⟨r9, z9, hG9, hF⟩ := o_b hF
          refine cl_V (C := RX2) (rest := []) X hK hN hA hP hD hS (kX2_let l G cy cyO a z8 r4 r9 z9 hG9) (cwV 1 hts gX2_alone_X2_let rfl rfl rfl (by decide +kernel) ⟨Nat.le_of_ble_eq_true rfl, Nat.le_of_ble_eq_true rfl⟩) (va_recv hK hP (ci := 2) (q0 := 0) rfl rfl) rfl hl.1 rfl (Nat.le_of_ble_eq_true rfl) dX2_alone_59 ⟨Nat.zero_le _, Nat.zero_le _⟩ (fun H locs hP hD hS => ?_)
          refine W.eq (g2 := F0 m 62 ls []) rfl ?_
          refine lv_iinc (v := y4 + 1) (lv' := [(4, .int (y4 + 1)), (3, .int r8), (5, .int r4), (0, .ref (a 0)), (1, .int y1), (2, .int y2)]) hx hb dX2_alone_62 hl (k := 5) rfl rfl (by decide) rfl (fun ls hl => ?_)
          refine lv_goto (tgt := 5) hx hb dX2_alone_65 (by decide) ?_
          exact ih z9 y1 y2 r8 (y4 + 1) hF H locs hP hD hS ls (lv_sub hl [3, 4, 5, 1, 0] rfl)
        · have hF := o_f c5 hF
          refine lv_bipush (v := (-11)) hx hb dX2_alone_34 (by decide) ?_
          obtain ⟨rfl, rfl⟩ := o_s hF
          exact rt_i X hr hlocks hP hD hS dX2_alone_36
def fX2_alone (z0 : SM) (x1 : Int32) (x2 : Int32) : Option (Int32 × SM) := (fX2_alone_j5 20 z0 x1 x2 0 0)
set_option maxRecDepth 100000 in
set_option maxHeartbeats 4000000 in
theorem kX2_alone (l : Launch) (G : va_G) (cy cyO : ClassId) (a : Nat → Nat) (z0 : SM) (x1 : Int32) (x2 : Int32) (r : Int32) (u : SM) (hF : fX2_alone z0 x1 x2 = some (r, u)) : Ct l G (tys_ cy cyO) yX2_alone wsX2_alone ({ frames := 6, cells := 0, slots := 0, locals := 134 } : Room) [.ref (a 0), .int x1, .int x2] (mW a cy z0) (some (.int r)) (mW a cy u) := by
  unfold fX2_alone at hF
  refine ct_of (cc := cX2_alone) (maxL := 6) (ret := (some .int)) (own := RX2) (by decide) rfl (Nat.le_of_ble_eq_true rfl) rfl ?_
  intro p e s m below meth c A ls X hr hlocks _ hK hN hA hP hD hl
  have hS : va_S A s.heap s.heap [] := va_S.rf
  have hl : lv_has ls 6 [(0, .ref (a 0)), (1, .int x1), (2, .int x2)] := hl
  obtain ⟨hx, hb, hml, hown, hts⟩ := id X
  have hin2 : ∀ w ∈ wsX20, w ∈ wsX2_alone := by decide +kernel
  refine lv_iconst (v := 0) hx hb dX2_alone_0 (by decide) ?_
  refine lv_istore_n (lv' := [(3, .int 0), (0, .ref (a 0)), (1, .int x1), (2, .int x2)]) hx hb dX2_alone_1 rfl hl (by decide) rfl (fun ls hl => ?_)
  refine lv_iconst (v := 0) hx hb dX2_alone_2 (by decide) ?_
  refine lv_istore (lv' := [(4, .int 0), (3, .int 0), (0, .ref (a 0)), (1, .int x1), (2, .int x2)]) hx hb dX2_alone_3 hl (by decide) rfl (fun ls hl => ?_)
  exact jX2_alone_5 X hr hlocks hK hN hA 20 z0 x1 x2 0 0 hF s.heap [] hP hD hS ls (lv_sub hl [2, 3, 4, 1, 0] rfl)
def fX2_round_j5 : Nat → SM → Int32 → Int32 → Int32 → Int32 → Option (Int32 × SM)
  | 0, _, _, _, _, _ => none
  | n + 1, z0, y1, y2, y3, y4 => (if 10 ≤ y4 then some (y3, z0) else (if y3 = 0 then bd_ (fX2_alone z0 y1 y2) (fun r3 z3 => (fX2_round_j5 n z3 y1 y2 r3 (y4 + 1))) else some (y3, z0)))
set_option maxRecDepth 100000 in
set_option maxHeartbeats 4000000 in
theorem jX2_round_5 {p : Program} {l : Launch} {e : Env} {s : State} {m : MethodId} {args : Array Value} {below : List Frame} {meth : Method} {c : Code} {G : va_G} {cy cyO : ClassId} {a : Nat → Nat} {A : Nat → Prop} {r : Int32} {u : SM} (X : CallFix p m c cX2_round 5 s args wsX2_round RX2) (hr : meth.sig.returnType = (some .int)) (hlocks : meth.locks = false) (hK : va_K G vwCl (tys_ cy cyO) s) (hN : nw s) (hA : ∀ q, s.heap.size ≤ q → A q) : ∀ n : Nat, ∀ (z0 : SM) (y1 : Int32) (y2 : Int32) (y3 : Int32) (y4 : Int32), fX2_round_j5 n z0 y1 y2 y3 y4 = some (r, u) → ∀ (H : Heap) (locs : List Loc), va_P G vwCl (mW a cy z0) H → va_D A (mW a cy z0) → va_S A s.heap H locs → ∀ (ls : Array Slot), lv_has ls 5 [(0, .ref (a 0)), (1, .int y1), (2, .int y2), (3, .int y3), (4, .int y4)] → W p l e ({ frames := 7, cells := 0, slots := 0, locals := 159 } : Room) s m args below meth c H locs 0 0 (MQ below (qg (some (.int r)) (fun t => wPost G A (mW a cy u) t) A) args s 0 0 A) (F0 m 5 ls []) := by
  obtain ⟨hx, hb, hml, hown, hts⟩ := id X
  intro n
  induction n with
  | zero => intro z0 y1 y2 y3 y4 hF; cases hF
  | succ n ih =>
    intro z0 y1 y2 y3 y4 hF H locs hP hD hS ls hl
    rw [fX2_round_j5] at hF
    refine lv_iload hx hb dX2_round_5 (lv_at hl 4 rfl) ?_
    refine lv_bipush (v := 10) hx hb dX2_round_7 (by decide) ?_
    refine lv_icmp_ge (tgt := 29) hx hb dX2_round_9 (by decide) (fun c1 => ?_) (fun c1 => ?_)
    · have hF := o_t c1 hF
      refine lv_iload_n hx hb dX2_round_29 rfl (lv_at hl 3 rfl) ?_
      obtain ⟨rfl, rfl⟩ := o_s hF
      exact rt_i X hr hlocks hP hD hS dX2_round_30
    · have hF := o_f c1 hF
      refine lv_iload_n hx hb dX2_round_12 rfl (lv_at hl 3 rfl) ?_
      refine lv_if_ne (tgt := 29) hx hb dX2_round_13 (by decide) (fun c2 => ?_) (fun c2 => ?_)
      · have hF := o_f c2 hF
        refine lv_iload_n hx hb dX2_round_29 rfl (lv_at hl 3 rfl) ?_
        obtain ⟨rfl, rfl⟩ := o_s hF
        exact rt_i X hr hlocks hP hD hS dX2_round_30
      · have hF := o_t c2 hF
        refine lv_aload_n hx hb dX2_round_16 rfl (lv_at hl 0 rfl) ?_
        refine lv_iload_n hx hb dX2_round_17 rfl (lv_at hl 1 rfl) ?_
        refine lv_iload_n hx hb dX2_round_18 rfl (lv_at hl 2 rfl) ?_
        obtain ⟨r3, z3, hG3, hF⟩ := o_b hF
        refine cl_V (C := RX2) (rest := []) X hK hN hA hP hD hS (kX2_alone l G cy cyO a z0 y1 y2 r3 z3 hG3) (cwV 2 hts gX2_round_X2_alone rfl rfl rfl (by decide +kernel) ⟨Nat.le_of_ble_eq_true rfl, Nat.le_of_ble_eq_true rfl⟩) (va_recv hK hP (ci := 2) (q0 := 0) rfl rfl) rfl hl.1 rfl (Nat.le_of_ble_eq_true rfl) dX2_round_19 ⟨Nat.zero_le _, Nat.zero_le _⟩ (fun H locs hP hD hS => ?_)
        refine W.eq (g2 := F0 m 22 ls [.int r3]) rfl ?_
        refine lv_istore_n (lv' := [(3, .int r3), (0, .ref (a 0)), (1, .int y1), (2, .int y2), (4, .int y4)]) hx hb dX2_round_22 rfl hl (by decide) rfl (fun ls hl => ?_)
        refine lv_iinc (v := y4 + 1) (lv' := [(4, .int (y4 + 1)), (3, .int r3), (0, .ref (a 0)), (1, .int y1), (2, .int y2)]) hx hb dX2_round_23 hl (k := 4) rfl rfl (by decide) rfl (fun ls hl => ?_)
        refine lv_goto (tgt := 5) hx hb dX2_round_26 (by decide) ?_
        exact ih z3 y1 y2 r3 (y4 + 1) hF H locs hP hD hS ls (lv_sub hl [2, 3, 4, 1, 0] rfl)
def fX2_round (z0 : SM) (x1 : Int32) (x2 : Int32) : Option (Int32 × SM) := (fX2_round_j5 20 z0 x1 x2 0 0)
set_option maxRecDepth 100000 in
set_option maxHeartbeats 4000000 in
theorem kX2_round (l : Launch) (G : va_G) (cy cyO : ClassId) (a : Nat → Nat) (z0 : SM) (x1 : Int32) (x2 : Int32) (r : Int32) (u : SM) (hF : fX2_round z0 x1 x2 = some (r, u)) : Ct l G (tys_ cy cyO) yX2_round wsX2_round ({ frames := 7, cells := 0, slots := 0, locals := 159 } : Room) [.ref (a 0), .int x1, .int x2] (mW a cy z0) (some (.int r)) (mW a cy u) := by
  unfold fX2_round at hF
  refine ct_of (cc := cX2_round) (maxL := 5) (ret := (some .int)) (own := RX2) (by decide) rfl (Nat.le_of_ble_eq_true rfl) rfl ?_
  intro p e s m below meth c A ls X hr hlocks _ hK hN hA hP hD hl
  have hS : va_S A s.heap s.heap [] := va_S.rf
  have hl : lv_has ls 5 [(0, .ref (a 0)), (1, .int x1), (2, .int x2)] := hl
  obtain ⟨hx, hb, hml, hown, hts⟩ := id X
  refine lv_iconst (v := 0) hx hb dX2_round_0 (by decide) ?_
  refine lv_istore_n (lv' := [(3, .int 0), (0, .ref (a 0)), (1, .int x1), (2, .int x2)]) hx hb dX2_round_1 rfl hl (by decide) rfl (fun ls hl => ?_)
  refine lv_iconst (v := 0) hx hb dX2_round_2 (by decide) ?_
  refine lv_istore (lv' := [(4, .int 0), (3, .int 0), (0, .ref (a 0)), (1, .int x1), (2, .int x2)]) hx hb dX2_round_3 hl (by decide) rfl (fun ls hl => ?_)
  exact jX2_round_5 X hr hlocks hK hN hA 20 z0 x1 x2 0 0 hF s.heap [] hP hD hS ls (lv_sub hl [2, 3, 4, 1, 0] rfl)
