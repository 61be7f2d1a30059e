def fX1_share (z0 : SC) (x1 : Int32) (x2 : Int32) : Option (Int32 × SC) := bd_ (fX1_isPlace z0 x1) (fun r1 z1 => (if r1 = 0 then some ((-1), z1) else bd_ (fX1_isPlace z1 x2) (fun r3 z3 => (if r3 = 0 then some ((-1), z3) else if x1 < 0 ∨ 12 ≤ x1.toNatClampNeg then none else (opt_ (z3.2.2.1 x1.toNatClampNeg) (if x2 < 0 ∨ 12 ≤ x2.toNatClampNeg then none else let_ ((z3.1, z3.2.1, (va_up z3.2.2.1 x2.toNatClampNeg none), z3.2.2.2) : SC) (fun z7 => if x2 < 0 ∨ 12 ≤ x2.toNatClampNeg then none else (opt_ (z7.2.2.1 x2.toNatClampNeg) (some (0, z7)) (fun b8 => some (1, z7))))) (fun b5 => if x2 < 0 ∨ 12 ≤ x2.toNatClampNeg then none else if b5 ∈ z3.2.1 then let_ ((z3.1, z3.2.1, (va_up z3.2.2.1 x2.toNatClampNeg (some b5)), z3.2.2.2) : SC) (fun z11 => if x2 < 0 ∨ 12 ≤ x2.toNatClampNeg then none else (opt_ (z11.2.2.1 x2.toNatClampNeg) (some (0, z11)) (fun b12 => some (1, z11)))) else none))))))
set_option maxRecDepth 100000 in
set_option maxHeartbeats 4000000 in
theorem kX1_share (l : Launch) (G : va_G) (cy cyO : ClassId) (a : Nat → Nat) (z0 : SC) (x1 : Int32) (x2 : Int32) (r : Int32) (u : SC) (hF : fX1_share z0 x1 x2 = some (r, u)) : Ct l G (tys_ cy cyO) yX1_share wsX1_share ({ frames := 1, cells := 0, slots := 0, locals := 20 } : Room) [.ref (a 0), .int x1, .int x2] (cW a cy cyO z0) (some (.int r)) (cW a cy cyO u) := by
  unfold fX1_share at hF
  refine ct_of (cc := cX1_share) (maxL := 3) (ret := (some .int)) (own := RX1) (by decide) rfl (Nat.le_of_ble_eq_true rfl) rfl ?_
  intro p e s m below meth c A ls X hr hlocks _ hK hN hA hP hD hl
  have hS : va_S A s.heap s.heap [] := va_S.rf
  have hl : lv_has ls 3 [(0, .ref (a 0)), (1, .int x1), (2, .int x2)] := hl
  obtain ⟨hx, hb, hml, hown, hts⟩ := id X
  have hin1 : ∀ w ∈ wsX10, w ∈ wsX1_share := by decide +kernel
  refine lv_iload_n hx hb dX1_share_0 rfl (lv_at hl 1 rfl) ?_
  obtain ⟨r1, z1, hG1, hF⟩ := o_b hF
  refine cl_S (rest := []) X hK hN hA hP hD hS (kX1_isPlace l G cy cyO a z0 x1 r1 z1 hG1) (va_cwS 1 hts gX1_share_X1_isPlace rfl rfl rfl (by decide +kernel) ⟨Nat.le_of_ble_eq_true rfl, Nat.le_of_ble_eq_true rfl⟩) rfl hl.1 rfl (Nat.le_of_ble_eq_true rfl) dX1_share_1 ⟨Nat.zero_le _, Nat.zero_le _⟩ (fun H locs hP hD hS => ?_)
  refine W.eq (g2 := F0 m 4 ls [.int r1]) rfl ?_
  refine lv_if_eq (tgt := 14) hx hb dX1_share_4 (by decide) (fun c2 => ?_) (fun c2 => ?_)
  · have hF := o_t c2 hF
    refine lv_iconst (v := (-1)) hx hb dX1_share_14 (by decide) ?_
    obtain ⟨rfl, rfl⟩ := o_s hF
    exact rt_i X hr hlocks hP hD hS dX1_share_15
  · have hF := o_f c2 hF
    refine lv_iload_n hx hb dX1_share_7 rfl (lv_at hl 2 rfl) ?_
    obtain ⟨r3, z3, hG3, hF⟩ := o_b hF
    refine cl_S (rest := []) X hK hN hA hP hD hS (kX1_isPlace l G cy cyO a z1 x2 r3 z3 hG3) (va_cwS 1 hts gX1_share_X1_isPlace rfl rfl rfl (by decide +kernel) ⟨Nat.le_of_ble_eq_true rfl, Nat.le_of_ble_eq_true rfl⟩) rfl hl.1 rfl (Nat.le_of_ble_eq_true rfl) dX1_share_8 ⟨Nat.zero_le _, Nat.zero_le _⟩ (fun H locs hP hD hS => ?_)
    refine W.eq (g2 := F0 m 11 ls [.int r3]) rfl ?_
    refine lv_if_ne (tgt := 16) hx hb dX1_share_11 (by decide) (fun c4 => ?_) (fun c4 => ?_)
    · have hF := o_f c4 hF
      refine lv_aload_n hx hb dX1_share_16 rfl (lv_at hl 0 rfl) ?_
      refine va_get (D := G) (ci := 1) (v := .ref (a 1)) (C := RX1) (T := TX1) (N := 10) hx hb hts hin1 hown hK hP 0 rfl rfl 0 (by decide) (hts (.fieldLink RX1 11 "SignalBox" "standing" "[LSignalBox$Section;") (by decide +kernel)) (fun _ h9 => h9) rfl dX1_share_17 ?_
      refine lv_iload_n hx hb dX1_share_20 rfl (lv_at hl 2 rfl) ?_
      refine lv_aload_n hx hb dX1_share_21 rfl (lv_at hl 0 rfl) ?_
      refine va_get (D := G) (ci := 1) (v := .ref (a 1)) (C := RX1) (T := TX1) (N := 10) hx hb hts hin1 hown hK hP 0 rfl rfl 0 (by decide) (hts (.fieldLink RX1 11 "SignalBox" "standing" "[LSignalBox$Section;") (by decide +kernel)) (fun _ h9 => h9) rfl dX1_share_22 ?_
      refine lv_iload_n hx hb dX1_share_25 rfl (lv_at hl 1 rfl) ?_
      obtain ⟨h5, hF⟩ := o_n hF
      refine va_aldq (n := 12) (f := z3.2.2.1) (cA := cyO) (C := RX0) hx hb hK hP 1 1 rfl rfl h5 dX1_share_26 ?_
      rcases ho5 : z3.2.2.1 x1.toNatClampNeg with _ | b5
      · have hF := o_mn ho5 hF
        refine w_none rfl ?_
        obtain ⟨h6, hF⟩ := o_n hF
        refine va_astqN (n := 12) (f := z3.2.2.1) (cA := cyO) (C := RX0) hx hb hK hP hD hS 1 1 rfl rfl h6 dX1_share_27 (fun H locs hP hD hS => ?_)
        obtain ⟨z7, e7, hF⟩ := o_l hF
        have hP : va_P G vwCl (cW a cy cyO z7) H := by rw [e7]; exact hP
        have hD : va_D A (cW a cy cyO z7) := by rw [e7]; exact hD
        refine lv_aload_n hx hb dX1_share_28 rfl (lv_at hl 0 rfl) ?_
        refine va_get (D := G) (ci := 1) (v := .ref (a 1)) (C := RX1) (T := TX1) (N := 10) hx hb hts hin1 hown hK hP 0 rfl rfl 0 (by decide) (hts (.fieldLink RX1 11 "SignalBox" "standing" "[LSignalBox$Section;") (by decide +kernel)) (fun _ h9 => h9) rfl dX1_share_29 ?_
        refine lv_iload_n hx hb dX1_share_32 rfl (lv_at hl 2 rfl) ?_
        obtain ⟨h8, hF⟩ := o_n hF
        refine va_aldq (n := 12) (f := z7.2.2.1) (cA := cyO) (C := RX0) hx hb hK hP 1 1 rfl rfl h8 dX1_share_33 ?_
        rcases ho8 : z7.2.2.1 x2.toNatClampNeg with _ | b8
        · have hF := o_mn ho8 hF
          refine w_none rfl ?_
          refine lv_ifnullN (tgt := 41) hx hb dX1_share_34 (by decide) ?_
          refine lv_iconst (v := 0) hx hb dX1_share_41 (by decide) ?_
          obtain ⟨rfl, rfl⟩ := o_s hF
          exact rt_i X hr hlocks hP hD hS dX1_share_42
        · have hF := o_ms ho8 hF
          refine w_some rfl ?_
          refine lv_ifnull hx hb dX1_share_34 ?_
          refine lv_iconst (v := 1) hx hb dX1_share_37 (by decide) ?_
          refine lv_goto (tgt := 42) hx hb dX1_share_38 (by decide) ?_
          obtain ⟨rfl, rfl⟩ := o_s hF
          exact rt_i X hr hlocks hP hD hS dX1_share_42
      · have hF := o_ms ho5 hF
        refine w_some rfl ?_
        obtain ⟨h9, hF⟩ := o_n hF
        obtain ⟨h10, hF⟩ := o_i hF
        obtain ⟨q10, hq10⟩ := cW_at (a := a) (cy := cy) (cyO := cyO) h10
        refine va_astq (r := (RX0, TX0, 9)) (n := 12) (f := z3.2.2.1) (cA := cyO) hx hb hK hP hD hS 1 1 q10 0 rfl rfl hq10 rfl h9 dX1_share_27 (fun H locs hP hD hS => ?_)
        obtain ⟨z11, e11, hF⟩ := o_l hF
        have hP : va_P G vwCl (cW a cy cyO z11) H := by rw [e11]; exact hP
        have hD : va_D A (cW a cy cyO z11) := by rw [e11]; exact hD
        refine lv_aload_n hx hb dX1_share_28 rfl (lv_at hl 0 rfl) ?_
        refine va_get (D := G) (ci := 1) (v := .ref (a 1)) (C := RX1) (T := TX1) (N := 10) hx hb hts hin1 hown hK hP 0 rfl rfl 0 (by decide) (hts (.fieldLink RX1 11 "SignalBox" "standing" "[LSignalBox$Section;") (by decide +kernel)) (fun _ h9 => h9) rfl dX1_share_29 ?_
        refine lv_iload_n hx hb dX1_share_32 rfl (lv_at hl 2 rfl) ?_
        obtain ⟨h12, hF⟩ := o_n hF
        refine va_aldq (n := 12) (f := z11.2.2.1) (cA := cyO) (C := RX0) hx hb hK hP 1 1 rfl rfl h12 dX1_share_33 ?_
        rcases ho12 : z11.2.2.1 x2.toNatClampNeg with _ | b12
        · have hF := o_mn ho12 hF
          refine w_none rfl ?_
          refine lv_ifnullN (tgt := 41) hx hb dX1_share_34 (by decide) ?_
          refine lv_iconst (v := 0) hx hb dX1_share_41 (by decide) ?_
          obtain ⟨rfl, rfl⟩ := o_s hF
          exact rt_i X hr hlocks hP hD hS dX1_share_42
        · have hF := o_ms ho12 hF
          refine w_some rfl ?_
          refine lv_ifnull hx hb dX1_share_34 ?_
          refine lv_iconst (v := 1) hx hb dX1_share_37 (by decide) ?_
          refine lv_goto (tgt := 42) hx hb dX1_share_38 (by decide) ?_
          obtain ⟨rfl, rfl⟩ := o_s hF
          exact rt_i X hr hlocks hP hD hS dX1_share_42
    · have hF := o_t c4 hF
      refine lv_iconst (v := (-1)) hx hb dX1_share_14 (by decide) ?_
      obtain ⟨rfl, rfl⟩ := o_s hF
      exact rt_i X hr hlocks hP hD hS dX1_share_15
def fX1_remove_j23 (z0 : SC) (y1 : Int32) (t0 : Int32) : Option (Int32 × SC) := if y1 < 0 ∨ 12 ≤ y1.toNatClampNeg then none else let_ ((z0.1, z0.2.1, (va_up z0.2.2.1 y1.toNatClampNeg none), z0.2.2.2) : SC) (fun z2 => some (t0, z2))
set_option maxRecDepth 100000 in
set_option maxHeartbeats 4000000 in
theorem jX1_remove_23 {p : Program} {l : Launch} {e : Env} {s : State} {m : MethodId} {args : Array Value} {below : List Frame} {meth : Method} {c : Code} {G : va_G} {cy cyO : ClassId} {a : Nat → Nat} {A : Nat → Prop} {r : Int32} {u : SC} (X : CallFix p m c cX1_remove 3 s args wsX1_remove RX1) (hr : meth.sig.returnType = (some .int)) (hlocks : meth.locks = false) (hK : va_K G vwCl (tys_ cy cyO) s) (hN : nw s) (hA : ∀ q, s.heap.size ≤ q → A q) : ∀ (z0 : SC) (y1 : Int32) (t0 : Int32), fX1_remove_j23 z0 y1 t0 = some (r, u) → ∀ (H : Heap) (locs : List Loc), va_P G vwCl (cW a cy cyO z0) H → va_D A (cW a cy cyO z0) → va_S A s.heap H locs → ∀ (ls : Array Slot), lv_has ls 3 [(0, .ref (a 0)), (1, .int y1)] → W p l e ({ frames := 1, cells := 0, slots := 0, locals := 20 } : Room) s m args below meth c H locs 0 0 (MQ below (qg (some (.int r)) (fun t => wPost G A (cW a cy cyO u) t) A) args s 0 0 A) (F0 m 23 ls [.int t0]) := by
  obtain ⟨hx, hb, hml, hown, hts⟩ := id X
  have hin1 : ∀ w ∈ wsX10, w ∈ wsX1_remove := by decide +kernel
  intro z0 y1 t0 hF H locs hP hD hS ls hl
  unfold fX1_remove_j23 at hF
  refine lv_istore_n (lv' := [(2, .int t0), (0, .ref (a 0)), (1, .int y1)]) hx hb dX1_remove_23 rfl hl (by decide) rfl (fun ls hl => ?_)
  refine lv_aload_n hx hb dX1_remove_24 rfl (lv_at hl 1 rfl) ?_
  refine va_get (D := G) (ci := 1) (v := .ref (a 1)) (C := RX1) (T := TX1) (N := 10) hx hb hts hin1 hown hK hP 0 rfl rfl 0 (by decide) (hts (.fieldLink RX1 11 "SignalBox" "standing" "[LSignalBox$Section;") (by decide +kernel)) (fun _ h9 => h9) rfl dX1_remove_25 ?_
  refine lv_iload_n hx hb dX1_remove_28 rfl (lv_at hl 2 rfl) ?_
  refine lv_null hx hb dX1_remove_29 ?_
  obtain ⟨h1, hF⟩ := o_n hF
  refine va_astqN (n := 12) (f := z0.2.2.1) (cA := cyO) (C := RX0) hx hb hK hP hD hS 1 1 rfl rfl h1 dX1_remove_30 (fun H locs hP hD hS => ?_)
  obtain ⟨z2, e2, hF⟩ := o_l hF
  have hP : va_P G vwCl (cW a cy cyO z2) H := by rw [e2]; exact hP
  have hD : va_D A (cW a cy cyO z2) := by rw [e2]; exact hD
  refine lv_iload_n hx hb dX1_remove_31 rfl (lv_at hl 0 rfl) ?_
  obtain ⟨rfl, rfl⟩ := o_s hF
  exact rt_i X hr hlocks hP hD hS dX1_remove_32
def fX1_remove (z0 : SC) (x1 : Int32) : Option (Int32 × SC) := bd_ (fX1_isPlace z0 x1) (fun r1 z1 => (if r1 = 0 then some ((-1), z1) else if x1 < 0 ∨ 12 ≤ x1.toNatClampNeg then none else (opt_ (z1.2.2.1 x1.toNatClampNeg) ((fX1_remove_j23 z1 x1 0)) (fun b3 => (fX1_remove_j23 z1 x1 1)))))
set_option maxRecDepth 100000 in
set_option maxHeartbeats 4000000 in
theorem kX1_remove (l : Launch) (G : va_G) (cy cyO : ClassId) (a : Nat → Nat) (z0 : SC) (x1 : Int32) (r : Int32) (u : SC) (hF : fX1_remove z0 x1 = some (r, u)) : Ct l G (tys_ cy cyO) yX1_remove wsX1_remove ({ frames := 1, cells := 0, slots := 0, locals := 20 } : Room) [.ref (a 0), .int x1] (cW a cy cyO z0) (some (.int r)) (cW a cy cyO u) := by
  unfold fX1_remove at hF
  refine ct_of (cc := cX1_remove) (maxL := 3) (ret := (some .int)) (own := RX1) (by decide) rfl (Nat.le_of_ble_eq_true rfl) rfl ?_
  intro p e s m below meth c A ls X hr hlocks _ hK hN hA hP hD hl
  have hS : va_S A s.heap s.heap [] := va_S.rf
  have hl : lv_has ls 3 [(0, .ref (a 0)), (1, .int x1)] := hl
  obtain ⟨hx, hb, hml, hown, hts⟩ := id X
  have hin1 : ∀ w ∈ wsX10, w ∈ wsX1_remove := by decide +kernel
  refine lv_iload_n hx hb dX1_remove_0 rfl (lv_at hl 1 rfl) ?_
  obtain ⟨r1, z1, hG1, hF⟩ := o_b hF
  refine cl_S (rest := []) X hK hN hA hP hD hS (kX1_isPlace l G cy cyO a z0 x1 r1 z1 hG1) (va_cwS 1 hts gX1_remove_X1_isPlace rfl rfl rfl (by decide +kernel) ⟨Nat.le_of_ble_eq_true rfl, Nat.le_of_ble_eq_true rfl⟩) rfl hl.1 rfl (Nat.le_of_ble_eq_true rfl) dX1_remove_1 ⟨Nat.zero_le _, Nat.zero_le _⟩ (fun H locs hP hD hS => ?_)
  refine W.eq (g2 := F0 m 4 ls [.int r1]) rfl ?_
  refine lv_if_ne (tgt := 9) hx hb dX1_remove_4 (by decide) (fun c2 => ?_) (fun c2 => ?_)
  · have hF := o_f c2 hF
    refine lv_aload_n hx hb dX1_remove_9 rfl (lv_at hl 0 rfl) ?_
    refine va_get (D := G) (ci := 1) (v := .ref (a 1)) (C := RX1) (T := TX1) (N := 10) hx hb hts hin1 hown hK hP 0 rfl rfl 0 (by decide) (hts (.fieldLink RX1 11 "SignalBox" "standing" "[LSignalBox$Section;") (by decide +kernel)) (fun _ h9 => h9) rfl dX1_remove_10 ?_
    refine lv_iload_n hx hb dX1_remove_13 rfl (lv_at hl 1 rfl) ?_
    obtain ⟨h3, hF⟩ := o_n hF
    refine va_aldq (n := 12) (f := z1.2.2.1) (cA := cyO) (C := RX0) hx hb hK hP 1 1 rfl rfl h3 dX1_remove_14 ?_
    rcases ho3 : z1.2.2.1 x1.toNatClampNeg with _ | b3
    · have hF := o_mn ho3 hF
      refine w_none rfl ?_
      refine lv_ifnullN (tgt := 22) hx hb dX1_remove_15 (by decide) ?_
      refine lv_iconst (v := 0) hx hb dX1_remove_22 (by decide) ?_
      exact jX1_remove_23 X hr hlocks hK hN hA z1 x1 0 hF H locs hP hD hS ls (lv_sub hl [0, 1] rfl)
    · have hF := o_ms ho3 hF
      refine w_some rfl ?_
      refine lv_ifnull hx hb dX1_remove_15 ?_
      refine lv_iconst (v := 1) hx hb dX1_remove_18 (by decide) ?_
      refine lv_goto (tgt := 23) hx hb dX1_remove_19 (by decide) ?_
      exact jX1_remove_23 X hr hlocks hK hN hA z1 x1 1 hF H locs hP hD hS ls (lv_sub hl [0, 1] rfl)
  · have hF := o_t c2 hF
    refine lv_iconst (v := (-1)) hx hb dX1_remove_7 (by decide) ?_
    obtain ⟨rfl, rfl⟩ := o_s hF
    exact rt_i X hr hlocks hP hD hS dX1_remove_8
def fX1_same (z0 : SC) (x1 : Int32) (x2 : Int32) : Option (Int32 × SC) := bd_ (fX1_isPlace z0 x1) (fun r1 z1 => (if r1 = 0 then some ((-1), z1) else bd_ (fX1_isPlace z1 x2) (fun r3 z3 => (if r3 = 0 then some ((-1), z3) else if x1 < 0 ∨ 12 ≤ x1.toNatClampNeg then none else (opt_ (z3.2.2.1 x1.toNatClampNeg) (if x2 < 0 ∨ 12 ≤ x2.toNatClampNeg then none else (opt_ (z3.2.2.1 x2.toNatClampNeg) ((if (none : Option Nat) = none then some (1, z3) else some (0, z3))) (fun b6 => (if (none : Option Nat) = (some b6) then some (1, z3) else some (0, z3))))) (fun b5 => if x2 < 0 ∨ 12 ≤ x2.toNatClampNeg then none else (opt_ (z3.2.2.1 x2.toNatClampNeg) ((if ((some b5) : Option Nat) = none then some (1, z3) else some (0, z3))) (fun b9 => (if ((some b5) : Option Nat) = (some b9) then some (1, z3) else some (0, z3))))))))))
set_option maxRecDepth 100000 in
set_option maxHeartbeats 4000000 in
theorem kX1_same (l : Launch) (G : va_G) (cy cyO : ClassId) (a : Nat → Nat) (z0 : SC) (x1 : Int32) (x2 : Int32) (r : Int32) (u : SC) (hF : fX1_same z0 x1 x2 = some (r, u)) : Ct l G (tys_ cy cyO) yX1_same wsX1_same ({ frames := 1, cells := 0, slots := 0, locals := 20 } : Room) [.ref (a 0), .int x1, .int x2] (cW a cy cyO z0) (some (.int r)) (cW a cy cyO u) := by
  unfold fX1_same at hF
  refine ct_of (cc := cX1_same) (maxL := 3) (ret := (some .int)) (own := RX1) (by decide) rfl (Nat.le_of_ble_eq_true rfl) rfl ?_
  intro p e s m below meth c A ls X hr hlocks _ hK hN hA hP hD hl
  have hS : va_S A s.heap s.heap [] := va_S.rf
  have hl : lv_has ls 3 [(0, .ref (a 0)), (1, .int x1), (2, .int x2)] := hl
  obtain ⟨hx, hb, hml, hown, hts⟩ := id X
  have hin1 : ∀ w ∈ wsX10, w ∈ wsX1_same := by decide +kernel
  refine lv_iload_n hx hb dX1_same_0 rfl (lv_at hl 1 rfl) ?_
  obtain ⟨r1, z1, hG1, hF⟩ := o_b hF
  refine cl_S (rest := []) X hK hN hA hP hD hS (kX1_isPlace l G cy cyO a z0 x1 r1 z1 hG1) (va_cwS 1 hts gX1_same_X1_isPlace rfl rfl rfl (by decide +kernel) ⟨Nat.le_of_ble_eq_true rfl, Nat.le_of_ble_eq_true rfl⟩) rfl hl.1 rfl (Nat.le_of_ble_eq_true rfl) dX1_same_1 ⟨Nat.zero_le _, Nat.zero_le _⟩ (fun H locs hP hD hS => ?_)
  refine W.eq (g2 := F0 m 4 ls [.int r1]) rfl ?_
  refine lv_if_eq (tgt := 14) hx hb dX1_same_4 (by decide) (fun c2 => ?_) (fun c2 => ?_)
  · have hF := o_t c2 hF
    refine lv_iconst (v := (-1)) hx hb dX1_same_14 (by decide) ?_
    obtain ⟨rfl, rfl⟩ := o_s hF
    exact rt_i X hr hlocks hP hD hS dX1_same_15
  · have hF := o_f c2 hF
    refine lv_iload_n hx hb dX1_same_7 rfl (lv_at hl 2 rfl) ?_
    obtain ⟨r3, z3, hG3, hF⟩ := o_b hF
    refine cl_S (rest := []) X hK hN hA hP hD hS (kX1_isPlace l G cy cyO a z1 x2 r3 z3 hG3) (va_cwS 1 hts gX1_same_X1_isPlace rfl rfl rfl (by decide +kernel) ⟨Nat.le_of_ble_eq_true rfl, Nat.le_of_ble_eq_true rfl⟩) rfl hl.1 rfl (Nat.le_of_ble_eq_true rfl) dX1_same_8 ⟨Nat.zero_le _, Nat.zero_le _⟩ (fun H locs hP hD hS => ?_)
    refine W.eq (g2 := F0 m 11 ls [.int r3]) rfl ?_
    refine lv_if_ne (tgt := 16) hx hb dX1_same_11 (by decide) (fun c4 => ?_) (fun c4 => ?_)
    · have hF := o_f c4 hF
      refine lv_aload_n hx hb dX1_same_16 rfl (lv_at hl 0 rfl) ?_
      refine va_get (D := G) (ci := 1) (v := .ref (a 1)) (C := RX1) (T := TX1) (N := 10) hx hb hts hin1 hown hK hP 0 rfl rfl 0 (by decide) (hts (.fieldLink RX1 11 "SignalBox" "standing" "[LSignalBox$Section;") (by decide +kernel)) (fun _ h9 => h9) rfl dX1_same_17 ?_
      refine lv_iload_n hx hb dX1_same_20 rfl (lv_at hl 1 rfl) ?_
      obtain ⟨h5, hF⟩ := o_n hF
      refine va_aldq (n := 12) (f := z3.2.2.1) (cA := cyO) (C := RX0) hx hb hK hP 1 1 rfl rfl h5 dX1_same_21 ?_
      rcases ho5 : z3.2.2.1 x1.toNatClampNeg with _ | b5
      · have hF := o_mn ho5 hF
        refine w_none rfl ?_
        refine lv_aload_n hx hb dX1_same_22 rfl (lv_at hl 0 rfl) ?_
        refine va_get (D := G) (ci := 1) (v := .ref (a 1)) (C := RX1) (T := TX1) (N := 10) hx hb hts hin1 hown hK hP 0 rfl rfl 0 (by decide) (hts (.fieldLink RX1 11 "SignalBox" "standing" "[LSignalBox$Section;") (by decide +kernel)) (fun _ h9 => h9) rfl dX1_same_23 ?_
        refine lv_iload_n hx hb dX1_same_26 rfl (lv_at hl 2 rfl) ?_
        obtain ⟨h6, hF⟩ := o_n hF
        refine va_aldq (n := 12) (f := z3.2.2.1) (cA := cyO) (C := RX0) hx hb hK hP 1 1 rfl rfl h6 dX1_same_27 ?_
        rcases ho6 : z3.2.2.1 x2.toNatClampNeg with _ | b6
        · have hF := o_mn ho6 hF
          refine w_none rfl ?_
          refine lv_acmp_ne (rx := none) (ry := none) (tgt := 35) hx hb dX1_same_28 (by decide) (fun c7 => ?_) (fun c7 => ?_)
          · have hF := o_f c7 hF
            refine lv_iconst (v := 0) hx hb dX1_same_35 (by decide) ?_
            obtain ⟨rfl, rfl⟩ := o_s hF
            exact rt_i X hr hlocks hP hD hS dX1_same_36
          · have hF := o_t c7 hF
            refine lv_iconst (v := 1) hx hb dX1_same_31 (by decide) ?_
            refine lv_goto (tgt := 36) hx hb dX1_same_32 (by decide) ?_
            obtain ⟨rfl, rfl⟩ := o_s hF
            exact rt_i X hr hlocks hP hD hS dX1_same_36
        · have hF := o_ms ho6 hF
          refine w_some rfl ?_
          refine lv_acmp_ne (rx := none) (ry := (some b6)) (tgt := 35) hx hb dX1_same_28 (by decide) (fun c8 => ?_) (fun c8 => ?_)
          · have hF := o_f c8 hF
            refine lv_iconst (v := 0) hx hb dX1_same_35 (by decide) ?_
            obtain ⟨rfl, rfl⟩ := o_s hF
            exact rt_i X hr hlocks hP hD hS dX1_same_36
          · have hF := o_t c8 hF
            refine lv_iconst (v := 1) hx hb dX1_same_31 (by decide) ?_
            refine lv_goto (tgt := 36) hx hb dX1_same_32 (by decide) ?_
            obtain ⟨rfl, rfl⟩ := o_s hF
            exact rt_i X hr hlocks hP hD hS dX1_same_36
      · have hF := o_ms ho5 hF
        refine w_some rfl ?_
        refine lv_aload_n hx hb dX1_same_22 rfl (lv_at hl 0 rfl) ?_
        refine va_get (D := G) (ci := 1) (v := .ref (a 1)) (C := RX1) (T := TX1) (N := 10) hx hb hts hin1 hown hK hP 0 rfl rfl 0 (by decide) (hts (.fieldLink RX1 11 "SignalBox" "standing" "[LSignalBox$Section;") (by decide +kernel)) (fun _ h9 => h9) rfl dX1_same_23 ?_
        refine lv_iload_n hx hb dX1_same_26 rfl (lv_at hl 2 rfl) ?_
        obtain ⟨h9, hF⟩ := o_n hF
        refine va_aldq (n := 12) (f := z3.2.2.1) (cA := cyO) (C := RX0) hx hb hK hP 1 1 rfl rfl h9 dX1_same_27 ?_
        rcases ho9 : z3.2.2.1 x2.toNatClampNeg with _ | b9
        · have hF := o_mn ho9 hF
          refine w_none rfl ?_
          refine lv_acmp_ne (rx := (some b5)) (ry := none) (tgt := 35) hx hb dX1_same_28 (by decide) (fun c10 => ?_) (fun c10 => ?_)
          · have hF := o_f c10 hF
            refine lv_iconst (v := 0) hx hb dX1_same_35 (by decide) ?_
            obtain ⟨rfl, rfl⟩ := o_s hF
            exact rt_i X hr hlocks hP hD hS dX1_same_36
          · have hF := o_t c10 hF
            refine lv_iconst (v := 1) hx hb dX1_same_31 (by decide) ?_
            refine lv_goto (tgt := 36) hx hb dX1_same_32 (by decide) ?_
            obtain ⟨rfl, rfl⟩ := o_s hF
            exact rt_i X hr hlocks hP hD hS dX1_same_36
        · have hF := o_ms ho9 hF
          refine w_some rfl ?_
          refine lv_acmp_ne (rx := (some b5)) (ry := (some b9)) (tgt := 35) hx hb dX1_same_28 (by decide) (fun c11 => ?_) (fun c11 => ?_)
          · have hF := o_f c11 hF
            refine lv_iconst (v := 0) hx hb dX1_same_35 (by decide) ?_
            obtain ⟨rfl, rfl⟩ := o_s hF
            exact rt_i X hr hlocks hP hD hS dX1_same_36
          · have hF := o_t c11 hF
            refine lv_iconst (v := 1) hx hb dX1_same_31 (by decide) ?_
            refine lv_goto (tgt := 36) hx hb dX1_same_32 (by decide) ?_
            obtain ⟨rfl, rfl⟩ := o_s hF
            exact rt_i X hr hlocks hP hD hS dX1_same_36
    · have hF := o_t c4 hF
      refine lv_iconst (v := (-1)) hx hb dX1_same_14 (by decide) ?_
      obtain ⟨rfl, rfl⟩ := o_s hF
      exact rt_i X hr hlocks hP hD hS dX1_same_15
def fX1_lead (z0 : SC) (x1 : Int32) (x2 : Int32) : Option (Int32 × SC) := bd_ (fX1_isRoute z0 x1) (fun r1 z1 => (if r1 = 0 then some ((-1), z1) else bd_ (fX1_isPlace z1 x2) (fun r3 z3 => (if r3 = 0 then some ((-1), z3) else if x1 < 0 ∨ 6 ≤ x1.toNatClampNeg then none else let_ (z3.2.2.2.2.1 x1.toNatClampNeg) (fun v5 => (if v5 < 8 then if ((x1 * 8) + v5) < 0 ∨ 48 ≤ ((x1 * 8) + v5).toNatClampNeg then none else let_ ((z3.1, z3.2.1, z3.2.2.1, (upd z3.2.2.2.1 ((x1 * 8) + v5).toNatClampNeg x2), z3.2.2.2.2) : SC) (fun z8 => if x1 < 0 ∨ 6 ≤ x1.toNatClampNeg then none else let_ ((z8.1, z8.2.1, z8.2.2.1, z8.2.2.2.1, (upd z8.2.2.2.2.1 x1.toNatClampNeg (v5 + 1)), z8.2.2.2.2.2) : SC) (fun z10 => some ((v5 + 1), z10))) else some ((-2), z3)))))))
set_option maxRecDepth 100000 in
set_option maxHeartbeats 4000000 in
theorem kX1_lead (l : Launch) (G : va_G) (cy cyO : ClassId) (a : Nat → Nat) (z0 : SC) (x1 : Int32) (x2 : Int32) (r : Int32) (u : SC) (hF : fX1_lead z0 x1 x2 = some (r, u)) : Ct l G (tys_ cy cyO) yX1_lead wsX1_lead ({ frames := 1, cells := 0, slots := 0, locals := 20 } : Room) [.ref (a 0), .int x1, .int x2] (cW a cy cyO z0) (some (.int r)) (cW a cy cyO u) := by
  unfold fX1_lead at hF
  refine ct_of (cc := cX1_lead) (maxL := 4) (ret := (some .int)) (own := RX1) (by decide) rfl (Nat.le_of_ble_eq_true rfl) rfl ?_
  intro p e s m below meth c A ls X hr hlocks _ hK hN hA hP hD hl
  have hS : va_S A s.heap s.heap [] := va_S.rf
  have hl : lv_has ls 4 [(0, .ref (a 0)), (1, .int x1), (2, .int x2)] := hl
  obtain ⟨hx, hb, hml, hown, hts⟩ := id X
  have hin1 : ∀ w ∈ wsX10, w ∈ wsX1_lead := by decide +kernel
  refine lv_iload_n hx hb dX1_lead_0 rfl (lv_at hl 1 rfl) ?_
  obtain ⟨r1, z1, hG1, hF⟩ := o_b hF
  refine cl_S (rest := []) X hK hN hA hP hD hS (kX1_isRoute l G cy cyO a z0 x1 r1 z1 hG1) (va_cwS 1 hts gX1_lead_X1_isRoute rfl rfl rfl (by decide +kernel) ⟨Nat.le_of_ble_eq_true rfl, Nat.le_of_ble_eq_true rfl⟩) rfl hl.1 rfl (Nat.le_of_ble_eq_true rfl) dX1_lead_1 ⟨Nat.zero_le _, Nat.zero_le _⟩ (fun H locs hP hD hS => ?_)
  refine W.eq (g2 := F0 m 4 ls [.int r1]) rfl ?_
  refine lv_if_eq (tgt := 14) hx hb dX1_lead_4 (by decide) (fun c2 => ?_) (fun c2 => ?_)
  · have hF := o_t c2 hF
    refine lv_iconst (v := (-1)) hx hb dX1_lead_14 (by decide) ?_
    obtain ⟨rfl, rfl⟩ := o_s hF
    exact rt_i X hr hlocks hP hD hS dX1_lead_15
  · have hF := o_f c2 hF
    refine lv_iload_n hx hb dX1_lead_7 rfl (lv_at hl 2 rfl) ?_
    obtain ⟨r3, z3, hG3, hF⟩ := o_b hF
    refine cl_S (rest := []) X hK hN hA hP hD hS (kX1_isPlace l G cy cyO a z1 x2 r3 z3 hG3) (va_cwS 1 hts gX1_lead_X1_isPlace rfl rfl rfl (by decide +kernel) ⟨Nat.le_of_ble_eq_true rfl, Nat.le_of_ble_eq_true rfl⟩) rfl hl.1 rfl (Nat.le_of_ble_eq_true rfl) dX1_lead_8 ⟨Nat.zero_le _, Nat.zero_le _⟩ (fun H locs hP hD hS => ?_)
    refine W.eq (g2 := F0 m 11 ls [.int r3]) rfl ?_
    refine lv_if_ne (tgt := 16) hx hb dX1_lead_11 (by decide) (fun c4 => ?_) (fun c4 => ?_)
    · have hF := o_f c4 hF
      refine lv_aload_n hx hb dX1_lead_16 rfl (lv_at hl 0 rfl) ?_
      refine va_get (D := G) (ci := 1) (v := .ref (a 3)) (C := RX1) (T := TX1) (N := 10) hx hb hts hin1 hown hK hP 0 rfl rfl 2 (by decide) (hts (.fieldLink RX1 19 "SignalBox" "routeLengths" "[I") (by decide +kernel)) (fun _ h9 => h9) rfl dX1_lead_17 ?_
      refine lv_iload_n hx hb dX1_lead_20 rfl (lv_at hl 1 rfl) ?_
      obtain ⟨h5, hF⟩ := o_n hF
      refine va_iald (n := 6) (f := z3.2.2.2.2.1) (cA := cy) hx hb hK hP 3 0 rfl rfl h5 dX1_lead_21 ?_
      obtain ⟨v5, e5, hF⟩ := o_l hF
      refine w_top e5 ?_
      refine lv_istore_n (lv' := [(3, .int v5), (0, .ref (a 0)), (1, .int x1), (2, .int x2)]) hx hb dX1_lead_22 rfl hl (by decide) rfl (fun ls hl => ?_)
      refine lv_iload_n hx hb dX1_lead_23 rfl (lv_at hl 0 rfl) ?_
      refine lv_bipush (v := 8) hx hb dX1_lead_24 (by decide) ?_
      refine lv_icmp_lt (tgt := 32) hx hb dX1_lead_26 (by decide) (fun c6 => ?_) (fun c6 => ?_)
      · have hF := o_t c6 hF
        refine lv_aload_n hx hb dX1_lead_32 rfl (lv_at hl 1 rfl) ?_
        refine va_get (D := G) (ci := 1) (v := .ref (a 2)) (C := RX1) (T := TX1) (N := 10) hx hb hts hin1 hown hK hP 0 rfl rfl 1 (by decide) (hts (.fieldLink RX1 15 "SignalBox" "routePlaces" "[I") (by decide +kernel)) (fun _ h9 => h9) rfl dX1_lead_33 ?_
        refine lv_iload_n hx hb dX1_lead_36 rfl (lv_at hl 2 rfl) ?_
        refine lv_bipush (v := 8) hx hb dX1_lead_37 (by decide) ?_
        refine lv_imul hx hb dX1_lead_39 ?_
        refine lv_iload_n hx hb dX1_lead_40 rfl (lv_at hl 0 rfl) ?_
        refine lv_iadd hx hb dX1_lead_41 ?_
        refine lv_iload_n hx hb dX1_lead_42 rfl (lv_at hl 3 rfl) ?_
        obtain ⟨h7, hF⟩ := o_n hF
        refine va_iast (n := 48) (f := z3.2.2.2.1) (cA := cy) hx hb hK hP hD hS 2 0 rfl rfl h7 dX1_lead_43 (fun H locs hP hD hS => ?_)
        obtain ⟨z8, e8, hF⟩ := o_l hF
        have hP : va_P G vwCl (cW a cy cyO z8) H := by rw [e8]; exact hP
        have hD : va_D A (cW a cy cyO z8) := by rw [e8]; exact hD
        refine lv_aload_n hx hb dX1_lead_44 rfl (lv_at hl 1 rfl) ?_
        refine va_get (D := G) (ci := 1) (v := .ref (a 3)) (C := RX1) (T := TX1) (N := 10) hx hb hts hin1 hown hK hP 0 rfl rfl 2 (by decide) (hts (.fieldLink RX1 19 "SignalBox" "routeLengths" "[I") (by decide +kernel)) (fun _ h9 => h9) rfl dX1_lead_45 ?_
        refine lv_iload_n hx hb dX1_lead_48 rfl (lv_at hl 2 rfl) ?_
        refine lv_iload_n hx hb dX1_lead_49 rfl (lv_at hl 0 rfl) ?_
        refine lv_iconst (v := 1) hx hb dX1_lead_50 (by decide) ?_
        refine lv_iadd hx hb dX1_lead_51 ?_
        obtain ⟨h9, hF⟩ := o_n hF
        refine va_iast (n := 6) (f := z8.2.2.2.2.1) (cA := cy) hx hb hK hP hD hS 3 0 rfl rfl h9 dX1_lead_52 (fun H locs hP hD hS => ?_)
        obtain ⟨z10, e10, hF⟩ := o_l hF
        have hP : va_P G vwCl (cW a cy cyO z10) H := by rw [e10]; exact hP
        have hD : va_D A (cW a cy cyO z10) := by rw [e10]; exact hD
        refine lv_iload_n hx hb dX1_lead_53 rfl (lv_at hl 0 rfl) ?_
        refine lv_iconst (v := 1) hx hb dX1_lead_54 (by decide) ?_
        refine lv_iadd hx hb dX1_lead_55 ?_
        obtain ⟨rfl, rfl⟩ := o_s hF
        exact rt_i X hr hlocks hP hD hS dX1_lead_56
      · have hF := o_f c6 hF
        refine lv_bipush (v := (-2)) hx hb dX1_lead_29 (by decide) ?_
        obtain ⟨rfl, rfl⟩ := o_s hF
        exact rt_i X hr hlocks hP hD hS dX1_lead_31
    · have hF := o_t c4 hF
      refine lv_iconst (v := (-1)) hx hb dX1_lead_14 (by decide) ?_
      obtain ⟨rfl, rfl⟩ := o_s hF
      exact rt_i X hr hlocks hP hD hS dX1_lead_15
def fX1_unlead (z0 : SC) (x1 : Int32) : Option (Int32 × SC) := bd_ (fX1_isRoute z0 x1) (fun r1 z1 => (if r1 = 0 then some ((-1), z1) else if x1 < 0 ∨ 6 ≤ x1.toNatClampNeg then none else let_ (z1.2.2.2.2.1 x1.toNatClampNeg) (fun v3 => if x1 < 0 ∨ 6 ≤ x1.toNatClampNeg then none else let_ ((z1.1, z1.2.1, z1.2.2.1, z1.2.2.2.1, (upd z1.2.2.2.2.1 x1.toNatClampNeg 0), z1.2.2.2.2.2) : SC) (fun z5 => some (v3, z5)))))
set_option maxRecDepth 100000 in
set_option maxHeartbeats 4000000 in
theorem kX1_unlead (l : Launch) (G : va_G) (cy cyO : ClassId) (a : Nat → Nat) (z0 : SC) (x1 : Int32) (r : Int32) (u : SC) (hF : fX1_unlead z0 x1 = some (r, u)) : Ct l G (tys_ cy cyO) yX1_unlead wsX1_unlead ({ frames := 1, cells := 0, slots := 0, locals := 20 } : Room) [.ref (a 0), .int x1] (cW a cy cyO z0) (some (.int r)) (cW a cy cyO u) := by
  unfold fX1_unlead at hF
  refine ct_of (cc := cX1_unlead) (maxL := 3) (ret := (some .int)) (own := RX1) (by decide) rfl (Nat.le_of_ble_eq_true rfl) rfl ?_
  intro p e s m below meth c A ls X hr hlocks _ hK hN hA hP hD hl
  have hS : va_S A s.heap s.heap [] := va_S.rf
  have hl : lv_has ls 3 [(0, .ref (a 0)), (1, .int x1)] := hl
  obtain ⟨hx, hb, hml, hown, hts⟩ := id X
  have hin1 : ∀ w ∈ wsX10, w ∈ wsX1_unlead := by decide +kernel
  refine lv_iload_n hx hb dX1_unlead_0 rfl (lv_at hl 1 rfl) ?_
  obtain ⟨r1, z1, hG1, hF⟩ := o_b hF
  refine cl_S (rest := []) X hK hN hA hP hD hS (kX1_isRoute l G cy cyO a z0 x1 r1 z1 hG1) (va_cwS 1 hts gX1_unlead_X1_isRoute rfl rfl rfl (by decide +kernel) ⟨Nat.le_of_ble_eq_true rfl, Nat.le_of_ble_eq_true rfl⟩) rfl hl.1 rfl (Nat.le_of_ble_eq_true rfl) dX1_unlead_1 ⟨Nat.zero_le _, Nat.zero_le _⟩ (fun H locs hP hD hS => ?_)
  refine W.eq (g2 := F0 m 4 ls [.int r1]) rfl ?_
  refine lv_if_ne (tgt := 9) hx hb dX1_unlead_4 (by decide) (fun c2 => ?_) (fun c2 => ?_)
  · have hF := o_f c2 hF
    refine lv_aload_n hx hb dX1_unlead_9 rfl (lv_at hl 0 rfl) ?_
    refine va_get (D := G) (ci := 1) (v := .ref (a 3)) (C := RX1) (T := TX1) (N := 10) hx hb hts hin1 hown hK hP 0 rfl rfl 2 (by decide) (hts (.fieldLink RX1 19 "SignalBox" "routeLengths" "[I") (by decide +kernel)) (fun _ h9 => h9) rfl dX1_unlead_10 ?_
    refine lv_iload_n hx hb dX1_unlead_13 rfl (lv_at hl 1 rfl) ?_
    obtain ⟨h3, hF⟩ := o_n hF
    refine va_iald (n := 6) (f := z1.2.2.2.2.1) (cA := cy) hx hb hK hP 3 0 rfl rfl h3 dX1_unlead_14 ?_
    obtain ⟨v3, e3, hF⟩ := o_l hF
    refine w_top e3 ?_
    refine lv_istore_n (lv' := [(2, .int v3), (0, .ref (a 0)), (1, .int x1)]) hx hb dX1_unlead_15 rfl hl (by decide) rfl (fun ls hl => ?_)
    refine lv_aload_n hx hb dX1_unlead_16 rfl (lv_at hl 1 rfl) ?_
    refine va_get (D := G) (ci := 1) (v := .ref (a 3)) (C := RX1) (T := TX1) (N := 10) hx hb hts hin1 hown hK hP 0 rfl rfl 2 (by decide) (hts (.fieldLink RX1 19 "SignalBox" "routeLengths" "[I") (by decide +kernel)) (fun _ h9 => h9) rfl dX1_unlead_17 ?_
    refine lv_iload_n hx hb dX1_unlead_20 rfl (lv_at hl 2 rfl) ?_
    refine lv_iconst (v := 0) hx hb dX1_unlead_21 (by decide) ?_
    obtain ⟨h4, hF⟩ := o_n hF
    refine va_iast (n := 6) (f := z1.2.2.2.2.1) (cA := cy) hx hb hK hP hD hS 3 0 rfl rfl h4 dX1_unlead_22 (fun H locs hP hD hS => ?_)
    obtain ⟨z5, e5, hF⟩ := o_l hF
    have hP : va_P G vwCl (cW a cy cyO z5) H := by rw [e5]; exact hP
    have hD : va_D A (cW a cy cyO z5) := by rw [e5]; exact hD
    refine lv_iload_n hx hb dX1_unlead_23 rfl (lv_at hl 0 rfl) ?_
    obtain ⟨rfl, rfl⟩ := o_s hF
    exact rt_i X hr hlocks hP hD hS dX1_unlead_24
  · have hF := o_t c2 hF
    refine lv_iconst (v := (-1)) hx hb dX1_unlead_7 (by decide) ?_
    obtain ⟨rfl, rfl⟩ := o_s hF
    exact rt_i X hr hlocks hP hD hS dX1_unlead_8
def fX1_passed (z0 : SC) : Option (Int32 × SC) := some (z0.2.2.2.2.2.2.2.2.2.2.2, z0)
set_option maxRecDepth 100000 in
set_option maxHeartbeats 4000000 in
theorem kX1_passed (l : Launch) (G : va_G) (cy cyO : ClassId) (a : Nat → Nat) (z0 : SC) (r : Int32) (u : SC) (hF : fX1_passed z0 = some (r, u)) : Ct l G (tys_ cy cyO) yX1_passed wsX1_passed ({ frames := 0, cells := 0, slots := 0, locals := 0 } : Room) [.ref (a 0)] (cW a cy cyO z0) (some (.int r)) (cW a cy cyO u) := by
  unfold fX1_passed at hF
  refine ct_of (cc := cX1_passed) (maxL := 1) (ret := (some .int)) (own := RX1) (by decide) rfl (Nat.le_of_ble_eq_true rfl) rfl ?_
  intro p e s m below meth c A ls X hr hlocks _ hK hN hA hP hD hl
  have hS : va_S A s.heap s.heap [] := va_S.rf
  have hl : lv_has ls 1 [(0, .ref (a 0))] := hl
  obtain ⟨hx, hb, hml, hown, hts⟩ := id X
  have hin1 : ∀ w ∈ wsX10, w ∈ wsX1_passed := by decide +kernel
  refine lv_aload_n hx hb dX1_passed_0 rfl (lv_at hl 0 rfl) ?_
  refine va_get (D := G) (ci := 1) (v := .int z0.2.2.2.2.2.2.2.2.2.2.2) (C := RX1) (T := TX1) (N := 10) hx hb hts hin1 hown hK hP 0 rfl rfl 9 (by decide) (hts (.fieldLink RX1 51 "SignalBox" "passed" "I") (by decide +kernel)) (fun _ h9 => h9) rfl dX1_passed_1 ?_
  obtain ⟨rfl, rfl⟩ := o_s hF
  exact rt_i X hr hlocks hP hD hS dX1_passed_4
def fX1_trace (z0 : SC) (x1 : Int32) : Option (Int32 × SC) := (if x1 = (-1) then some (z0.2.2.2.2.2.2.1, z0) else (if x1 < 0 then some ((-1), z0) else (if z0.2.2.2.2.2.2.1 ≤ x1 then some ((-1), z0) else if x1 < 0 ∨ 150 ≤ x1.toNatClampNeg then none else let_ (z0.2.2.2.2.2.1 x1.toNatClampNeg) (fun v4 => some (v4, z0)))))
set_option maxRecDepth 100000 in
set_option maxHeartbeats 4000000 in
theorem kX1_trace (l : Launch) (G : va_G) (cy cyO : ClassId) (a : Nat → Nat) (z0 : SC) (x1 : Int32) (r : Int32) (u : SC) (hF : fX1_trace z0 x1 = some (r, u)) : Ct l G (tys_ cy cyO) yX1_trace wsX1_trace ({ frames := 0, cells := 0, slots := 0, locals := 0 } : Room) [.ref (a 0), .int x1] (cW a cy cyO z0) (some (.int r)) (cW a cy cyO u) := by
  unfold fX1_trace at hF
  refine ct_of (cc := cX1_trace) (maxL := 2) (ret := (some .int)) (own := RX1) (by decide) rfl (Nat.le_of_ble_eq_true rfl) rfl ?_
  intro p e s m below meth c A ls X hr hlocks _ hK hN hA hP hD hl
  have hS : va_S A s.heap s.heap [] := va_S.rf
  have hl : lv_has ls 2 [(0, .ref (a 0)), (1, .int x1)] := hl
  obtain ⟨hx, hb, hml, hown, hts⟩ := id X
  have hin1 : ∀ w ∈ wsX10, w ∈ wsX1_trace := by decide +kernel
  refine lv_iload_n hx hb dX1_trace_0 rfl (lv_at hl 1 rfl) ?_
  refine lv_iconst (v := (-1)) hx hb dX1_trace_1 (by decide) ?_
  refine lv_icmp_ne (tgt := 10) hx hb dX1_trace_2 (by decide) (fun c1 => ?_) (fun c1 => ?_)
  · have hF := o_f c1 hF
    refine lv_iload_n hx hb dX1_trace_10 rfl (lv_at hl 1 rfl) ?_
    refine lv_if_lt (tgt := 31) hx hb dX1_trace_11 (by decide) (fun c2 => ?_) (fun c2 => ?_)
    · have hF := o_t c2 hF
      refine lv_iconst (v := (-1)) hx hb dX1_trace_31 (by decide) ?_
      obtain ⟨rfl, rfl⟩ := o_s hF
      exact rt_i X hr hlocks hP hD hS dX1_trace_32
    · have hF := o_f c2 hF
      refine lv_iload_n hx hb dX1_trace_14 rfl (lv_at hl 1 rfl) ?_
      refine lv_aload_n hx hb dX1_trace_15 rfl (lv_at hl 0 rfl) ?_
      refine va_get (D := G) (ci := 1) (v := .int z0.2.2.2.2.2.2.1) (C := RX1) (T := TX1) (N := 10) hx hb hts hin1 hown hK hP 0 rfl rfl 4 (by decide) (hts (.fieldLink RX1 54 "SignalBox" "traceLength" "I") (by decide +kernel)) (fun _ h9 => h9) rfl dX1_trace_16 ?_
      refine lv_icmp_ge (tgt := 31) hx hb dX1_trace_19 (by decide) (fun c3 => ?_) (fun c3 => ?_)
      · have hF := o_t c3 hF
        refine lv_iconst (v := (-1)) hx hb dX1_trace_31 (by decide) ?_
        obtain ⟨rfl, rfl⟩ := o_s hF
        exact rt_i X hr hlocks hP hD hS dX1_trace_32
      · have hF := o_f c3 hF
        refine lv_aload_n hx hb dX1_trace_22 rfl (lv_at hl 0 rfl) ?_
        refine va_get (D := G) (ci := 1) (v := .ref (a 4)) (C := RX1) (T := TX1) (N := 10) hx hb hts hin1 hown hK hP 0 rfl rfl 3 (by decide) (hts (.fieldLink RX1 22 "SignalBox" "trace" "[I") (by decide +kernel)) (fun _ h9 => h9) rfl dX1_trace_23 ?_
        refine lv_iload_n hx hb dX1_trace_26 rfl (lv_at hl 1 rfl) ?_
        obtain ⟨h4, hF⟩ := o_n hF
        refine va_iald (n := 150) (f := z0.2.2.2.2.2.1) (cA := cy) hx hb hK hP 4 0 rfl rfl h4 dX1_trace_27 ?_
        obtain ⟨v4, e4, hF⟩ := o_l hF
        refine w_top e4 ?_
        refine lv_goto (tgt := 32) hx hb dX1_trace_28 (by decide) ?_
        obtain ⟨rfl, rfl⟩ := o_s hF
        exact rt_i X hr hlocks hP hD hS dX1_trace_32
  · have hF := o_t c1 hF
    refine lv_aload_n hx hb dX1_trace_5 rfl (lv_at hl 0 rfl) ?_
    refine va_get (D := G) (ci := 1) (v := .int z0.2.2.2.2.2.2.1) (C := RX1) (T := TX1) (N := 10) hx hb hts hin1 hown hK hP 0 rfl rfl 4 (by decide) (hts (.fieldLink RX1 54 "SignalBox" "traceLength" "I") (by decide +kernel)) (fun _ h9 => h9) rfl dX1_trace_6 ?_
    obtain ⟨rfl, rfl⟩ := o_s hF
    exact rt_i X hr hlocks hP hD hS dX1_trace_9
def fX1_told (z0 : SC) (x1 : Int32) (x2 : Int32) : Option (Int32 × SC) := bd_ (fX1_isPlace z0 x1) (fun r1 z1 => (if r1 = 0 then some ((-1), z1) else if x1 < 0 ∨ 12 ≤ x1.toNatClampNeg then none else (opt_ (z1.2.2.1 x1.toNatClampNeg) (some ((-1), z1)) (fun b3 => (if x2 = 0 then if b3 ∈ z1.2.1 then some ((z1.1 b3 0), z1) else none else (if x2 = 1 then if b3 ∈ z1.2.1 then some ((z1.1 b3 1), z1) else none else (if x2 = 2 then if b3 ∈ z1.2.1 then some ((z1.1 b3 2), z1) else none else (if x2 = 3 then if b3 ∈ z1.2.1 then some ((z1.1 b3 3), z1) else none else (if x2 = 4 then if b3 ∈ z1.2.1 then some ((z1.1 b3 4), z1) else none else (if x2 = 5 then if b3 ∈ z1.2.1 then some ((z1.1 b3 5), z1) else none else (if x2 = 6 then if b3 ∈ z1.2.1 then some ((z1.1 b3 6), z1) else none else (if x2 = 7 then if b3 ∈ z1.2.1 then some ((z1.1 b3 7), z1) else none else (if x2 = 8 then if b3 ∈ z1.2.1 then some ((z1.1 b3 8), z1) else none else some ((-1), z1))))))))))))))
set_option maxRecDepth 100000 in
set_option maxHeartbeats 4000000 in
theorem kX1_told (l : Launch) (G : va_G) (cy cyO : ClassId) (a : Nat → Nat) (z0 : SC) (x1 : Int32) (x2 : Int32) (r : Int32) (u : SC) (hF : fX1_told z0 x1 x2 = some (r, u)) : Ct l G (tys_ cy cyO) yX1_told wsX1_told ({ frames := 1, cells := 0, slots := 0, locals := 20 } : Room) [.ref (a 0), .int x1, .int x2] (cW a cy cyO z0) (some (.int r)) (cW a cy cyO u) := by
  unfold fX1_told at hF
  refine ct_of (cc := cX1_told) (maxL := 4) (ret := (some .int)) (own := RX1) (by decide) rfl (Nat.le_of_ble_eq_true rfl) rfl ?_
  intro p e s m below meth c A ls X hr hlocks _ hK hN hA hP hD hl
  have hS : va_S A s.heap s.heap [] := va_S.rf
  have hl : lv_has ls 4 [(0, .ref (a 0)), (1, .int x1), (2, .int x2)] := hl
  obtain ⟨hx, hb, hml, hown, hts⟩ := id X
  have hin1 : ∀ w ∈ wsX10, w ∈ wsX1_told := by decide +kernel
  have hin0 : ∀ w ∈ wsX00, w ∈ wsX1_told := by decide +kernel
  refine lv_iload_n hx hb dX1_told_0 rfl (lv_at hl 1 rfl) ?_
  obtain ⟨r1, z1, hG1, hF⟩ := o_b hF
  refine cl_S (rest := []) X hK hN hA hP hD hS (kX1_isPlace l G cy cyO a z0 x1 r1 z1 hG1) (va_cwS 1 hts gX1_told_X1_isPlace rfl rfl rfl (by decide +kernel) ⟨Nat.le_of_ble_eq_true rfl, Nat.le_of_ble_eq_true rfl⟩) rfl hl.1 rfl (Nat.le_of_ble_eq_true rfl) dX1_told_1 ⟨Nat.zero_le _, Nat.zero_le _⟩ (fun H locs hP hD hS => ?_)
  refine W.eq (g2 := F0 m 4 ls [.int r1]) rfl ?_
  refine lv_if_ne (tgt := 9) hx hb dX1_told_4 (by decide) (fun c2 => ?_) (fun c2 => ?_)
  · have hF := o_f c2 hF
    refine lv_aload_n hx hb dX1_told_9 rfl (lv_at hl 0 rfl) ?_
    refine va_get (D := G) (ci := 1) (v := .ref (a 1)) (C := RX1) (T := TX1) (N := 10) hx hb hts hin1 hown hK hP 0 rfl rfl 0 (by decide) (hts (.fieldLink RX1 11 "SignalBox" "standing" "[LSignalBox$Section;") (by decide +kernel)) (fun _ h9 => h9) rfl dX1_told_10 ?_
    refine lv_iload_n hx hb dX1_told_13 rfl (lv_at hl 1 rfl) ?_
    obtain ⟨h3, hF⟩ := o_n hF
    refine va_aldq (n := 12) (f := z1.2.2.1) (cA := cyO) (C := RX0) hx hb hK hP 1 1 rfl rfl h3 dX1_told_14 ?_
    rcases ho3 : z1.2.2.1 x1.toNatClampNeg with _ | b3
    · have hF := o_mn ho3 hF
      refine w_none rfl ?_
      refine lv_astore_nN (lv' := [(3, .null), (0, .ref (a 0)), (1, .int x1), (2, .int x2)]) hx hb dX1_told_15 rfl hl (by decide) rfl (fun ls hl => ?_)
      refine lv_aload_nN hx hb dX1_told_16 rfl (lv_at hl 0 rfl) ?_
      refine lv_ifnonnullN hx hb dX1_told_17 ?_
      refine lv_iconst (v := (-1)) hx hb dX1_told_20 (by decide) ?_
      obtain ⟨rfl, rfl⟩ := o_s hF
      exact rt_i X hr hlocks hP hD hS dX1_told_21
    · have hF := o_ms ho3 hF
      refine w_some rfl ?_
      refine lv_astore_n (lv' := [(3, .ref b3), (0, .ref (a 0)), (1, .int x1), (2, .int x2)]) hx hb dX1_told_15 rfl hl (by decide) rfl (fun ls hl => ?_)
      refine lv_aload_n hx hb dX1_told_16 rfl (lv_at hl 0 rfl) ?_
      refine lv_ifnonnull (tgt := 22) hx hb dX1_told_17 (by decide) ?_
      refine lv_iload_n hx hb dX1_told_22 rfl (lv_at hl 3 rfl) ?_
      by_cases c4 : x2 = 0
      · have hF := o_t c4 hF
        refine lv_tableIn (off := 49) (tgt := 72) hx hb dX1_told_23 (by rw [c4]; decide) (by rw [c4]; decide) (by rw [c4]; rfl) (by decide) ?_
        refine lv_aload_n hx hb dX1_told_72 rfl (lv_at hl 0 rfl) ?_
        obtain ⟨h13, hF⟩ := o_i hF
        refine cs_get X hin0 hK hN hP h13 0 (by decide) (by decide) (by decide) (v := .int (z1.1 b3 0)) rfl dX1_told_73 ?_
        obtain ⟨rfl, rfl⟩ := o_s hF
        exact rt_i X hr hlocks hP hD hS dX1_told_76
      · have hF := o_f c4 hF
        by_cases c5 : x2 = 1
        · have hF := o_t c5 hF
          refine lv_tableIn (off := 54) (tgt := 77) hx hb dX1_told_23 (by rw [c5]; decide) (by rw [c5]; decide) (by rw [c5]; rfl) (by decide) ?_
          refine lv_aload_n hx hb dX1_told_77 rfl (lv_at hl 0 rfl) ?_
          obtain ⟨h14, hF⟩ := o_i hF
          refine cs_get X hin0 hK hN hP h14 1 (by decide) (by decide) (by decide) (v := .int (z1.1 b3 1)) rfl dX1_told_78 ?_
          obtain ⟨rfl, rfl⟩ := o_s hF
          exact rt_i X hr hlocks hP hD hS dX1_told_81
        · have hF := o_f c5 hF
          by_cases c6 : x2 = 2
          · have hF := o_t c6 hF
            refine lv_tableIn (off := 59) (tgt := 82) hx hb dX1_told_23 (by rw [c6]; decide) (by rw [c6]; decide) (by rw [c6]; rfl) (by decide) ?_
            refine lv_aload_n hx hb dX1_told_82 rfl (lv_at hl 0 rfl) ?_
            obtain ⟨h15, hF⟩ := o_i hF
            refine cs_get X hin0 hK hN hP h15 2 (by decide) (by decide) (by decide) (v := .int (z1.1 b3 2)) rfl dX1_told_83 ?_
            obtain ⟨rfl, rfl⟩ := o_s hF
            exact rt_i X hr hlocks hP hD hS dX1_told_86
          · have hF := o_f c6 hF
            by_cases c7 : x2 = 3
            · have hF := o_t c7 hF
              refine lv_tableIn (off := 64) (tgt := 87) hx hb dX1_told_23 (by rw [c7]; decide) (by rw [c7]; decide) (by rw [c7]; rfl) (by decide) ?_
              refine lv_aload_n hx hb dX1_told_87 rfl (lv_at hl 0 rfl) ?_
              obtain ⟨h16, hF⟩ := o_i hF
              refine cs_get X hin0 hK hN hP h16 3 (by decide) (by decide) (by decide) (v := .int (z1.1 b3 3)) rfl dX1_told_88 ?_
              obtain ⟨rfl, rfl⟩ := o_s hF
              exact rt_i X hr hlocks hP hD hS dX1_told_91
            · have hF := o_f c7 hF
              by_cases c8 : x2 = 4
              · have hF := o_t c8 hF
                refine lv_tableIn (off := 69) (tgt := 92) hx hb dX1_told_23 (by rw [c8]; decide) (by rw [c8]; decide) (by rw [c8]; rfl) (by decide) ?_
                refine lv_aload_n hx hb dX1_told_92 rfl (lv_at hl 0 rfl) ?_
                obtain ⟨h17, hF⟩ := o_i hF
                refine cs_get X hin0 hK hN hP h17 4 (by decide) (by decide) (by decide) (v := .int (z1.1 b3 4)) rfl dX1_told_93 ?_
                obtain ⟨rfl, rfl⟩ := o_s hF
                exact rt_i X hr hlocks hP hD hS dX1_told_96
              · have hF := o_f c8 hF
                by_cases c9 : x2 = 5
                · have hF := o_t c9 hF
                  refine lv_tableIn (off := 74) (tgt := 97) hx hb dX1_told_23 (by rw [c9]; decide) (by rw [c9]; decide) (by rw [c9]; rfl) (by decide) ?_
                  refine lv_aload_n hx hb dX1_told_97 rfl (lv_at hl 0 rfl) ?_
                  obtain ⟨h18, hF⟩ := o_i hF
                  refine cs_get X hin0 hK hN hP h18 5 (by decide) (by decide) (by decide) (v := .int (z1.1 b3 5)) rfl dX1_told_98 ?_
                  obtain ⟨rfl, rfl⟩ := o_s hF
                  exact rt_i X hr hlocks hP hD hS dX1_told_101
                · have hF := o_f c9 hF
                  by_cases c10 : x2 = 6
                  · have hF := o_t c10 hF
                    refine lv_tableIn (off := 79) (tgt := 102) hx hb dX1_told_23 (by rw [c10]; decide) (by rw [c10]; decide) (by rw [c10]; rfl) (by decide) ?_
                    refine lv_aload_n hx hb dX1_told_102 rfl (lv_at hl 0 rfl) ?_
                    obtain ⟨h19, hF⟩ := o_i hF
                    refine cs_get X hin0 hK hN hP h19 6 (by decide) (by decide) (by decide) (v := .int (z1.1 b3 6)) rfl dX1_told_103 ?_
                    obtain ⟨rfl, rfl⟩ := o_s hF
                    exact rt_i X hr hlocks hP hD hS dX1_told_106
                  · have hF := o_f c10 hF
                    by_cases c11 : x2 = 7
                    · have hF := o_t c11 hF
                      refine lv_tableIn (off := 84) (tgt := 107) hx hb dX1_told_23 (by rw [c11]; decide) (by rw [c11]; decide) (by rw [c11]; rfl) (by decide) ?_
                      refine lv_aload_n hx hb dX1_told_107 rfl (lv_at hl 0 rfl) ?_
                      obtain ⟨h20, hF⟩ := o_i hF
                      refine cs_get X hin0 hK hN hP h20 7 (by decide) (by decide) (by decide) (v := .int (z1.1 b3 7)) rfl dX1_told_108 ?_
                      obtain ⟨rfl, rfl⟩ := o_s hF
                      exact rt_i X hr hlocks hP hD hS dX1_told_111
                    · have hF := o_f c11 hF
                      by_cases c12 : x2 = 8
                      · have hF := o_t c12 hF
                        refine lv_tableIn (off := 89) (tgt := 112) hx hb dX1_told_23 (by rw [c12]; decide) (by rw [c12]; decide) (by rw [c12]; rfl) (by decide) ?_
                        refine lv_aload_n hx hb dX1_told_112 rfl (lv_at hl 0 rfl) ?_
                        obtain ⟨h21, hF⟩ := o_i hF
                        refine cs_get X hin0 hK hN hP h21 8 (by decide) (by decide) (by decide) (v := .int (z1.1 b3 8)) rfl dX1_told_113 ?_
                        obtain ⟨rfl, rfl⟩ := o_s hF
                        exact rt_i X hr hlocks hP hD hS dX1_told_116
                      · have hF := o_f c12 hF
                        refine lv_tableOut (tgt := 117) hx hb dX1_told_23 (by have g4 := lv_neT c4 (a := 0) rfl; have g5 := lv_neT c5 (a := 1) rfl; have g6 := lv_neT c6 (a := 2) rfl; have g7 := lv_neT c7 (a := 3) rfl; have g8 := lv_neT c8 (a := 4) rfl; have g9 := lv_neT c9 (a := 5) rfl; have g10 := lv_neT c10 (a := 6) rfl; have g11 := lv_neT c11 (a := 7) rfl; have g12 := lv_neT c12 (a := 8) rfl; omega) (by decide) ?_
                        refine lv_iconst (v := (-1)) hx hb dX1_told_117 (by decide) ?_
                        obtain ⟨rfl, rfl⟩ := o_s hF
                        exact rt_i X hr hlocks hP hD hS dX1_told_118
  · have hF := o_t c2 hF
    refine lv_iconst (v := (-1)) hx hb dX1_told_7 (by decide) ?_
    obtain ⟨rfl, rfl⟩ := o_s hF
    exact rt_i X hr hlocks hP hD hS dX1_told_8
def fX1_countStanding_j22 (K4 : SC → Int32 → Int32 → Option (Int32 × SC)) (z0 : SC) (y1 : Int32) (y2 : Int32) : Option (Int32 × SC) := (K4 z0 y1 (y2 + 1))
set_option maxRecDepth 100000 in
set_option maxHeartbeats 4000000 in
theorem jX1_countStanding_22 {p : Program} {l : Launch} {e : Env} {s : State} {m : MethodId} {args : Array Value} {below : List Frame} {meth : Method} {c : Code} {G : va_G} {cy cyO : ClassId} {a : Nat → Nat} {A : Nat → Prop} {r : Int32} {u : SC} (X : CallFix p m c cX1_countStanding 3 s args wsX1_countStanding RX1) (hr : meth.sig.returnType = (some .int)) (hlocks : meth.locks = false) (hK : va_K G vwCl (tys_ cy cyO) s) (hN : nw s) (hA : ∀ q, s.heap.size ≤ q → A q) (K4 : SC → Int32 → Int32 → Option (Int32 × SC)) (hK4 : ∀ (z0 : SC) (y1 : Int32) (y2 : Int32), K4 z0 y1 y2 = some (r, u) → ∀ (H : Heap) (locs : List Loc), va_P G vwCl (cW a cy cyO z0) H → va_D A (cW a cy cyO z0) → va_S A s.heap H locs → ∀ (ls : Array Slot), lv_has ls 3 [(0, .ref (a 0)), (1, .int y1), (2, .int y2)] → W p l e ({ frames := 0, cells := 0, slots := 0, locals := 0 } : Room) s m args below meth c H locs 0 0 (MQ below (qg (some (.int r)) (fun t => wPost G A (cW a cy cyO u) t) A) args s 0 0 A) (F0 m 4 ls [])) : ∀ (z0 : SC) (y1 : Int32) (y2 : Int32), fX1_countStanding_j22 K4 z0 y1 y2 = some (r, u) → ∀ (H : Heap) (locs : List Loc), va_P G vwCl (cW a cy cyO z0) H → va_D A (cW a cy cyO z0) → va_S A s.heap H locs → ∀ (ls : Array Slot), lv_has ls 3 [(0, .ref (a 0)), (1, .int y1), (2, .int y2)] → W p l e ({ frames := 0, cells := 0, slots := 0, locals := 0 } : Room) s m args below meth c H locs 0 0 (MQ below (qg (some (.int r)) (fun t => wPost G A (cW a cy cyO u) t) A) args s 0 0 A) (F0 m 22 ls []) := by
  obtain ⟨hx, hb, hml, hown, hts⟩ := id X
  have hin1 : ∀ w ∈ wsX10, w ∈ wsX1_countStanding := by decide +kernel
  intro z0 y1 y2 hF H locs hP hD hS ls hl
  unfold fX1_countStanding_j22 at hF
  refine lv_iinc (v := y2 + 1) (lv' := [(2, .int (y2 + 1)), (0, .ref (a 0)), (1, .int y1)]) hx hb dX1_countStanding_22 hl (k := 2) rfl rfl (by decide) rfl (fun ls hl => ?_)
  refine lv_goto (tgt := 4) hx hb dX1_countStanding_25 (by decide) ?_
  exact hK4 z0 y1 (y2 + 1) hF H locs hP hD hS ls (lv_sub hl [1, 2, 0] rfl)
def fX1_countStanding_j4 : Nat → SC → Int32 → Int32 → Option (Int32 × SC)
  | 0, _, _, _ => none
  | n + 1, z0, y1, y2 => (if 12 ≤ y2 then some (y1, z0) else if y2 < 0 ∨ 12 ≤ y2.toNatClampNeg then none else (opt_ (z0.2.2.1 y2.toNatClampNeg) ((fX1_countStanding_j22 (fX1_countStanding_j4 n) z0 y1 y2)) (fun b2 => (fX1_countStanding_j22 (fX1_countStanding_j4 n) z0 (y1 + 1) y2))))
set_option maxRecDepth 100000 in
set_option maxHeartbeats 4000000 in
theorem jX1_countStanding_4 {p : Program} {l : Launch} {e : Env} {s : State} {m : MethodId} {args : Array Value} {below : List Frame} {meth : Method} {c : Code} {G : va_G} {cy cyO : ClassId} {a : Nat → Nat} {A : Nat → Prop} {r : Int32} {u : SC} (X : CallFix p m c cX1_countStanding 3 s args wsX1_countStanding RX1) (hr : meth.sig.returnType = (some .int)) (hlocks : meth.locks = false) (hK : va_K G vwCl (tys_ cy cyO) s) (hN : nw s) (hA : ∀ q, s.heap.size ≤ q → A q) : ∀ n : Nat, ∀ (z0 : SC) (y1 : Int32) (y2 : Int32), fX1_countStanding_j4 n z0 y1 y2 = some (r, u) → ∀ (H : Heap) (locs : List Loc), va_P G vwCl (cW a cy cyO z0) H → va_D A (cW a cy cyO z0) → va_S A s.heap H locs → ∀ (ls : Array Slot), lv_has ls 3 [(0, .ref (a 0)), (1, .int y1), (2, .int y2)] → W p l e ({ frames := 0, cells := 0, slots := 0, locals := 0 } : Room) s m args below meth c H locs 0 0 (MQ below (qg (some (.int r)) (fun t => wPost G A (cW a cy cyO u) t) A) args s 0 0 A) (F0 m 4 ls []) := by
  obtain ⟨hx, hb, hml, hown, hts⟩ := id X
  have hin1 : ∀ w ∈ wsX10, w ∈ wsX1_countStanding := by decide +kernel
  intro n
  induction n with
  | zero => intro z0 y1 y2 hF; cases hF
  | succ n ih =>
    intro z0 y1 y2 hF H locs hP hD hS ls hl
    rw [fX1_countStanding_j4] at hF
    refine lv_iload_n hx hb dX1_countStanding_4 rfl (lv_at hl 2 rfl) ?_
    refine lv_bipush (v := 12) hx hb dX1_countStanding_5 (by decide) ?_
    refine lv_icmp_ge (tgt := 28) hx hb dX1_countStanding_7 (by decide) (fun c1 => ?_) (fun c1 => ?_)
    · have hF := o_t c1 hF
      refine lv_iload_n hx hb dX1_countStanding_28 rfl (lv_at hl 1 rfl) ?_
      obtain ⟨rfl, rfl⟩ := o_s hF
      exact rt_i X hr hlocks hP hD hS dX1_countStanding_29
    · have hF := o_f c1 hF
      refine lv_aload_n hx hb dX1_countStanding_10 rfl (lv_at hl 0 rfl) ?_
      refine va_get (D := G) (ci := 1) (v := .ref (a 1)) (C := RX1) (T := TX1) (N := 10) hx hb hts hin1 hown hK hP 0 rfl rfl 0 (by decide) (hts (.fieldLink RX1 11 "SignalBox" "standing" "[LSignalBox$Section;") (by decide +kernel)) (fun _ h9 => h9) rfl dX1_countStanding_11 ?_
      refine lv_iload_n hx hb dX1_countStanding_14 rfl (lv_at hl 2 rfl) ?_
      obtain ⟨h2, hF⟩ := o_n hF
      refine va_aldq (n := 12) (f := z0.2.2.1) (cA := cyO) (C := RX0) hx hb hK hP 1 1 rfl rfl h2 dX1_countStanding_15 ?_
      rcases ho2 : z0.2.2.1 y2.toNatClampNeg with _ | b2
      · have hF := o_mn ho2 hF
        refine w_none rfl ?_
        refine lv_ifnullN (tgt := 22) hx hb dX1_countStanding_16 (by decide) ?_
        exact jX1_countStanding_22 X hr hlocks hK hN hA (fX1_countStanding_j4 n) ih z0 y1 y2 hF H locs hP hD hS ls (lv_sub hl [0, 1, 2] rfl)
      · have hF := o_ms ho2 hF
        refine w_some rfl ?_
        refine lv_ifnull hx hb dX1_countStanding_16 ?_
        refine lv_iinc (v := y1 + 1) (lv' := [(1, .int (y1 + 1)), (0, .ref (a 0)), (2, .int y2)]) hx hb dX1_countStanding_19 hl (k := 1) rfl rfl (by decide) rfl (fun ls hl => ?_)
        exact jX1_countStanding_22 X hr hlocks hK hN hA (fX1_countStanding_j4 n) ih z0 (y1 + 1) y2 hF H locs hP hD hS ls (lv_sub hl [1, 0, 2] rfl)
def fX1_countStanding (z0 : SC) : Option (Int32 × SC) := (fX1_countStanding_j4 20 z0 0 0)
set_option maxRecDepth 100000 in
set_option maxHeartbeats 4000000 in
theorem kX1_countStanding (l : Launch) (G : va_G) (cy cyO : ClassId) (a : Nat → Nat) (z0 : SC) (r : Int32) (u : SC) (hF : fX1_countStanding z0 = some (r, u)) : Ct l G (tys_ cy cyO) yX1_countStanding wsX1_countStanding ({ frames := 0, cells := 0, slots := 0, locals := 0 } : Room) [.ref (a 0)] (cW a cy cyO z0) (some (.int r)) (cW a cy cyO u) := by
  unfold fX1_countStanding at hF
  refine ct_of (cc := cX1_countStanding) (maxL := 3) (ret := (some .int)) (own := RX1) (by decide) rfl (Nat.le_of_ble_eq_true rfl) rfl ?_
  intro p e s m below meth c A ls X hr hlocks _ hK hN hA hP hD hl
  have hS : va_S A s.heap s.heap [] := va_S.rf
  have hl : lv_has ls 3 [(0, .ref (a 0))] := hl
  obtain ⟨hx, hb, hml, hown, hts⟩ := id X
  have hin1 : ∀ w ∈ wsX10, w ∈ wsX1_countStanding := by decide +kernel
  refine lv_iconst (v := 0) hx hb dX1_countStanding_0 (by decide) ?_
  refine lv_istore_n (lv' := [(1, .int 0), (0, .ref (a 0))]) hx hb dX1_countStanding_1 rfl hl (by decide) rfl (fun ls hl => ?_)
  refine lv_iconst (v := 0) hx hb dX1_countStanding_2 (by decide) ?_
  refine lv_istore_n (lv' := [(2, .int 0), (1, .int 0), (0, .ref (a 0))]) hx hb dX1_countStanding_3 rfl hl (by decide) rfl (fun ls hl => ?_)
  exact jX1_countStanding_4 X hr hlocks hK hN hA 20 z0 0 0 hF s.heap [] hP hD hS ls (lv_sub hl [2, 1, 0] rfl)
def fX1_count (z0 : SC) (x1 : Int32) : Option (Int32 × SC) := (if x1 = 0 then some (z0.2.2.2.2.2.2.2.1, z0) else (if x1 = 1 then bd_ (fX1_countStanding z0) (fun r6 z6 => some (r6, z6)) else (if x1 = 2 then some (z0.2.2.2.2.2.2.2.2.1, z0) else (if x1 = 3 then some (z0.2.2.2.2.2.2.2.2.2.1, z0) else (if x1 = 4 then some (z0.2.2.2.2.2.2.2.2.2.2.1, z0) else bd_ (fX1_isRoute z0 (x1 - 5)) (fun r7 z7 => (if r7 = 0 then some ((-1), z7) else if (x1 - 5) < 0 ∨ 6 ≤ (x1 - 5).toNatClampNeg then none else let_ (z7.2.2.2.2.1 (x1 - 5).toNatClampNeg) (fun v9 => some (v9, z7)))))))))
set_option maxRecDepth 100000 in
set_option maxHeartbeats 4000000 in
theorem kX1_count (l : Launch) (G : va_G) (cy cyO : ClassId) (a : Nat → Nat) (z0 : SC) (x1 : Int32) (r : Int32) (u : SC) (hF : fX1_count z0 x1 = some (r, u)) : Ct l G (tys_ cy cyO) yX1_count wsX1_count ({ frames := 1, cells := 0, slots := 0, locals := 22 } : Room) [.ref (a 0), .int x1] (cW a cy cyO z0) (some (.int r)) (cW a cy cyO u) := by
  unfold fX1_count at hF
  refine ct_of (cc := cX1_count) (maxL := 2) (ret := (some .int)) (own := RX1) (by decide) rfl (Nat.le_of_ble_eq_true rfl) rfl ?_
  intro p e s m below meth c A ls X hr hlocks _ hK hN hA hP hD hl
  have hS : va_S A s.heap s.heap [] := va_S.rf
  have hl : lv_has ls 2 [(0, .ref (a 0)), (1, .int x1)] := hl
  obtain ⟨hx, hb, hml, hown, hts⟩ := id X
  have hin1 : ∀ w ∈ wsX10, w ∈ wsX1_count := by decide +kernel
  refine lv_iload_n hx hb dX1_count_0 rfl (lv_at hl 1 rfl) ?_
  by_cases c1 : x1 = 0
  · have hF := o_t c1 hF
    refine lv_tableIn (off := 35) (tgt := 36) hx hb dX1_count_1 (by rw [c1]; decide) (by rw [c1]; decide) (by rw [c1]; rfl) (by decide) ?_
    refine lv_aload_n hx hb dX1_count_36 rfl (lv_at hl 0 rfl) ?_
    refine va_get (D := G) (ci := 1) (v := .int z0.2.2.2.2.2.2.2.1) (C := RX1) (T := TX1) (N := 10) hx hb hts hin1 hown hK hP 0 rfl rfl 5 (by decide) (hts (.fieldLink RX1 32 "SignalBox" "made" "I") (by decide +kernel)) (fun _ h9 => h9) rfl dX1_count_37 ?_
    obtain ⟨rfl, rfl⟩ := o_s hF
    exact rt_i X hr hlocks hP hD hS dX1_count_40
  · have hF := o_f c1 hF
    by_cases c2 : x1 = 1
    · have hF := o_t c2 hF
      refine lv_tableIn (off := 40) (tgt := 41) hx hb dX1_count_1 (by rw [c2]; decide) (by rw [c2]; decide) (by rw [c2]; rfl) (by decide) ?_
      refine lv_aload_n hx hb dX1_count_41 rfl (lv_at hl 0 rfl) ?_
      obtain ⟨r6, z6, hG6, hF⟩ := o_b hF
      refine cl_V (C := RX1) (rest := []) X hK hN hA hP hD hS (kX1_countStanding l G cy cyO a z0 r6 z6 hG6) (cwV 0 hts gX1_count_X1_countStanding rfl rfl rfl (by decide +kernel) ⟨Nat.le_of_ble_eq_true rfl, Nat.le_of_ble_eq_true rfl⟩) (va_recv hK hP (ci := 1) (q0 := 0) rfl rfl) rfl hl.1 rfl (Nat.le_of_ble_eq_true rfl) dX1_count_42 ⟨Nat.zero_le _, Nat.zero_le _⟩ (fun H locs hP hD hS => ?_)
      refine W.eq (g2 := F0 m 45 ls [.int r6]) rfl ?_
      obtain ⟨rfl, rfl⟩ := o_s hF
      exact rt_i X hr hlocks hP hD hS dX1_count_45
    · have hF := o_f c2 hF
      by_cases c3 : x1 = 2
      · have hF := o_t c3 hF
        refine lv_tableIn (off := 45) (tgt := 46) hx hb dX1_count_1 (by rw [c3]; decide) (by rw [c3]; decide) (by rw [c3]; rfl) (by decide) ?_
        refine lv_aload_n hx hb dX1_count_46 rfl (lv_at hl 0 rfl) ?_
        refine va_get (D := G) (ci := 1) (v := .int z0.2.2.2.2.2.2.2.2.1) (C := RX1) (T := TX1) (N := 10) hx hb hts hin1 hown hK hP 0 rfl rfl 6 (by decide) (hts (.fieldLink RX1 48 "SignalBox" "runs" "I") (by decide +kernel)) (fun _ h9 => h9) rfl dX1_count_47 ?_
        obtain ⟨rfl, rfl⟩ := o_s hF
        exact rt_i X hr hlocks hP hD hS dX1_count_50
      · have hF := o_f c3 hF
        by_cases c4 : x1 = 3
        · have hF := o_t c4 hF
          refine lv_tableIn (off := 50) (tgt := 51) hx hb dX1_count_1 (by rw [c4]; decide) (by rw [c4]; decide) (by rw [c4]; rfl) (by decide) ?_
          refine lv_aload_n hx hb dX1_count_51 rfl (lv_at hl 0 rfl) ?_
          refine va_get (D := G) (ci := 1) (v := .int z0.2.2.2.2.2.2.2.2.2.1) (C := RX1) (T := TX1) (N := 10) hx hb hts hin1 hown hK hP 0 rfl rfl 7 (by decide) (hts (.fieldLink RX1 114 "SignalBox" "nullFailures" "I") (by decide +kernel)) (fun _ h9 => h9) rfl dX1_count_52 ?_
          obtain ⟨rfl, rfl⟩ := o_s hF
          exact rt_i X hr hlocks hP hD hS dX1_count_55
        · have hF := o_f c4 hF
          by_cases c5 : x1 = 4
          · have hF := o_t c5 hF
            refine lv_tableIn (off := 55) (tgt := 56) hx hb dX1_count_1 (by rw [c5]; decide) (by rw [c5]; decide) (by rw [c5]; rfl) (by decide) ?_
            refine lv_aload_n hx hb dX1_count_56 rfl (lv_at hl 0 rfl) ?_
            refine va_get (D := G) (ci := 1) (v := .int z0.2.2.2.2.2.2.2.2.2.2.1) (C := RX1) (T := TX1) (N := 10) hx hb hts hin1 hown hK hP 0 rfl rfl 8 (by decide) (hts (.fieldLink RX1 117 "SignalBox" "fullFailures" "I") (by decide +kernel)) (fun _ h9 => h9) rfl dX1_count_57 ?_
            obtain ⟨rfl, rfl⟩ := o_s hF
            exact rt_i X hr hlocks hP hD hS dX1_count_60
          · have hF := o_f c5 hF
            refine lv_tableOut (tgt := 61) hx hb dX1_count_1 (by have g1 := lv_neT c1 (a := 0) rfl; have g2 := lv_neT c2 (a := 1) rfl; have g3 := lv_neT c3 (a := 2) rfl; have g4 := lv_neT c4 (a := 3) rfl; have g5 := lv_neT c5 (a := 4) rfl; omega) (by decide) ?_
            refine lv_iload_n hx hb dX1_count_61 rfl (lv_at hl 1 rfl) ?_
            refine lv_iconst (v := 5) hx hb dX1_count_62 (by decide) ?_
            refine lv_isub hx hb dX1_count_63 ?_
            obtain ⟨r7, z7, hG7, hF⟩ := o_b hF
            refine cl_S (rest := []) X hK hN hA hP hD hS (kX1_isRoute l G cy cyO a z0 (x1 - 5) r7 z7 hG7) (va_cwS 1 hts gX1_count_X1_isRoute rfl rfl rfl (by decide +kernel) ⟨Nat.le_of_ble_eq_true rfl, Nat.le_of_ble_eq_true rfl⟩) rfl hl.1 rfl (Nat.le_of_ble_eq_true rfl) dX1_count_64 ⟨Nat.zero_le _, Nat.zero_le _⟩ (fun H locs hP hD hS => ?_)
            refine W.eq (g2 := F0 m 67 ls [.int r7]) rfl ?_
            refine lv_if_eq (tgt := 81) hx hb dX1_count_67 (by decide) (fun c8 => ?_) (fun c8 => ?_)
            · have hF := o_t c8 hF
              refine lv_iconst (v := (-1)) hx hb dX1_count_81 (by decide) ?_
              obtain ⟨rfl, rfl⟩ := o_s hF
              exact rt_i X hr hlocks hP hD hS dX1_count_82
            · have hF := o_f c8 hF
              refine lv_aload_n hx hb dX1_count_70 rfl (lv_at hl 0 rfl) ?_
              refine va_get (D := G) (ci := 1) (v := .ref (a 3)) (C := RX1) (T := TX1) (N := 10) hx hb hts hin1 hown hK hP 0 rfl rfl 2 (by decide) (hts (.fieldLink RX1 19 "SignalBox" "routeLengths" "[I") (by decide +kernel)) (fun _ h9 => h9) rfl dX1_count_71 ?_
              refine lv_iload_n hx hb dX1_count_74 rfl (lv_at hl 1 rfl) ?_
              refine lv_iconst (v := 5) hx hb dX1_count_75 (by decide) ?_
              refine lv_isub hx hb dX1_count_76 ?_
              obtain ⟨h9, hF⟩ := o_n hF
              refine va_iald (n := 6) (f := z7.2.2.2.2.1) (cA := cy) hx hb hK hP 3 0 rfl rfl h9 dX1_count_77 ?_
              obtain ⟨v9, e9, hF⟩ := o_l hF
              refine w_top e9 ?_
              refine lv_goto (tgt := 82) hx hb dX1_count_78 (by decide) ?_
              obtain ⟨rfl, rfl⟩ := o_s hF
              exact rt_i X hr hlocks hP hD hS dX1_count_82
