def fX1_goTwoByTwo_j119 (K2 : SC → Int32 → Int32 → Int32 → Option (Int32 × SC)) (z0 : SC) (y1 : Int32) (y2 : Int32) (y3 : Int32) (w4 : Nat) (y7 : Int32) : Option (Int32 × SC) := bd_ (fX1_let z0 w4) (fun r1 z1 => (if y7 = 0 then (K2 z1 y1 y2 (y3 + 1)) else bd_ (fX1_answerTo z1 y7 y3) (fun r3 z3 => some (r3, z3))))
set_option maxRecDepth 100000 in
set_option maxHeartbeats 4000000 in
theorem jX1_goTwoByTwo_119 {p : Program} {l : Launch} {e : Env} {s : State} {m : MethodId} {args : Array Value} {below : List Frame} {meth : Method} {c : Code} {G : va_G} {cy cyO : ClassId} {a : Nat → Nat} {A : Nat → Prop} {r : Int32} {u : SC} (X : CallFix p m c cX1_goTwoByTwo 8 s args wsX1_goTwoByTwo RX1) (hr : meth.sig.returnType = (some .int)) (hlocks : meth.locks = false) (hK : va_K G vwCl (tys_ cy cyO) s) (hN : nw s) (hA : ∀ q, s.heap.size ≤ q → A q) (K2 : SC → Int32 → Int32 → Int32 → Option (Int32 × SC)) (hK2 : ∀ (z0 : SC) (y1 : Int32) (y2 : Int32) (y3 : Int32), K2 z0 y1 y2 y3 = some (r, u) → ∀ (H : Heap) (locs : List Loc), va_P G vwCl (cW a cy cyO z0) H → va_D A (cW a cy cyO z0) → va_S A s.heap H locs → ∀ (ls : Array Slot), lv_has ls 8 [(0, .ref (a 0)), (1, .int y1), (2, .int y2), (3, .int y3)] → W p l e ({ frames := 5, cells := 0, slots := 0, locals := 113 } : Room) s m args below meth c H locs 0 0 (MQ below (qg (some (.int r)) (fun t => wPost G A (cW a cy cyO u) t) A) args s 0 0 A) (F0 m 2 ls [])) : ∀ (z0 : SC) (y1 : Int32) (y2 : Int32) (y3 : Int32) (w4 : Nat) (y7 : Int32), fX1_goTwoByTwo_j119 K2 z0 y1 y2 y3 w4 y7 = some (r, u) → ∀ (H : Heap) (locs : List Loc), va_P G vwCl (cW a cy cyO z0) H → va_D A (cW a cy cyO z0) → va_S A s.heap H locs → ∀ (ls : Array Slot), lv_has ls 8 [(0, .ref (a 0)), (1, .int y1), (2, .int y2), (3, .int y3), (4, .ref w4), (7, .int y7)] → W p l e ({ frames := 5, cells := 0, slots := 0, locals := 113 } : Room) s m args below meth c H locs 0 0 (MQ below (qg (some (.int r)) (fun t => wPost G A (cW a cy cyO u) t) A) args s 0 0 A) (F0 m 119 ls []) := by
  obtain ⟨hx, hb, hml, hown, hts⟩ := id X
  have hin1 : ∀ w ∈ wsX10, w ∈ wsX1_goTwoByTwo := by decide +kernel
  intro z0 y1 y2 y3 w4 y7 hF H locs hP hD hS ls hl
  unfold fX1_goTwoByTwo_j119 at hF
  refine lv_aload_n hx hb dX1_goTwoByTwo_119 rfl (lv_at hl 0 rfl) ?_
  refine lv_aload hx hb dX1_goTwoByTwo_120 (lv_at hl 4 rfl) ?_
  obtain ⟨r1, z1, hG1, hF⟩ := o_b hF
  refine cl_V (C := RX1) (rest := []) X hK hN hA hP hD hS (kX1_let l G cy cyO a z0 w4 r1 z1 hG1) (cwV 1 hts gX1_goTwoByTwo_X1_let rfl rfl rfl (by decide +kernel) ⟨Nat.le_of_ble_eq_true rfl, Nat.le_of_ble_eq_true rfl⟩) (va_recv hK hP (ci := 1) (q0 := 0) rfl rfl) rfl hl.1 rfl (Nat.le_of_ble_eq_true rfl) dX1_goTwoByTwo_122 ⟨Nat.zero_le _, Nat.zero_le _⟩ (fun H locs hP hD hS => ?_)
  refine W.eq (g2 := F0 m 125 ls []) rfl ?_
  refine lv_iload hx hb dX1_goTwoByTwo_125 (lv_at hl 5 rfl) ?_
  refine lv_if_eq (tgt := 138) hx hb dX1_goTwoByTwo_127 (by decide) (fun c2 => ?_) (fun c2 => ?_)
  · have hF := o_t c2 hF
    refine lv_iinc (v := y3 + 1) (lv' := [(3, .int (y3 + 1)), (0, .ref (a 0)), (1, .int y1), (2, .int y2), (4, .ref w4), (7, .int y7)]) hx hb dX1_goTwoByTwo_138 hl (k := 3) rfl rfl (by decide) rfl (fun ls hl => ?_)
    refine lv_goto (tgt := 2) hx hb dX1_goTwoByTwo_141 (by decide) ?_
    exact hK2 z1 y1 y2 (y3 + 1) hF H locs hP hD hS ls (lv_sub hl [1, 2, 3, 0] rfl)
  · have hF := o_f c2 hF
    refine lv_aload_n hx hb dX1_goTwoByTwo_130 rfl (lv_at hl 0 rfl) ?_
    refine lv_iload hx hb dX1_goTwoByTwo_131 (lv_at hl 5 rfl) ?_
    refine lv_iload_n hx hb dX1_goTwoByTwo_133 rfl (lv_at hl 3 rfl) ?_
    obtain ⟨r3, z3, hG3, hF⟩ := o_b hF
    refine cl_V (C := RX1) (rest := []) X hK hN hA hP hD hS (kX1_answerTo l G cy cyO a z1 y7 y3 r3 z3 hG3) (cwV 2 hts gX1_goTwoByTwo_X1_answerTo rfl rfl rfl (by decide +kernel) ⟨Nat.le_of_ble_eq_true rfl, Nat.le_of_ble_eq_true rfl⟩) (va_recv hK hP (ci := 1) (q0 := 0) rfl rfl) rfl hl.1 rfl (Nat.le_of_ble_eq_true rfl) dX1_goTwoByTwo_134 ⟨Nat.zero_le _, Nat.zero_le _⟩ (fun H locs hP hD hS => ?_)
    refine W.eq (g2 := F0 m 137 ls [.int r3]) rfl ?_
    obtain ⟨rfl, rfl⟩ := o_s hF
    exact rt_i X hr hlocks hP hD hS dX1_goTwoByTwo_137
def fX1_goTwoByTwo_j51 (K2 : SC → Int32 → Int32 → Int32 → Option (Int32 × SC)) (z0 : SC) (y1 : Int32) (y2 : Int32) (y3 : Int32) (w4 : Nat) (t0 : Int32) : Option (Int32 × SC) := (if t0 = 0 then bd_ (fX1_sectionOn z0 y1 (y3 + 1)) (fun r2 z2 => (opt_ (r2) ((if t0 = 0 then (fX1_goTwoByTwo_j119 K2 z2 y1 y2 y3 w4 (-11)) else bd_ (fX1_pass z2 w4 y2) (fun r4 z4 => (fX1_goTwoByTwo_j119 K2 z4 y1 y2 y3 w4 r4)))) (fun b2 => bd_ (fX1_claim z2 b2) (fun r5 z5 => bd_ (fX1_pass z5 w4 y2) (fun r6 z6 => bd_ (fX1_let z6 b2) (fun r7 z7 => (fX1_goTwoByTwo_j119 K2 z7 y1 y2 y3 w4 r6))))))) else (if t0 = 0 then (fX1_goTwoByTwo_j119 K2 z0 y1 y2 y3 w4 (-11)) else bd_ (fX1_pass z0 w4 y2) (fun r9 z9 => (fX1_goTwoByTwo_j119 K2 z9 y1 y2 y3 w4 r9))))
set_option maxRecDepth 100000 in
set_option maxHeartbeats 4000000 in
theorem jX1_goTwoByTwo_51 {p : Program} {l : Launch} {e : Env} {s : State} {m : MethodId} {args : Array Value} {below : List Frame} {meth : Method} {c : Code} {G : va_G} {cy cyO : ClassId} {a : Nat → Nat} {A : Nat → Prop} {r : Int32} {u : SC} (X : CallFix p m c cX1_goTwoByTwo 8 s args wsX1_goTwoByTwo RX1) (hr : meth.sig.returnType = (some .int)) (hlocks : meth.locks = false) (hK : va_K G vwCl (tys_ cy cyO) s) (hN : nw s) (hA : ∀ q, s.heap.size ≤ q → A q) (K2 : SC → Int32 → Int32 → Int32 → Option (Int32 × SC)) (hK2 : ∀ (z0 : SC) (y1 : Int32) (y2 : Int32) (y3 : Int32), K2 z0 y1 y2 y3 = some (r, u) → ∀ (H : Heap) (locs : List Loc), va_P G vwCl (cW a cy cyO z0) H → va_D A (cW a cy cyO z0) → va_S A s.heap H locs → ∀ (ls : Array Slot), lv_has ls 8 [(0, .ref (a 0)), (1, .int y1), (2, .int y2), (3, .int y3)] → W p l e ({ frames := 5, cells := 0, slots := 0, locals := 113 } : Room) s m args below meth c H locs 0 0 (MQ below (qg (some (.int r)) (fun t => wPost G A (cW a cy cyO u) t) A) args s 0 0 A) (F0 m 2 ls [])) : ∀ (z0 : SC) (y1 : Int32) (y2 : Int32) (y3 : Int32) (w4 : Nat) (t0 : Int32), fX1_goTwoByTwo_j51 K2 z0 y1 y2 y3 w4 t0 = some (r, u) → ∀ (H : Heap) (locs : List Loc), va_P G vwCl (cW a cy cyO z0) H → va_D A (cW a cy cyO z0) → va_S A s.heap H locs → ∀ (ls : Array Slot), lv_has ls 8 [(0, .ref (a 0)), (1, .int y1), (2, .int y2), (3, .int y3), (4, .ref w4)] → W p l e ({ frames := 5, cells := 0, slots := 0, locals := 113 } : Room) s m args below meth c H locs 0 0 (MQ below (qg (some (.int r)) (fun t => wPost G A (cW a cy cyO u) t) A) args s 0 0 A) (F0 m 51 ls [.int t0]) := by
  obtain ⟨hx, hb, hml, hown, hts⟩ := id X
  have hin1 : ∀ w ∈ wsX10, w ∈ wsX1_goTwoByTwo := by decide +kernel
  intro z0 y1 y2 y3 w4 t0 hF H locs hP hD hS ls hl
  unfold fX1_goTwoByTwo_j51 at hF
  refine lv_istore (lv' := [(5, .int t0), (0, .ref (a 0)), (1, .int y1), (2, .int y2), (3, .int y3), (4, .ref w4)]) hx hb dX1_goTwoByTwo_51 hl (by decide) rfl (fun ls hl => ?_)
  refine lv_iload hx hb dX1_goTwoByTwo_53 (lv_at hl 0 rfl) ?_
  refine lv_if_eq (tgt := 62) hx hb dX1_goTwoByTwo_55 (by decide) (fun c1 => ?_) (fun c1 => ?_)
  · have hF := o_t c1 hF
    refine lv_aload_n hx hb dX1_goTwoByTwo_62 rfl (lv_at hl 1 rfl) ?_
    refine lv_iload_n hx hb dX1_goTwoByTwo_63 rfl (lv_at hl 2 rfl) ?_
    refine lv_iload_n hx hb dX1_goTwoByTwo_64 rfl (lv_at hl 4 rfl) ?_
    refine lv_iconst (v := 1) hx hb dX1_goTwoByTwo_65 (by decide) ?_
    refine lv_iadd hx hb dX1_goTwoByTwo_66 ?_
    obtain ⟨r2, z2, hG2, hF⟩ := o_b hF
    refine cl_V (C := RX1) (rest := []) X hK hN hA hP hD hS (kX1_sectionOn l G cy cyO a z0 y1 (y3 + 1) r2 z2 hG2) (cwV 2 hts gX1_goTwoByTwo_X1_sectionOn rfl rfl rfl (by decide +kernel) ⟨Nat.le_of_ble_eq_true rfl, Nat.le_of_ble_eq_true rfl⟩) (va_recv hK hP (ci := 1) (q0 := 0) rfl rfl) rfl hl.1 rfl (Nat.le_of_ble_eq_true rfl) dX1_goTwoByTwo_67 ⟨Nat.zero_le _, Nat.zero_le _⟩ (fun H locs hP hD hS => ?_)
    rcases ho2 : r2 with _ | b2
    · have hF := o_mn ho2 hF
      refine w_none rfl ?_
      refine lv_astoreN (lv' := [(6, .null), (5, .int t0), (0, .ref (a 0)), (1, .int y1), (2, .int y2), (3, .int y3), (4, .ref w4)]) hx hb dX1_goTwoByTwo_70 hl (by decide) rfl (fun ls hl => ?_)
      refine lv_bipush (v := (-11)) hx hb dX1_goTwoByTwo_72 (by decide) ?_
      refine lv_istore (lv' := [(7, .int (-11)), (6, .null), (5, .int t0), (0, .ref (a 0)), (1, .int y1), (2, .int y2), (3, .int y3), (4, .ref w4)]) hx hb dX1_goTwoByTwo_74 hl (by decide) rfl (fun ls hl => ?_)
      refine lv_aloadN hx hb dX1_goTwoByTwo_76 (lv_at hl 1 rfl) ?_
      refine lv_ifnullN (tgt := 105) hx hb dX1_goTwoByTwo_78 (by decide) ?_
      refine lv_iload hx hb dX1_goTwoByTwo_105 (lv_at hl 2 rfl) ?_
      refine lv_if_eq (tgt := 119) hx hb dX1_goTwoByTwo_107 (by decide) (fun c3 => ?_) (fun c3 => ?_)
      · have hF := o_t c3 hF
        exact jX1_goTwoByTwo_119 X hr hlocks hK hN hA K2 hK2 z2 y1 y2 y3 w4 (-11) hF H locs hP hD hS ls (lv_sub hl [3, 4, 5, 6, 7, 0] rfl)
      · have hF := o_f c3 hF
        refine lv_aload_n hx hb dX1_goTwoByTwo_110 rfl (lv_at hl 3 rfl) ?_
        refine lv_aload hx hb dX1_goTwoByTwo_111 (lv_at hl 7 rfl) ?_
        refine lv_iload_n hx hb dX1_goTwoByTwo_113 rfl (lv_at hl 5 rfl) ?_
        obtain ⟨r4, z4, hG4, hF⟩ := o_b hF
        refine cl_V (C := RX1) (rest := []) X hK hN hA hP hD hS (kX1_pass l G cy cyO a z2 w4 y2 r4 z4 hG4) (cwV 2 hts gX1_goTwoByTwo_X1_pass rfl rfl rfl (by decide +kernel) ⟨Nat.le_of_ble_eq_true rfl, Nat.le_of_ble_eq_true rfl⟩) (va_recv hK hP (ci := 1) (q0 := 0) rfl rfl) rfl hl.1 rfl (Nat.le_of_ble_eq_true rfl) dX1_goTwoByTwo_114 ⟨Nat.zero_le _, Nat.zero_le _⟩ (fun H locs hP hD hS => ?_)
        refine W.eq (g2 := F0 m 117 ls [.int r4]) rfl ?_
        refine lv_istore (lv' := [(7, .int r4), (6, .null), (5, .int t0), (0, .ref (a 0)), (1, .int y1), (2, .int y2), (3, .int y3), (4, .ref w4)]) hx hb dX1_goTwoByTwo_117 hl (by decide) rfl (fun ls hl => ?_)
        exact jX1_goTwoByTwo_119 X hr hlocks hK hN hA K2 hK2 z4 y1 y2 y3 w4 r4 hF H locs hP hD hS ls (lv_sub hl [3, 4, 5, 6, 7, 0] rfl)
    · have hF := o_ms ho2 hF
      refine w_some rfl ?_
      refine lv_astore (lv' := [(6, .ref b2), (5, .int t0), (0, .ref (a 0)), (1, .int y1), (2, .int y2), (3, .int y3), (4, .ref w4)]) hx hb dX1_goTwoByTwo_70 hl (by decide) rfl (fun ls hl => ?_)
      refine lv_bipush (v := (-11)) hx hb dX1_goTwoByTwo_72 (by decide) ?_
      refine lv_istore (lv' := [(7, .int (-11)), (6, .ref b2), (5, .int t0), (0, .ref (a 0)), (1, .int y1), (2, .int y2), (3, .int y3), (4, .ref w4)]) hx hb dX1_goTwoByTwo_74 hl (by decide) rfl (fun ls hl => ?_)
      refine lv_aload hx hb dX1_goTwoByTwo_76 (lv_at hl 1 rfl) ?_
      refine lv_ifnull hx hb dX1_goTwoByTwo_78 ?_
      refine lv_aload_n hx hb dX1_goTwoByTwo_81 rfl (lv_at hl 3 rfl) ?_
      refine lv_aload hx hb dX1_goTwoByTwo_82 (lv_at hl 1 rfl) ?_
      obtain ⟨r5, z5, hG5, hF⟩ := o_b hF
      refine cl_V (C := RX1) (rest := []) X hK hN hA hP hD hS (kX1_claim l G cy cyO a z2 b2 r5 z5 hG5) (cwV 1 hts gX1_goTwoByTwo_X1_claim rfl rfl rfl (by decide +kernel) ⟨Nat.le_of_ble_eq_true rfl, Nat.le_of_ble_eq_true rfl⟩) (va_recv hK hP (ci := 1) (q0 := 0) rfl rfl) rfl hl.1 rfl (Nat.le_of_ble_eq_true rfl) dX1_goTwoByTwo_84 ⟨Nat.zero_le _, Nat.zero_le _⟩ (fun H locs hP hD hS => ?_)
      refine W.eq (g2 := F0 m 87 ls []) rfl ?_
      refine lv_aload_n hx hb dX1_goTwoByTwo_87 rfl (lv_at hl 3 rfl) ?_
      refine lv_aload hx hb dX1_goTwoByTwo_88 (lv_at hl 7 rfl) ?_
      refine lv_iload_n hx hb dX1_goTwoByTwo_90 rfl (lv_at hl 5 rfl) ?_
      obtain ⟨r6, z6, hG6, hF⟩ := o_b hF
      refine cl_V (C := RX1) (rest := []) X hK hN hA hP hD hS (kX1_pass l G cy cyO a z5 w4 y2 r6 z6 hG6) (cwV 2 hts gX1_goTwoByTwo_X1_pass rfl rfl rfl (by decide +kernel) ⟨Nat.le_of_ble_eq_true rfl, Nat.le_of_ble_eq_true rfl⟩) (va_recv hK hP (ci := 1) (q0 := 0) rfl rfl) rfl hl.1 rfl (Nat.le_of_ble_eq_true rfl) dX1_goTwoByTwo_91 ⟨Nat.zero_le _, Nat.zero_le _⟩ (fun H locs hP hD hS => ?_)
      refine W.eq (g2 := F0 m 94 ls [.int r6]) rfl ?_
      refine lv_istore (lv' := [(7, .int r6), (6, .ref b2), (5, .int t0), (0, .ref (a 0)), (1, .int y1), (2, .int y2), (3, .int y3), (4, .ref w4)]) hx hb dX1_goTwoByTwo_94 hl (by decide) rfl (fun ls hl => ?_)
      refine lv_aload_n hx hb dX1_goTwoByTwo_96 rfl (lv_at hl 3 rfl) ?_
      refine lv_aload hx hb dX1_goTwoByTwo_97 (lv_at hl 1 rfl) ?_
      obtain ⟨r7, z7, hG7, hF⟩ := o_b hF
      refine cl_V (C := RX1) (rest := []) X hK hN hA hP hD hS (kX1_let l G cy cyO a z6 b2 r7 z7 hG7) (cwV 1 hts gX1_goTwoByTwo_X1_let rfl rfl rfl (by decide +kernel) ⟨Nat.le_of_ble_eq_true rfl, Nat.le_of_ble_eq_true rfl⟩) (va_recv hK hP (ci := 1) (q0 := 0) rfl rfl) rfl hl.1 rfl (Nat.le_of_ble_eq_true rfl) dX1_goTwoByTwo_99 ⟨Nat.zero_le _, Nat.zero_le _⟩ (fun H locs hP hD hS => ?_)
      refine W.eq (g2 := F0 m 102 ls []) rfl ?_
      refine lv_goto (tgt := 119) hx hb dX1_goTwoByTwo_102 (by decide) ?_
      exact jX1_goTwoByTwo_119 X hr hlocks hK hN hA K2 hK2 z7 y1 y2 y3 w4 r6 hF H locs hP hD hS ls (lv_sub hl [3, 4, 5, 6, 7, 0] rfl)
  · have hF := o_f c1 hF
    refine lv_null hx hb dX1_goTwoByTwo_58 ?_
    refine lv_goto (tgt := 70) hx hb dX1_goTwoByTwo_59 (by decide) ?_
    refine lv_astoreN (lv' := [(6, .null), (5, .int t0), (0, .ref (a 0)), (1, .int y1), (2, .int y2), (3, .int y3), (4, .ref w4)]) hx hb dX1_goTwoByTwo_70 hl (by decide) rfl (fun ls hl => ?_)
    refine lv_bipush (v := (-11)) hx hb dX1_goTwoByTwo_72 (by decide) ?_
    refine lv_istore (lv' := [(7, .int (-11)), (6, .null), (5, .int t0), (0, .ref (a 0)), (1, .int y1), (2, .int y2), (3, .int y3), (4, .ref w4)]) hx hb dX1_goTwoByTwo_74 hl (by decide) rfl (fun ls hl => ?_)
    refine lv_aloadN hx hb dX1_goTwoByTwo_76 (lv_at hl 1 rfl) ?_
    refine lv_ifnullN (tgt := 105) hx hb dX1_goTwoByTwo_78 (by decide) ?_
    refine lv_iload hx hb dX1_goTwoByTwo_105 (lv_at hl 2 rfl) ?_
    refine lv_if_eq (tgt := 119) hx hb dX1_goTwoByTwo_107 (by decide) (fun c8 => ?_) (fun c8 => ?_)
    · have hF := o_t c8 hF
      exact jX1_goTwoByTwo_119 X hr hlocks hK hN hA K2 hK2 z0 y1 y2 y3 w4 (-11) hF H locs hP hD hS ls (lv_sub hl [3, 4, 5, 6, 7, 0] rfl)
    · have hF := o_f c8 hF
      refine lv_aload_n hx hb dX1_goTwoByTwo_110 rfl (lv_at hl 3 rfl) ?_
      refine lv_aload hx hb dX1_goTwoByTwo_111 (lv_at hl 7 rfl) ?_
      refine lv_iload_n hx hb dX1_goTwoByTwo_113 rfl (lv_at hl 5 rfl) ?_
      obtain ⟨r9, z9, hG9, hF⟩ := o_b hF
      refine cl_V (C := RX1) (rest := []) X hK hN hA hP hD hS (kX1_pass l G cy cyO a z0 w4 y2 r9 z9 hG9) (cwV 2 hts gX1_goTwoByTwo_X1_pass rfl rfl rfl (by decide +kernel) ⟨Nat.le_of_ble_eq_true rfl, Nat.le_of_ble_eq_true rfl⟩) (va_recv hK hP (ci := 1) (q0 := 0) rfl rfl) rfl hl.1 rfl (Nat.le_of_ble_eq_true rfl) dX1_goTwoByTwo_114 ⟨Nat.zero_le _, Nat.zero_le _⟩ (fun H locs hP hD hS => ?_)
      refine W.eq (g2 := F0 m 117 ls [.int r9]) rfl ?_
      refine lv_istore (lv' := [(7, .int r9), (6, .null), (5, .int t0), (0, .ref (a 0)), (1, .int y1), (2, .int y2), (3, .int y3), (4, .ref w4)]) hx hb dX1_goTwoByTwo_117 hl (by decide) rfl (fun ls hl => ?_)
      exact jX1_goTwoByTwo_119 X hr hlocks hK hN hA K2 hK2 z9 y1 y2 y3 w4 r9 hF H locs hP hD hS ls (lv_sub hl [3, 4, 5, 6, 7, 0] rfl)
def fX1_goTwoByTwo_j2 : Nat → SC → Int32 → Int32 → Int32 → Option (Int32 × SC)
  | 0, _, _, _, _ => none
  | n + 1, z0, y1, y2, y3 => if y1 < 0 ∨ 6 ≤ y1.toNatClampNeg then none else let_ (z0.2.2.2.2.1 y1.toNatClampNeg) (fun v1 => (if v1 ≤ y3 then some (z0.2.2.2.2.2.2.2.2.2.2.2, z0) else bd_ (fX1_sectionOn z0 y1 y3) (fun r3 z3 => (opt_ (r3) (some ((-11), z3)) (fun b3 => bd_ (fX1_claim z3 b3) (fun r4 z4 => if y1 < 0 ∨ 6 ≤ y1.toNatClampNeg then none else let_ (z4.2.2.2.2.1 y1.toNatClampNeg) (fun v5 => (if (y3 + 1) = v5 then (fX1_goTwoByTwo_j51 (fX1_goTwoByTwo_j2 n) z4 y1 y2 y3 b3 1) else (fX1_goTwoByTwo_j51 (fX1_goTwoByTwo_j2 n) z4 y1 y2 y3 b3 0)))))))))
set_option maxRecDepth 100000 in
set_option maxHeartbeats 4000000 in
theorem jX1_goTwoByTwo_2 {p : Program} {l : Launch} {e : Env} {s : State} {m : MethodId} {args : Array Value} {below : List Frame} {meth : Method} {c : Code} {G : va_G} {cy cyO : ClassId} {a : Nat → Nat} {A : Nat → Prop} {r : Int32} {u : SC} (X : CallFix p m c cX1_goTwoByTwo 8 s args wsX1_goTwoByTwo RX1) (hr : meth.sig.returnType = (some .int)) (hlocks : meth.locks = false) (hK : va_K G vwCl (tys_ cy cyO) s) (hN : nw s) (hA : ∀ q, s.heap.size ≤ q → A q) : ∀ n : Nat, ∀ (z0 : SC) (y1 : Int32) (y2 : Int32) (y3 : Int32), fX1_goTwoByTwo_j2 n z0 y1 y2 y3 = some (r, u) → ∀ (H : Heap) (locs : List Loc), va_P G vwCl (cW a cy cyO z0) H → va_D A (cW a cy cyO z0) → va_S A s.heap H locs → ∀ (ls : Array Slot), lv_has ls 8 [(0, .ref (a 0)), (1, .int y1), (2, .int y2), (3, .int y3)] → W p l e ({ frames := 5, cells := 0, slots := 0, locals := 113 } : Room) s m args below meth c H locs 0 0 (MQ below (qg (some (.int r)) (fun t => wPost G A (cW a cy cyO u) t) A) args s 0 0 A) (F0 m 2 ls []) := by
  obtain ⟨hx, hb, hml, hown, hts⟩ := id X
  have hin1 : ∀ w ∈ wsX10, w ∈ wsX1_goTwoByTwo := by decide +kernel
  intro n
  induction n with
  | zero => intro z0 y1 y2 y3 hF; cases hF
  | succ n ih =>
    intro z0 y1 y2 y3 hF H locs hP hD hS ls hl
    rw [fX1_goTwoByTwo_j2] at hF
    refine lv_iload_n hx hb dX1_goTwoByTwo_2 rfl (lv_at hl 3 rfl) ?_
    refine lv_aload_n hx hb dX1_goTwoByTwo_3 rfl (lv_at hl 0 rfl) ?_
    refine va_get (D := G) (ci := 1) (v := .ref (a 3)) (C := RX1) (T := TX1) (N := 10) hx hb hts hin1 hown hK hP 0 rfl rfl 2 (by decide) (hts (.fieldLink RX1 19 "SignalBox" "routeLengths" "[I") (by decide +kernel)) (fun _ h9 => h9) rfl dX1_goTwoByTwo_4 ?_
    refine lv_iload_n hx hb dX1_goTwoByTwo_7 rfl (lv_at hl 1 rfl) ?_
    obtain ⟨h1, hF⟩ := o_n hF
    refine va_iald (n := 6) (f := z0.2.2.2.2.1) (cA := cy) hx hb hK hP 3 0 rfl rfl h1 dX1_goTwoByTwo_8 ?_
    obtain ⟨v1, e1, hF⟩ := o_l hF
    refine w_top e1 ?_
    refine lv_icmp_ge (tgt := 144) hx hb dX1_goTwoByTwo_9 (by decide) (fun c2 => ?_) (fun c2 => ?_)
    · have hF := o_t c2 hF
      refine lv_aload_n hx hb dX1_goTwoByTwo_144 rfl (lv_at hl 0 rfl) ?_
      refine va_get (D := G) (ci := 1) (v := .int z0.2.2.2.2.2.2.2.2.2.2.2) (C := RX1) (T := TX1) (N := 10) hx hb hts hin1 hown hK hP 0 rfl rfl 9 (by decide) (hts (.fieldLink RX1 51 "SignalBox" "passed" "I") (by decide +kernel)) (fun _ h9 => h9) rfl dX1_goTwoByTwo_145 ?_
      obtain ⟨rfl, rfl⟩ := o_s hF
      exact rt_i X hr hlocks hP hD hS dX1_goTwoByTwo_148
    · have hF := o_f c2 hF
      refine lv_aload_n hx hb dX1_goTwoByTwo_12 rfl (lv_at hl 0 rfl) ?_
      refine lv_iload_n hx hb dX1_goTwoByTwo_13 rfl (lv_at hl 1 rfl) ?_
      refine lv_iload_n hx hb dX1_goTwoByTwo_14 rfl (lv_at hl 3 rfl) ?_
      obtain ⟨r3, z3, hG3, hF⟩ := o_b hF
      refine cl_V (C := RX1) (rest := []) X hK hN hA hP hD hS (kX1_sectionOn l G cy cyO a z0 y1 y3 r3 z3 hG3) (cwV 2 hts gX1_goTwoByTwo_X1_sectionOn rfl rfl rfl (by decide +kernel) ⟨Nat.le_of_ble_eq_true rfl, Nat.le_of_ble_eq_true rfl⟩) (va_recv hK hP (ci := 1) (q0 := 0) rfl rfl) rfl hl.1 rfl (Nat.le_of_ble_eq_true rfl) dX1_goTwoByTwo_15 ⟨Nat.zero_le _, Nat.zero_le _⟩ (fun H locs hP hD hS => ?_)
      rcases ho3 : r3 with _ | b3
      · have hF := o_mn ho3 hF
        refine w_none rfl ?_
        refine lv_astoreN (lv' := [(4, .null), (0, .ref (a 0)), (1, .int y1), (2, .int y2), (3, .int y3)]) hx hb dX1_goTwoByTwo_18 hl (by decide) rfl (fun ls hl => ?_)
        refine lv_aloadN hx hb dX1_goTwoByTwo_20 (lv_at hl 0 rfl) ?_
        refine lv_ifnonnullN hx hb dX1_goTwoByTwo_22 ?_
        refine lv_bipush (v := (-11)) hx hb dX1_goTwoByTwo_25 (by decide) ?_
        obtain ⟨rfl, rfl⟩ := o_s hF
        exact rt_i X hr hlocks hP hD hS dX1_goTwoByTwo_27
      · have hF := o_ms ho3 hF
        refine w_some rfl ?_
        refine lv_astore (lv' := [(4, .ref b3), (0, .ref (a 0)), (1, .int y1), (2, .int y2), (3, .int y3)]) hx hb dX1_goTwoByTwo_18 hl (by decide) rfl (fun ls hl => ?_)
        refine lv_aload hx hb dX1_goTwoByTwo_20 (lv_at hl 0 rfl) ?_
        refine lv_ifnonnull (tgt := 28) hx hb dX1_goTwoByTwo_22 (by decide) ?_
        refine lv_aload_n hx hb dX1_goTwoByTwo_28 rfl (lv_at hl 1 rfl) ?_
        refine lv_aload hx hb dX1_goTwoByTwo_29 (lv_at hl 0 rfl) ?_
        obtain ⟨r4, z4, hG4, hF⟩ := o_b hF
        refine cl_V (C := RX1) (rest := []) X hK hN hA hP hD hS (kX1_claim l G cy cyO a z3 b3 r4 z4 hG4) (cwV 1 hts gX1_goTwoByTwo_X1_claim rfl rfl rfl (by decide +kernel) ⟨Nat.le_of_ble_eq_true rfl, Nat.le_of_ble_eq_true rfl⟩) (va_recv hK hP (ci := 1) (q0 := 0) rfl rfl) rfl hl.1 rfl (Nat.le_of_ble_eq_true rfl) dX1_goTwoByTwo_31 ⟨Nat.zero_le _, Nat.zero_le _⟩ (fun H locs hP hD hS => ?_)
        refine W.eq (g2 := F0 m 34 ls []) rfl ?_
        refine lv_iload_n hx hb dX1_goTwoByTwo_34 rfl (lv_at hl 4 rfl) ?_
        refine lv_iconst (v := 1) hx hb dX1_goTwoByTwo_35 (by decide) ?_
        refine lv_iadd hx hb dX1_goTwoByTwo_36 ?_
        refine lv_aload_n hx hb dX1_goTwoByTwo_37 rfl (lv_at hl 1 rfl) ?_
        refine va_get (D := G) (ci := 1) (v := .ref (a 3)) (C := RX1) (T := TX1) (N := 10) hx hb hts hin1 hown hK hP 0 rfl rfl 2 (by decide) (hts (.fieldLink RX1 19 "SignalBox" "routeLengths" "[I") (by decide +kernel)) (fun _ h9 => h9) rfl dX1_goTwoByTwo_38 ?_
        refine lv_iload_n hx hb dX1_goTwoByTwo_41 rfl (lv_at hl 2 rfl) ?_
        obtain ⟨h5, hF⟩ := o_n hF
        refine va_iald (n := 6) (f := z4.2.2.2.2.1) (cA := cy) hx hb hK hP 3 0 rfl rfl h5 dX1_goTwoByTwo_42 ?_
        obtain ⟨v5, e5, hF⟩ := o_l hF
        refine w_top e5 ?_
        refine lv_icmp_ne (tgt := 50) hx hb dX1_goTwoByTwo_43 (by decide) (fun c6 => ?_) (fun c6 => ?_)
        · have hF := o_f c6 hF
          refine lv_iconst (v := 0) hx hb dX1_goTwoByTwo_50 (by decide) ?_
          exact jX1_goTwoByTwo_51 X hr hlocks hK hN hA (fX1_goTwoByTwo_j2 n) ih z4 y1 y2 y3 b3 0 hF H locs hP hD hS ls (lv_sub hl [1, 2, 3, 4, 0] rfl)
        · have hF := o_t c6 hF
          refine lv_iconst (v := 1) hx hb dX1_goTwoByTwo_46 (by decide) ?_
          refine lv_goto (tgt := 51) hx hb dX1_goTwoByTwo_47 (by decide) ?_
          exact jX1_goTwoByTwo_51 X hr hlocks hK hN hA (fX1_goTwoByTwo_j2 n) ih z4 y1 y2 y3 b3 1 hF H locs hP hD hS ls (lv_sub hl [1, 2, 3, 4, 0] rfl)
def fX1_goTwoByTwo (z0 : SC) (x1 : Int32) (x2 : Int32) : Option (Int32 × SC) := (fX1_goTwoByTwo_j2 20 z0 x1 x2 0)
set_option maxRecDepth 100000 in
set_option maxHeartbeats 4000000 in
theorem kX1_goTwoByTwo (l : Launch) (G : va_G) (cy cyO : ClassId) (a : Nat → Nat) (z0 : SC) (x1 : Int32) (x2 : Int32) (r : Int32) (u : SC) (hF : fX1_goTwoByTwo z0 x1 x2 = some (r, u)) : Ct l G (tys_ cy cyO) yX1_goTwoByTwo wsX1_goTwoByTwo ({ frames := 5, cells := 0, slots := 0, locals := 113 } : Room) [.ref (a 0), .int x1, .int x2] (cW a cy cyO z0) (some (.int r)) (cW a cy cyO u) := by
  unfold fX1_goTwoByTwo at hF
  refine ct_of (cc := cX1_goTwoByTwo) (maxL := 8) (ret := (some .int)) (own := RX1) (by decide) rfl (Nat.le_of_ble_eq_true rfl) rfl ?_
  intro p e s m below meth c A ls X hr hlocks _ hK hN hA hP hD hl
  have hS : va_S A s.heap s.heap [] := va_S.rf
  have hl : lv_has ls 8 [(0, .ref (a 0)), (1, .int x1), (2, .int x2)] := hl
  obtain ⟨hx, hb, hml, hown, hts⟩ := id X
  have hin1 : ∀ w ∈ wsX10, w ∈ wsX1_goTwoByTwo := by decide +kernel
  refine lv_iconst (v := 0) hx hb dX1_goTwoByTwo_0 (by decide) ?_
  refine lv_istore_n (lv' := [(3, .int 0), (0, .ref (a 0)), (1, .int x1), (2, .int x2)]) hx hb dX1_goTwoByTwo_1 rfl hl (by decide) rfl (fun ls hl => ?_)
  exact jX1_goTwoByTwo_2 X hr hlocks hK hN hA 20 z0 x1 x2 0 hF s.heap [] hP hD hS ls (lv_sub hl [1, 2, 3, 0] rfl)
def fX1_claimAll_j2 : Nat → SC → Int32 → Int32 → Option (Int32 × SC)
  | 0, _, _, _ => none
  | n + 1, z0, y1, y2 => if y1 < 0 ∨ 6 ≤ y1.toNatClampNeg then none else let_ (z0.2.2.2.2.1 y1.toNatClampNeg) (fun v1 => (if v1 ≤ y2 then if y1 < 0 ∨ 6 ≤ y1.toNatClampNeg then none else let_ (z0.2.2.2.2.1 y1.toNatClampNeg) (fun v3 => some (v3, z0)) else bd_ (fX1_sectionOn z0 y1 y2) (fun r4 z4 => (opt_ (r4) (some (y2, z4)) (fun b4 => bd_ (fX1_claim z4 b4) (fun r5 z5 => (fX1_claimAll_j2 n z5 y1 (y2 + 1))))))))
set_option maxRecDepth 100000 in
set_option maxHeartbeats 4000000 in
theorem jX1_claimAll_2 {p : Program} {l : Launch} {e : Env} {s : State} {m : MethodId} {args : Array Value} {below : List Frame} {meth : Method} {c : Code} {G : va_G} {cy cyO : ClassId} {a : Nat → Nat} {A : Nat → Prop} {r : Int32} {u : SC} (X : CallFix p m c cX1_claimAll 4 s args wsX1_claimAll RX1) (hr : meth.sig.returnType = (some .int)) (hlocks : meth.locks = false) (hK : va_K G vwCl (tys_ cy cyO) s) (hN : nw s) (hA : ∀ q, s.heap.size ≤ q → A q) : ∀ n : Nat, ∀ (z0 : SC) (y1 : Int32) (y2 : Int32), fX1_claimAll_j2 n z0 y1 y2 = some (r, u) → ∀ (H : Heap) (locs : List Loc), va_P G vwCl (cW a cy cyO z0) H → va_D A (cW a cy cyO z0) → va_S A s.heap H locs → ∀ (ls : Array Slot), lv_has ls 4 [(0, .ref (a 0)), (1, .int y1), (2, .int y2)] → W p l e ({ frames := 1, cells := 0, slots := 0, locals := 22 } : Room) s m args below meth c H locs 0 0 (MQ below (qg (some (.int r)) (fun t => wPost G A (cW a cy cyO u) t) A) args s 0 0 A) (F0 m 2 ls []) := by
  obtain ⟨hx, hb, hml, hown, hts⟩ := id X
  have hin1 : ∀ w ∈ wsX10, w ∈ wsX1_claimAll := by decide +kernel
  intro n
  induction n with
  | zero => intro z0 y1 y2 hF; cases hF
  | succ n ih =>
    intro z0 y1 y2 hF H locs hP hD hS ls hl
    rw [fX1_claimAll_j2] at hF
    refine lv_iload_n hx hb dX1_claimAll_2 rfl (lv_at hl 2 rfl) ?_
    refine lv_aload_n hx hb dX1_claimAll_3 rfl (lv_at hl 0 rfl) ?_
    refine va_get (D := G) (ci := 1) (v := .ref (a 3)) (C := RX1) (T := TX1) (N := 10) hx hb hts hin1 hown hK hP 0 rfl rfl 2 (by decide) (hts (.fieldLink RX1 19 "SignalBox" "routeLengths" "[I") (by decide +kernel)) (fun _ h9 => h9) rfl dX1_claimAll_4 ?_
    refine lv_iload_n hx hb dX1_claimAll_7 rfl (lv_at hl 1 rfl) ?_
    obtain ⟨h1, hF⟩ := o_n hF
    refine va_iald (n := 6) (f := z0.2.2.2.2.1) (cA := cy) hx hb hK hP 3 0 rfl rfl h1 dX1_claimAll_8 ?_
    obtain ⟨v1, e1, hF⟩ := o_l hF
    refine w_top e1 ?_
    refine lv_icmp_ge (tgt := 36) hx hb dX1_claimAll_9 (by decide) (fun c2 => ?_) (fun c2 => ?_)
    · have hF := o_t c2 hF
      refine lv_aload_n hx hb dX1_claimAll_36 rfl (lv_at hl 0 rfl) ?_
      refine va_get (D := G) (ci := 1) (v := .ref (a 3)) (C := RX1) (T := TX1) (N := 10) hx hb hts hin1 hown hK hP 0 rfl rfl 2 (by decide) (hts (.fieldLink RX1 19 "SignalBox" "routeLengths" "[I") (by decide +kernel)) (fun _ h9 => h9) rfl dX1_claimAll_37 ?_
      refine lv_iload_n hx hb dX1_claimAll_40 rfl (lv_at hl 1 rfl) ?_
      obtain ⟨h3, hF⟩ := o_n hF
      refine va_iald (n := 6) (f := z0.2.2.2.2.1) (cA := cy) hx hb hK hP 3 0 rfl rfl h3 dX1_claimAll_41 ?_
      obtain ⟨v3, e3, hF⟩ := o_l hF
      refine w_top e3 ?_
      obtain ⟨rfl, rfl⟩ := o_s hF
      exact rt_i X hr hlocks hP hD hS dX1_claimAll_42
    · have hF := o_f c2 hF
      refine lv_aload_n hx hb dX1_claimAll_12 rfl (lv_at hl 0 rfl) ?_
      refine lv_iload_n hx hb dX1_claimAll_13 rfl (lv_at hl 1 rfl) ?_
      refine lv_iload_n hx hb dX1_claimAll_14 rfl (lv_at hl 2 rfl) ?_
      obtain ⟨r4, z4, hG4, hF⟩ := o_b hF
      refine cl_V (C := RX1) (rest := []) X hK hN hA hP hD hS (kX1_sectionOn l G cy cyO a z0 y1 y2 r4 z4 hG4) (cwV 2 hts gX1_claimAll_X1_sectionOn rfl rfl rfl (by decide +kernel) ⟨Nat.le_of_ble_eq_true rfl, Nat.le_of_ble_eq_true rfl⟩) (va_recv hK hP (ci := 1) (q0 := 0) rfl rfl) rfl hl.1 rfl (Nat.le_of_ble_eq_true rfl) dX1_claimAll_15 ⟨Nat.zero_le _, Nat.zero_le _⟩ (fun H locs hP hD hS => ?_)
      rcases ho4 : r4 with _ | b4
      · have hF := o_mn ho4 hF
        refine w_none rfl ?_
        refine lv_astore_nN (lv' := [(3, .null), (0, .ref (a 0)), (1, .int y1), (2, .int y2)]) hx hb dX1_claimAll_18 rfl hl (by decide) rfl (fun ls hl => ?_)
        refine lv_aload_nN hx hb dX1_claimAll_19 rfl (lv_at hl 0 rfl) ?_
        refine lv_ifnonnullN hx hb dX1_claimAll_20 ?_
        refine lv_iload_n hx hb dX1_claimAll_23 rfl (lv_at hl 3 rfl) ?_
        obtain ⟨rfl, rfl⟩ := o_s hF
        exact rt_i X hr hlocks hP hD hS dX1_claimAll_24
      · have hF := o_ms ho4 hF
        refine w_some rfl ?_
        refine lv_astore_n (lv' := [(3, .ref b4), (0, .ref (a 0)), (1, .int y1), (2, .int y2)]) hx hb dX1_claimAll_18 rfl hl (by decide) rfl (fun ls hl => ?_)
        refine lv_aload_n hx hb dX1_claimAll_19 rfl (lv_at hl 0 rfl) ?_
        refine lv_ifnonnull (tgt := 25) hx hb dX1_claimAll_20 (by decide) ?_
        refine lv_aload_n hx hb dX1_claimAll_25 rfl (lv_at hl 1 rfl) ?_
        refine lv_aload_n hx hb dX1_claimAll_26 rfl (lv_at hl 0 rfl) ?_
        obtain ⟨r5, z5, hG5, hF⟩ := o_b hF
        refine cl_V (C := RX1) (rest := []) X hK hN hA hP hD hS (kX1_claim l G cy cyO a z4 b4 r5 z5 hG5) (cwV 1 hts gX1_claimAll_X1_claim rfl rfl rfl (by decide +kernel) ⟨Nat.le_of_ble_eq_true rfl, Nat.le_of_ble_eq_true rfl⟩) (va_recv hK hP (ci := 1) (q0 := 0) rfl rfl) rfl hl.1 rfl (Nat.le_of_ble_eq_true rfl) dX1_claimAll_27 ⟨Nat.zero_le _, Nat.zero_le _⟩ (fun H locs hP hD hS => ?_)
        refine W.eq (g2 := F0 m 30 ls []) rfl ?_
        refine lv_iinc (v := y2 + 1) (lv' := [(2, .int (y2 + 1)), (3, .ref b4), (0, .ref (a 0)), (1, .int y1)]) hx hb dX1_claimAll_30 hl (k := 3) rfl rfl (by decide) rfl (fun ls hl => ?_)
        refine lv_goto (tgt := 2) hx hb dX1_claimAll_33 (by decide) ?_
        exact ih z5 y1 (y2 + 1) hF H locs hP hD hS ls (lv_sub hl [2, 3, 0] rfl)
def fX1_claimAll (z0 : SC) (x1 : Int32) : Option (Int32 × SC) := (fX1_claimAll_j2 20 z0 x1 0)
set_option maxRecDepth 100000 in
set_option maxHeartbeats 4000000 in
theorem kX1_claimAll (l : Launch) (G : va_G) (cy cyO : ClassId) (a : Nat → Nat) (z0 : SC) (x1 : Int32) (r : Int32) (u : SC) (hF : fX1_claimAll z0 x1 = some (r, u)) : Ct l G (tys_ cy cyO) yX1_claimAll wsX1_claimAll ({ frames := 1, cells := 0, slots := 0, locals := 22 } : Room) [.ref (a 0), .int x1] (cW a cy cyO z0) (some (.int r)) (cW a cy cyO u) := by
  unfold fX1_claimAll at hF
  refine ct_of (cc := cX1_claimAll) (maxL := 4) (ret := (some .int)) (own := RX1) (by decide) rfl (Nat.le_of_ble_eq_true rfl) rfl ?_
  intro p e s m below meth c A ls X hr hlocks _ hK hN hA hP hD hl
  have hS : va_S A s.heap s.heap [] := va_S.rf
  have hl : lv_has ls 4 [(0, .ref (a 0)), (1, .int x1)] := hl
  obtain ⟨hx, hb, hml, hown, hts⟩ := id X
  have hin1 : ∀ w ∈ wsX10, w ∈ wsX1_claimAll := by decide +kernel
  refine lv_iconst (v := 0) hx hb dX1_claimAll_0 (by decide) ?_
  refine lv_istore_n (lv' := [(2, .int 0), (0, .ref (a 0)), (1, .int x1)]) hx hb dX1_claimAll_1 rfl hl (by decide) rfl (fun ls hl => ?_)
  exact jX1_claimAll_2 X hr hlocks hK hN hA 20 z0 x1 0 hF s.heap [] hP hD hS ls (lv_sub hl [1, 2, 0] rfl)
def fX1_letAll_j27 (K4 : SC → Int32 → Int32 → Option (Int32 × SC)) (z0 : SC) (y1 : Int32) (y3 : Int32) : Option (Int32 × SC) := (K4 z0 y1 (y3 + (-1)))
set_option maxRecDepth 100000 in
set_option maxHeartbeats 4000000 in
theorem jX1_letAll_27 {p : Program} {l : Launch} {e : Env} {s : State} {m : MethodId} {args : Array Value} {below : List Frame} {meth : Method} {c : Code} {G : va_G} {cy cyO : ClassId} {a : Nat → Nat} {A : Nat → Prop} {r : Int32} {u : SC} (X : CallFix p m c cX1_letAll 5 s args wsX1_letAll RX1) (hr : meth.sig.returnType = none) (hlocks : meth.locks = false) (hK : va_K G vwCl (tys_ cy cyO) s) (hN : nw s) (hA : ∀ q, s.heap.size ≤ q → A q) (K4 : SC → Int32 → Int32 → Option (Int32 × SC)) (hK4 : ∀ (z0 : SC) (y1 : Int32) (y3 : Int32), K4 z0 y1 y3 = some (r, u) → ∀ (H : Heap) (locs : List Loc), va_P G vwCl (cW a cy cyO z0) H → va_D A (cW a cy cyO z0) → va_S A s.heap H locs → ∀ (ls : Array Slot), lv_has ls 5 [(0, .ref (a 0)), (1, .int y1), (3, .int y3)] → W p l e ({ frames := 1, cells := 0, slots := 0, locals := 22 } : Room) s m args below meth c H locs 0 0 (MQ below (qg none (fun t => wPost G A (cW a cy cyO u) t) A) args s 0 0 A) (F0 m 4 ls [])) : ∀ (z0 : SC) (y1 : Int32) (y3 : Int32), fX1_letAll_j27 K4 z0 y1 y3 = some (r, u) → ∀ (H : Heap) (locs : List Loc), va_P G vwCl (cW a cy cyO z0) H → va_D A (cW a cy cyO z0) → va_S A s.heap H locs → ∀ (ls : Array Slot), lv_has ls 5 [(0, .ref (a 0)), (1, .int y1), (3, .int y3)] → W p l e ({ frames := 1, cells := 0, slots := 0, locals := 22 } : Room) s m args below meth c H locs 0 0 (MQ below (qg none (fun t => wPost G A (cW a cy cyO u) t) A) args s 0 0 A) (F0 m 27 ls []) := by
  obtain ⟨hx, hb, hml, hown, hts⟩ := id X
  intro z0 y1 y3 hF H locs hP hD hS ls hl
  unfold fX1_letAll_j27 at hF
  refine lv_iinc (v := y3 + (-1)) (lv' := [(3, .int (y3 + (-1))), (0, .ref (a 0)), (1, .int y1)]) hx hb dX1_letAll_27 hl (k := 2) rfl rfl (by decide) rfl (fun ls hl => ?_)
  refine lv_goto (tgt := 4) hx hb dX1_letAll_30 (by decide) ?_
  exact hK4 z0 y1 (y3 + (-1)) hF H locs hP hD hS ls (lv_sub hl [1, 2, 0] rfl)
def fX1_letAll_j4 : Nat → SC → Int32 → Int32 → Option (Int32 × SC)
  | 0, _, _, _ => none
  | n + 1, z0, y1, y3 => (if y3 < 0 then some (0, z0) else bd_ (fX1_sectionOn z0 y1 y3) (fun r2 z2 => (opt_ (r2) ((fX1_letAll_j27 (fX1_letAll_j4 n) z2 y1 y3)) (fun b2 => bd_ (fX1_let z2 b2) (fun r3 z3 => (fX1_letAll_j27 (fX1_letAll_j4 n) z3 y1 y3))))))
set_option maxRecDepth 100000 in
set_option maxHeartbeats 4000000 in
theorem jX1_letAll_4 {p : Program} {l : Launch} {e : Env} {s : State} {m : MethodId} {args : Array Value} {below : List Frame} {meth : Method} {c : Code} {G : va_G} {cy cyO : ClassId} {a : Nat → Nat} {A : Nat → Prop} {r : Int32} {u : SC} (X : CallFix p m c cX1_letAll 5 s args wsX1_letAll RX1) (hr : meth.sig.returnType = none) (hlocks : meth.locks = false) (hK : va_K G vwCl (tys_ cy cyO) s) (hN : nw s) (hA : ∀ q, s.heap.size ≤ q → A q) : ∀ n : Nat, ∀ (z0 : SC) (y1 : Int32) (y3 : Int32), fX1_letAll_j4 n z0 y1 y3 = some (r, u) → ∀ (H : Heap) (locs : List Loc), va_P G vwCl (cW a cy cyO z0) H → va_D A (cW a cy cyO z0) → va_S A s.heap H locs → ∀ (ls : Array Slot), lv_has ls 5 [(0, .ref (a 0)), (1, .int y1), (3, .int y3)] → W p l e ({ frames := 1, cells := 0, slots := 0, locals := 22 } : Room) s m args below meth c H locs 0 0 (MQ below (qg none (fun t => wPost G A (cW a cy cyO u) t) A) args s 0 0 A) (F0 m 4 ls []) := by
  obtain ⟨hx, hb, hml, hown, hts⟩ := id X
  intro n
  induction n with
  | zero => intro z0 y1 y3 hF; cases hF
  | succ n ih =>
    intro z0 y1 y3 hF H locs hP hD hS ls hl
    rw [fX1_letAll_j4] at hF
    refine lv_iload_n hx hb dX1_letAll_4 rfl (lv_at hl 2 rfl) ?_
    refine lv_if_lt (tgt := 33) hx hb dX1_letAll_5 (by decide) (fun c1 => ?_) (fun c1 => ?_)
    · have hF := o_t c1 hF
      obtain ⟨rfl, rfl⟩ := o_s hF
      exact rt_v X hr hlocks hP hD hS dX1_letAll_33
    · have hF := o_f c1 hF
      refine lv_aload_n hx hb dX1_letAll_8 rfl (lv_at hl 0 rfl) ?_
      refine lv_iload_n hx hb dX1_letAll_9 rfl (lv_at hl 1 rfl) ?_
      refine lv_iload_n hx hb dX1_letAll_10 rfl (lv_at hl 2 rfl) ?_
      obtain ⟨r2, z2, hG2, hF⟩ := o_b hF
      refine cl_V (C := RX1) (rest := []) X hK hN hA hP hD hS (kX1_sectionOn l G cy cyO a z0 y1 y3 r2 z2 hG2) (cwV 2 hts gX1_letAll_X1_sectionOn rfl rfl rfl (by decide +kernel) ⟨Nat.le_of_ble_eq_true rfl, Nat.le_of_ble_eq_true rfl⟩) (va_recv hK hP (ci := 1) (q0 := 0) rfl rfl) rfl hl.1 rfl (Nat.le_of_ble_eq_true rfl) dX1_letAll_11 ⟨Nat.zero_le _, Nat.zero_le _⟩ (fun H locs hP hD hS => ?_)
      rcases ho2 : r2 with _ | b2
      · have hF := o_mn ho2 hF
        refine w_none rfl ?_
        refine lv_astoreN (lv' := [(4, .null), (0, .ref (a 0)), (1, .int y1), (3, .int y3)]) hx hb dX1_letAll_14 hl (by decide) rfl (fun ls hl => ?_)
        refine lv_aloadN hx hb dX1_letAll_16 (lv_at hl 0 rfl) ?_
        refine lv_ifnullN (tgt := 27) hx hb dX1_letAll_18 (by decide) ?_
        exact jX1_letAll_27 X hr hlocks hK hN hA (fX1_letAll_j4 n) ih z2 y1 y3 hF H locs hP hD hS ls (lv_sub hl [1, 2, 3] rfl)
      · have hF := o_ms ho2 hF
        refine w_some rfl ?_
        refine lv_astore (lv' := [(4, .ref b2), (0, .ref (a 0)), (1, .int y1), (3, .int y3)]) hx hb dX1_letAll_14 hl (by decide) rfl (fun ls hl => ?_)
        refine lv_aload hx hb dX1_letAll_16 (lv_at hl 0 rfl) ?_
        refine lv_ifnull hx hb dX1_letAll_18 ?_
        refine lv_aload_n hx hb dX1_letAll_21 rfl (lv_at hl 1 rfl) ?_
        refine lv_aload hx hb dX1_letAll_22 (lv_at hl 0 rfl) ?_
        obtain ⟨r3, z3, hG3, hF⟩ := o_b hF
        refine cl_V (C := RX1) (rest := []) X hK hN hA hP hD hS (kX1_let l G cy cyO a z2 b2 r3 z3 hG3) (cwV 1 hts gX1_letAll_X1_let rfl rfl rfl (by decide +kernel) ⟨Nat.le_of_ble_eq_true rfl, Nat.le_of_ble_eq_true rfl⟩) (va_recv hK hP (ci := 1) (q0 := 0) rfl rfl) rfl hl.1 rfl (Nat.le_of_ble_eq_true rfl) dX1_letAll_24 ⟨Nat.zero_le _, Nat.zero_le _⟩ (fun H locs hP hD hS => ?_)
        refine W.eq (g2 := F0 m 27 ls []) rfl ?_
        exact jX1_letAll_27 X hr hlocks hK hN hA (fX1_letAll_j4 n) ih z3 y1 y3 hF H locs hP hD hS ls (lv_sub hl [1, 2, 3] rfl)
def fX1_letAll (z0 : SC) (x1 : Int32) (x2 : Int32) : Option (Int32 × SC) := (fX1_letAll_j4 20 z0 x1 (x2 - 1))
set_option maxRecDepth 100000 in
set_option maxHeartbeats 4000000 in
theorem kX1_letAll (l : Launch) (G : va_G) (cy cyO : ClassId) (a : Nat → Nat) (z0 : SC) (x1 : Int32) (x2 : Int32) (r : Int32) (u : SC) (hF : fX1_letAll z0 x1 x2 = some (r, u)) : Ct l G (tys_ cy cyO) yX1_letAll wsX1_letAll ({ frames := 1, cells := 0, slots := 0, locals := 22 } : Room) [.ref (a 0), .int x1, .int x2] (cW a cy cyO z0) none (cW a cy cyO u) := by
  unfold fX1_letAll at hF
  refine ct_of (cc := cX1_letAll) (maxL := 5) (ret := none) (own := RX1) (by decide) rfl (Nat.le_of_ble_eq_true rfl) rfl ?_
  intro p e s m below meth c A ls X hr hlocks _ hK hN hA hP hD hl
  have hS : va_S A s.heap s.heap [] := va_S.rf
  have hl : lv_has ls 5 [(0, .ref (a 0)), (1, .int x1), (2, .int x2)] := hl
  obtain ⟨hx, hb, hml, hown, hts⟩ := id X
  refine lv_iload_n hx hb dX1_letAll_0 rfl (lv_at hl 2 rfl) ?_
  refine lv_iconst (v := 1) hx hb dX1_letAll_1 (by decide) ?_
  refine lv_isub hx hb dX1_letAll_2 ?_
  refine lv_istore_n (lv' := [(3, .int (x2 - 1)), (0, .ref (a 0)), (1, .int x1), (2, .int x2)]) hx hb dX1_letAll_3 rfl hl (by decide) rfl (fun ls hl => ?_)
  exact jX1_letAll_4 X hr hlocks hK hN hA 20 z0 x1 (x2 - 1) hF s.heap [] hP hD hS ls (lv_sub hl [1, 2, 0] rfl)
def fX1_goAll_j73 (K36 : SC → Int32 → Int32 → Int32 → Int32 → Int32 → Int32 → Option (Int32 × SC)) (z0 : SC) (y1 : Int32) (y2 : Int32) (y3 : Int32) (y6 : Int32) (t0 : Int32) : Option (Int32 × SC) := bd_ (fX1_answerTo z0 t0 y6) (fun r1 z1 => (K36 z1 y1 y2 y3 t0 r1 (y6 + 1)))
set_option maxRecDepth 100000 in
set_option maxHeartbeats 4000000 in
theorem jX1_goAll_73 {p : Program} {l : Launch} {e : Env} {s : State} {m : MethodId} {args : Array Value} {below : List Frame} {meth : Method} {c : Code} {G : va_G} {cy cyO : ClassId} {a : Nat → Nat} {A : Nat → Prop} {r : Int32} {u : SC} (X : CallFix p m c cX1_goAll 8 s args wsX1_goAll RX1) (hr : meth.sig.returnType = (some .int)) (hlocks : meth.locks = false) (hK : va_K G vwCl (tys_ cy cyO) s) (hN : nw s) (hA : ∀ q, s.heap.size ≤ q → A q) (K36 : SC → Int32 → Int32 → Int32 → Int32 → Int32 → Int32 → Option (Int32 × SC)) (hK36 : ∀ (z0 : SC) (y1 : Int32) (y2 : Int32) (y3 : Int32) (y4 : Int32) (y5 : Int32) (y6 : Int32), K36 z0 y1 y2 y3 y4 y5 y6 = some (r, u) → ∀ (H : Heap) (locs : List Loc), va_P G vwCl (cW a cy cyO z0) H → va_D A (cW a cy cyO z0) → va_S A s.heap H locs → ∀ (ls : Array Slot), lv_has ls 8 [(0, .ref (a 0)), (1, .int y1), (2, .int y2), (3, .int y3), (4, .int y4), (5, .int y5), (6, .int y6)] → W p l e ({ frames := 5, cells := 0, slots := 0, locals := 113 } : Room) s m args below meth c H locs 0 0 (MQ below (qg (some (.int r)) (fun t => wPost G A (cW a cy cyO u) t) A) args s 0 0 A) (F0 m 36 ls [])) : ∀ (z0 : SC) (y1 : Int32) (y2 : Int32) (y3 : Int32) (y6 : Int32) (t0 : Int32), fX1_goAll_j73 K36 z0 y1 y2 y3 y6 t0 = some (r, u) → ∀ (H : Heap) (locs : List Loc), va_P G vwCl (cW a cy cyO z0) H → va_D A (cW a cy cyO z0) → va_S A s.heap H locs → ∀ (ls : Array Slot), lv_has ls 8 [(0, .ref (a 0)), (1, .int y1), (2, .int y2), (3, .int y3), (6, .int y6)] → W p l e ({ frames := 5, cells := 0, slots := 0, locals := 113 } : Room) s m args below meth c H locs 0 0 (MQ below (qg (some (.int r)) (fun t => wPost G A (cW a cy cyO u) t) A) args s 0 0 A) (F0 m 73 ls [.int t0]) := by
  obtain ⟨hx, hb, hml, hown, hts⟩ := id X
  have hin1 : ∀ w ∈ wsX10, w ∈ wsX1_goAll := by decide +kernel
  intro z0 y1 y2 y3 y6 t0 hF H locs hP hD hS ls hl
  unfold fX1_goAll_j73 at hF
  refine lv_istore (lv' := [(4, .int t0), (0, .ref (a 0)), (1, .int y1), (2, .int y2), (3, .int y3), (6, .int y6)]) hx hb dX1_goAll_73 hl (by decide) rfl (fun ls hl => ?_)
  refine lv_aload_n hx hb dX1_goAll_75 rfl (lv_at hl 1 rfl) ?_
  refine lv_iload hx hb dX1_goAll_76 (lv_at hl 0 rfl) ?_
  refine lv_iload hx hb dX1_goAll_78 (lv_at hl 5 rfl) ?_
  obtain ⟨r1, z1, hG1, hF⟩ := o_b hF
  refine cl_V (C := RX1) (rest := []) X hK hN hA hP hD hS (kX1_answerTo l G cy cyO a z0 t0 y6 r1 z1 hG1) (cwV 2 hts gX1_goAll_X1_answerTo rfl rfl rfl (by decide +kernel) ⟨Nat.le_of_ble_eq_true rfl, Nat.le_of_ble_eq_true rfl⟩) (va_recv hK hP (ci := 1) (q0 := 0) rfl rfl) rfl hl.1 rfl (Nat.le_of_ble_eq_true rfl) dX1_goAll_80 ⟨Nat.zero_le _, Nat.zero_le _⟩ (fun H locs hP hD hS => ?_)
  refine W.eq (g2 := F0 m 83 ls [.int r1]) rfl ?_
  refine lv_istore (lv' := [(5, .int r1), (4, .int t0), (0, .ref (a 0)), (1, .int y1), (2, .int y2), (3, .int y3), (6, .int y6)]) hx hb dX1_goAll_83 hl (by decide) rfl (fun ls hl => ?_)
  refine lv_iinc (v := y6 + 1) (lv' := [(6, .int (y6 + 1)), (5, .int r1), (4, .int t0), (0, .ref (a 0)), (1, .int y1), (2, .int y2), (3, .int y3)]) hx hb dX1_goAll_85 hl (k := 6) rfl rfl (by decide) rfl (fun ls hl => ?_)
  refine lv_goto (tgt := 36) hx hb dX1_goAll_88 (by decide) ?_
  exact hK36 z1 y1 y2 y3 t0 r1 (y6 + 1) hF H locs hP hD hS ls (lv_sub hl [3, 4, 5, 6, 2, 1, 0] rfl)
def fX1_goAll_j36 : Nat → SC → Int32 → Int32 → Int32 → Int32 → Int32 → Int32 → Option (Int32 × SC)
  | 0, _, _, _, _, _, _, _ => none
  | n + 1, z0, y1, y2, y3, y4, y5, y6 => (if y3 ≤ y6 then bd_ (fX1_letAll z0 y1 y3) (fun r2 z2 => some (y5, z2)) else (if y4 = 0 then bd_ (fX1_sectionOn z0 y1 y6) (fun r5 z5 => (opt_ (r5) ((fX1_goAll_j73 (fX1_goAll_j36 n) z5 y1 y2 y3 y6 (-11))) (fun b5 => bd_ (fX1_pass z5 b5 y2) (fun r6 z6 => (fX1_goAll_j73 (fX1_goAll_j36 n) z6 y1 y2 y3 y6 r6))))) else bd_ (fX1_letAll z0 y1 y3) (fun r4 z4 => some (y5, z4))))
set_option maxRecDepth 100000 in
set_option maxHeartbeats 4000000 in
theorem jX1_goAll_36 {p : Program} {l : Launch} {e : Env} {s : State} {m : MethodId} {args : Array Value} {below : List Frame} {meth : Method} {c : Code} {G : va_G} {cy cyO : ClassId} {a : Nat → Nat} {A : Nat → Prop} {r : Int32} {u : SC} (X : CallFix p m c cX1_goAll 8 s args wsX1_goAll RX1) (hr : meth.sig.returnType = (some .int)) (hlocks : meth.locks = false) (hK : va_K G vwCl (tys_ cy cyO) s) (hN : nw s) (hA : ∀ q, s.heap.size ≤ q → A q) : ∀ n : Nat, ∀ (z0 : SC) (y1 : Int32) (y2 : Int32) (y3 : Int32) (y4 : Int32) (y5 : Int32) (y6 : Int32), fX1_goAll_j36 n z0 y1 y2 y3 y4 y5 y6 = some (r, u) → ∀ (H : Heap) (locs : List Loc), va_P G vwCl (cW a cy cyO z0) H → va_D A (cW a cy cyO z0) → va_S A s.heap H locs → ∀ (ls : Array Slot), lv_has ls 8 [(0, .ref (a 0)), (1, .int y1), (2, .int y2), (3, .int y3), (4, .int y4), (5, .int y5), (6, .int y6)] → W p l e ({ frames := 5, cells := 0, slots := 0, locals := 113 } : Room) s m args below meth c H locs 0 0 (MQ below (qg (some (.int r)) (fun t => wPost G A (cW a cy cyO u) t) A) args s 0 0 A) (F0 m 36 ls []) := by
  obtain ⟨hx, hb, hml, hown, hts⟩ := id X
  have hin1 : ∀ w ∈ wsX10, w ∈ wsX1_goAll := by decide +kernel
  intro n
  induction n with
  | zero => intro z0 y1 y2 y3 y4 y5 y6 hF; cases hF
  | succ n ih =>
    intro z0 y1 y2 y3 y4 y5 y6 hF H locs hP hD hS ls hl
    rw [fX1_goAll_j36] at hF
    refine lv_iload hx hb dX1_goAll_36 (lv_at hl 6 rfl) ?_
    refine lv_iload_n hx hb dX1_goAll_38 rfl (lv_at hl 3 rfl) ?_
    refine lv_icmp_ge (tgt := 91) hx hb dX1_goAll_39 (by decide) (fun c1 => ?_) (fun c1 => ?_)
    · have hF := o_t c1 hF
      refine lv_aload_n hx hb dX1_goAll_91 rfl (lv_at hl 0 rfl) ?_
      refine lv_iload_n hx hb dX1_goAll_92 rfl (lv_at hl 1 rfl) ?_
      refine lv_iload_n hx hb dX1_goAll_93 rfl (lv_at hl 3 rfl) ?_
      obtain ⟨r2, z2, hG2, hF⟩ := o_b hF
      refine cl_V (C := RX1) (rest := []) X hK hN hA hP hD hS (kX1_letAll l G cy cyO a z0 y1 y3 r2 z2 hG2) (cwV 2 hts gX1_goAll_X1_letAll rfl rfl rfl (by decide +kernel) ⟨Nat.le_of_ble_eq_true rfl, Nat.le_of_ble_eq_true rfl⟩) (va_recv hK hP (ci := 1) (q0 := 0) rfl rfl) rfl hl.1 rfl (Nat.le_of_ble_eq_true rfl) dX1_goAll_94 ⟨Nat.zero_le _, Nat.zero_le _⟩ (fun H locs hP hD hS => ?_)
      refine W.eq (g2 := F0 m 97 ls []) rfl ?_
      refine lv_iload hx hb dX1_goAll_97 (lv_at hl 5 rfl) ?_
      obtain ⟨rfl, rfl⟩ := o_s hF
      exact rt_i X hr hlocks hP hD hS dX1_goAll_99
    · have hF := o_f c1 hF
      refine lv_iload hx hb dX1_goAll_42 (lv_at hl 4 rfl) ?_
      refine lv_if_ne (tgt := 91) hx hb dX1_goAll_44 (by decide) (fun c3 => ?_) (fun c3 => ?_)
      · have hF := o_f c3 hF
        refine lv_aload_n hx hb dX1_goAll_91 rfl (lv_at hl 0 rfl) ?_
        refine lv_iload_n hx hb dX1_goAll_92 rfl (lv_at hl 1 rfl) ?_
        refine lv_iload_n hx hb dX1_goAll_93 rfl (lv_at hl 3 rfl) ?_
        obtain ⟨r4, z4, hG4, hF⟩ := o_b hF
        refine cl_V (C := RX1) (rest := []) X hK hN hA hP hD hS (kX1_letAll l G cy cyO a z0 y1 y3 r4 z4 hG4) (cwV 2 hts gX1_goAll_X1_letAll rfl rfl rfl (by decide +kernel) ⟨Nat.le_of_ble_eq_true rfl, Nat.le_of_ble_eq_true rfl⟩) (va_recv hK hP (ci := 1) (q0 := 0) rfl rfl) rfl hl.1 rfl (Nat.le_of_ble_eq_true rfl) dX1_goAll_94 ⟨Nat.zero_le _, Nat.zero_le _⟩ (fun H locs hP hD hS => ?_)
        refine W.eq (g2 := F0 m 97 ls []) rfl ?_
        refine lv_iload hx hb dX1_goAll_97 (lv_at hl 5 rfl) ?_
        obtain ⟨rfl, rfl⟩ := o_s hF
        exact rt_i X hr hlocks hP hD hS dX1_goAll_99
      · have hF := o_t c3 hF
        refine lv_aload_n hx hb dX1_goAll_47 rfl (lv_at hl 0 rfl) ?_
        refine lv_iload_n hx hb dX1_goAll_48 rfl (lv_at hl 1 rfl) ?_
        refine lv_iload hx hb dX1_goAll_49 (lv_at hl 6 rfl) ?_
        obtain ⟨r5, z5, hG5, hF⟩ := o_b hF
        refine cl_V (C := RX1) (rest := []) X hK hN hA hP hD hS (kX1_sectionOn l G cy cyO a z0 y1 y6 r5 z5 hG5) (cwV 2 hts gX1_goAll_X1_sectionOn rfl rfl rfl (by decide +kernel) ⟨Nat.le_of_ble_eq_true rfl, Nat.le_of_ble_eq_true rfl⟩) (va_recv hK hP (ci := 1) (q0 := 0) rfl rfl) rfl hl.1 rfl (Nat.le_of_ble_eq_true rfl) dX1_goAll_51 ⟨Nat.zero_le _, Nat.zero_le _⟩ (fun H locs hP hD hS => ?_)
        rcases ho5 : r5 with _ | b5
        · have hF := o_mn ho5 hF
          refine w_none rfl ?_
          refine lv_astoreN (lv' := [(7, .null), (0, .ref (a 0)), (1, .int y1), (2, .int y2), (3, .int y3), (4, .int y4), (5, .int y5), (6, .int y6)]) hx hb dX1_goAll_54 hl (by decide) rfl (fun ls hl => ?_)
          refine lv_aloadN hx hb dX1_goAll_56 (lv_at hl 0 rfl) ?_
          refine lv_ifnonnullN hx hb dX1_goAll_58 ?_
          refine lv_bipush (v := (-11)) hx hb dX1_goAll_61 (by decide) ?_
          refine lv_goto (tgt := 73) hx hb dX1_goAll_63 (by decide) ?_
          exact jX1_goAll_73 X hr hlocks hK hN hA (fX1_goAll_j36 n) ih z5 y1 y2 y3 y6 (-11) hF H locs hP hD hS ls (lv_sub hl [1, 2, 3, 4, 7] rfl)
        · have hF := o_ms ho5 hF
          refine w_some rfl ?_
          refine lv_astore (lv' := [(7, .ref b5), (0, .ref (a 0)), (1, .int y1), (2, .int y2), (3, .int y3), (4, .int y4), (5, .int y5), (6, .int y6)]) hx hb dX1_goAll_54 hl (by decide) rfl (fun ls hl => ?_)
          refine lv_aload hx hb dX1_goAll_56 (lv_at hl 0 rfl) ?_
          refine lv_ifnonnull (tgt := 66) hx hb dX1_goAll_58 (by decide) ?_
          refine lv_aload_n hx hb dX1_goAll_66 rfl (lv_at hl 1 rfl) ?_
          refine lv_aload hx hb dX1_goAll_67 (lv_at hl 0 rfl) ?_
          refine lv_iload_n hx hb dX1_goAll_69 rfl (lv_at hl 3 rfl) ?_
          obtain ⟨r6, z6, hG6, hF⟩ := o_b hF
          refine cl_V (C := RX1) (rest := []) X hK hN hA hP hD hS (kX1_pass l G cy cyO a z5 b5 y2 r6 z6 hG6) (cwV 2 hts gX1_goAll_X1_pass rfl rfl rfl (by decide +kernel) ⟨Nat.le_of_ble_eq_true rfl, Nat.le_of_ble_eq_true rfl⟩) (va_recv hK hP (ci := 1) (q0 := 0) rfl rfl) rfl hl.1 rfl (Nat.le_of_ble_eq_true rfl) dX1_goAll_70 ⟨Nat.zero_le _, Nat.zero_le _⟩ (fun H locs hP hD hS => ?_)
          refine W.eq (g2 := F0 m 73 ls [.int r6]) rfl ?_
          exact jX1_goAll_73 X hr hlocks hK hN hA (fX1_goAll_j36 n) ih z6 y1 y2 y3 y6 r6 hF H locs hP hD hS ls (lv_sub hl [1, 2, 3, 4, 7] rfl)
def fX1_goAll_j22 (z0 : SC) (y1 : Int32) (y2 : Int32) (y3 : Int32) (t0 : Int32) : Option (Int32 × SC) := bd_ (fX1_answerTo z0 t0 0) (fun r1 z1 => (fX1_goAll_j36 20 z1 y1 y2 y3 t0 r1 0))
set_option maxRecDepth 100000 in
set_option maxHeartbeats 4000000 in
theorem jX1_goAll_22 {p : Program} {l : Launch} {e : Env} {s : State} {m : MethodId} {args : Array Value} {below : List Frame} {meth : Method} {c : Code} {G : va_G} {cy cyO : ClassId} {a : Nat → Nat} {A : Nat → Prop} {r : Int32} {u : SC} (X : CallFix p m c cX1_goAll 8 s args wsX1_goAll RX1) (hr : meth.sig.returnType = (some .int)) (hlocks : meth.locks = false) (hK : va_K G vwCl (tys_ cy cyO) s) (hN : nw s) (hA : ∀ q, s.heap.size ≤ q → A q) : ∀ (z0 : SC) (y1 : Int32) (y2 : Int32) (y3 : Int32) (t0 : Int32), fX1_goAll_j22 z0 y1 y2 y3 t0 = some (r, u) → ∀ (H : Heap) (locs : List Loc), va_P G vwCl (cW a cy cyO z0) H → va_D A (cW a cy cyO z0) → va_S A s.heap H locs → ∀ (ls : Array Slot), lv_has ls 8 [(0, .ref (a 0)), (1, .int y1), (2, .int y2), (3, .int y3)] → W p l e ({ frames := 5, cells := 0, slots := 0, locals := 113 } : Room) s m args below meth c H locs 0 0 (MQ below (qg (some (.int r)) (fun t => wPost G A (cW a cy cyO u) t) A) args s 0 0 A) (F0 m 22 ls [.int t0]) := by
  obtain ⟨hx, hb, hml, hown, hts⟩ := id X
  have hin1 : ∀ w ∈ wsX10, w ∈ wsX1_goAll := by decide +kernel
  intro z0 y1 y2 y3 t0 hF H locs hP hD hS ls hl
  unfold fX1_goAll_j22 at hF
  refine lv_istore (lv' := [(4, .int t0), (0, .ref (a 0)), (1, .int y1), (2, .int y2), (3, .int y3)]) hx hb dX1_goAll_22 hl (by decide) rfl (fun ls hl => ?_)
  refine lv_aload_n hx hb dX1_goAll_24 rfl (lv_at hl 1 rfl) ?_
  refine lv_iload hx hb dX1_goAll_25 (lv_at hl 0 rfl) ?_
  refine lv_iconst (v := 0) hx hb dX1_goAll_27 (by decide) ?_
  obtain ⟨r1, z1, hG1, hF⟩ := o_b hF
  refine cl_V (C := RX1) (rest := []) X hK hN hA hP hD hS (kX1_answerTo l G cy cyO a z0 t0 0 r1 z1 hG1) (cwV 2 hts gX1_goAll_X1_answerTo rfl rfl rfl (by decide +kernel) ⟨Nat.le_of_ble_eq_true rfl, Nat.le_of_ble_eq_true rfl⟩) (va_recv hK hP (ci := 1) (q0 := 0) rfl rfl) rfl hl.1 rfl (Nat.le_of_ble_eq_true rfl) dX1_goAll_28 ⟨Nat.zero_le _, Nat.zero_le _⟩ (fun H locs hP hD hS => ?_)
  refine W.eq (g2 := F0 m 31 ls [.int r1]) rfl ?_
  refine lv_istore (lv' := [(5, .int r1), (4, .int t0), (0, .ref (a 0)), (1, .int y1), (2, .int y2), (3, .int y3)]) hx hb dX1_goAll_31 hl (by decide) rfl (fun ls hl => ?_)
  refine lv_iconst (v := 0) hx hb dX1_goAll_33 (by decide) ?_
  refine lv_istore (lv' := [(6, .int 0), (5, .int r1), (4, .int t0), (0, .ref (a 0)), (1, .int y1), (2, .int y2), (3, .int y3)]) hx hb dX1_goAll_34 hl (by decide) rfl (fun ls hl => ?_)
  exact jX1_goAll_36 X hr hlocks hK hN hA 20 z1 y1 y2 y3 t0 r1 0 hF H locs hP hD hS ls (lv_sub hl [3, 4, 5, 6, 2, 1, 0] rfl)
def fX1_goAll (z0 : SC) (x1 : Int32) (x2 : Int32) : Option (Int32 × SC) := bd_ (fX1_claimAll z0 x1) (fun r1 z1 => if x1 < 0 ∨ 6 ≤ x1.toNatClampNeg then none else let_ (z1.2.2.2.2.1 x1.toNatClampNeg) (fun v2 => (if v2 ≤ r1 then (fX1_goAll_j22 z1 x1 x2 r1 0) else (fX1_goAll_j22 z1 x1 x2 r1 (-11)))))
set_option maxRecDepth 100000 in
set_option maxHeartbeats 4000000 in
theorem kX1_goAll (l : Launch) (G : va_G) (cy cyO : ClassId) (a : Nat → Nat) (z0 : SC) (x1 : Int32) (x2 : Int32) (r : Int32) (u : SC) (hF : fX1_goAll z0 x1 x2 = some (r, u)) : Ct l G (tys_ cy cyO) yX1_goAll wsX1_goAll ({ frames := 5, cells := 0, slots := 0, locals := 113 } : Room) [.ref (a 0), .int x1, .int x2] (cW a cy cyO z0) (some (.int r)) (cW a cy cyO u) := by
  unfold fX1_goAll at hF
  refine ct_of (cc := cX1_goAll) (maxL := 8) (ret := (some .int)) (own := RX1) (by decide) rfl (Nat.le_of_ble_eq_true rfl) rfl ?_
  intro p e s m below meth c A ls X hr hlocks _ hK hN hA hP hD hl
  have hS : va_S A s.heap s.heap [] := va_S.rf
  have hl : lv_has ls 8 [(0, .ref (a 0)), (1, .int x1), (2, .int x2)] := hl
  obtain ⟨hx, hb, hml, hown, hts⟩ := id X
  have hin1 : ∀ w ∈ wsX10, w ∈ wsX1_goAll := by decide +kernel
  refine lv_aload_n hx hb dX1_goAll_0 rfl (lv_at hl 0 rfl) ?_
  refine lv_iload_n hx hb dX1_goAll_1 rfl (lv_at hl 1 rfl) ?_
  obtain ⟨r1, z1, hG1, hF⟩ := o_b hF
  refine cl_V (C := RX1) (rest := []) X hK hN hA hP hD hS (kX1_claimAll l G cy cyO a z0 x1 r1 z1 hG1) (cwV 1 hts gX1_goAll_X1_claimAll rfl rfl rfl (by decide +kernel) ⟨Nat.le_of_ble_eq_true rfl, Nat.le_of_ble_eq_true rfl⟩) (va_recv hK hP (ci := 1) (q0 := 0) rfl rfl) rfl hl.1 rfl (Nat.le_of_ble_eq_true rfl) dX1_goAll_2 ⟨Nat.zero_le _, Nat.zero_le _⟩ (fun H locs hP hD hS => ?_)
  refine W.eq (g2 := F0 m 5 ls [.int r1]) rfl ?_
  refine lv_istore_n (lv' := [(3, .int r1), (0, .ref (a 0)), (1, .int x1), (2, .int x2)]) hx hb dX1_goAll_5 rfl hl (by decide) rfl (fun ls hl => ?_)
  refine lv_iload_n hx hb dX1_goAll_6 rfl (lv_at hl 0 rfl) ?_
  refine lv_aload_n hx hb dX1_goAll_7 rfl (lv_at hl 1 rfl) ?_
  refine va_get (D := G) (ci := 1) (v := .ref (a 3)) (C := RX1) (T := TX1) (N := 10) hx hb hts hin1 hown hK hP 0 rfl rfl 2 (by decide) (hts (.fieldLink RX1 19 "SignalBox" "routeLengths" "[I") (by decide +kernel)) (fun _ h9 => h9) rfl dX1_goAll_8 ?_
  refine lv_iload_n hx hb dX1_goAll_11 rfl (lv_at hl 2 rfl) ?_
  obtain ⟨h2, hF⟩ := o_n hF
  refine va_iald (n := 6) (f := z1.2.2.2.2.1) (cA := cy) hx hb hK hP 3 0 rfl rfl h2 dX1_goAll_12 ?_
  obtain ⟨v2, e2, hF⟩ := o_l hF
  refine w_top e2 ?_
  refine lv_icmp_ge (tgt := 21) hx hb dX1_goAll_13 (by decide) (fun c3 => ?_) (fun c3 => ?_)
  · have hF := o_t c3 hF
    refine lv_iconst (v := 0) hx hb dX1_goAll_21 (by decide) ?_
    exact jX1_goAll_22 X hr hlocks hK hN hA z1 x1 x2 r1 0 hF H locs hP hD hS ls (lv_sub hl [1, 2, 3, 0] rfl)
  · have hF := o_f c3 hF
    refine lv_bipush (v := (-11)) hx hb dX1_goAll_16 (by decide) ?_
    refine lv_goto (tgt := 22) hx hb dX1_goAll_18 (by decide) ?_
    exact jX1_goAll_22 X hr hlocks hK hN hA z1 x1 x2 r1 (-11) hF H locs hP hD hS ls (lv_sub hl [1, 2, 3, 0] rfl)
def fX1_goFirst_j95 (K2 : SC → Int32 → Int32 → Int32 → Option (Int32 × SC)) (z0 : SC) (y1 : Int32) (y2 : Int32) (y3 : Int32) : Option (Int32 × SC) := (K2 z0 y1 y2 (y3 + 1))
set_option maxRecDepth 100000 in
set_option maxHeartbeats 4000000 in
theorem jX1_goFirst_95 {p : Program} {l : Launch} {e : Env} {s : State} {m : MethodId} {args : Array Value} {below : List Frame} {meth : Method} {c : Code} {G : va_G} {cy cyO : ClassId} {a : Nat → Nat} {A : Nat → Prop} {r : Int32} {u : SC} (X : CallFix p m c cX1_goFirst 7 s args wsX1_goFirst RX1) (hr : meth.sig.returnType = (some .int)) (hlocks : meth.locks = false) (hK : va_K G vwCl (tys_ cy cyO) s) (hN : nw s) (hA : ∀ q, s.heap.size ≤ q → A q) (K2 : SC → Int32 → Int32 → Int32 → Option (Int32 × SC)) (hK2 : ∀ (z0 : SC) (y1 : Int32) (y2 : Int32) (y3 : Int32), K2 z0 y1 y2 y3 = some (r, u) → ∀ (H : Heap) (locs : List Loc), va_P G vwCl (cW a cy cyO z0) H → va_D A (cW a cy cyO z0) → va_S A s.heap H locs → ∀ (ls : Array Slot), lv_has ls 7 [(0, .ref (a 0)), (1, .int y1), (2, .int y2), (3, .int y3)] → W p l e ({ frames := 5, cells := 0, slots := 0, locals := 113 } : Room) s m args below meth c H locs 0 0 (MQ below (qg (some (.int r)) (fun t => wPost G A (cW a cy cyO u) t) A) args s 0 0 A) (F0 m 2 ls [])) : ∀ (z0 : SC) (y1 : Int32) (y2 : Int32) (y3 : Int32), fX1_goFirst_j95 K2 z0 y1 y2 y3 = some (r, u) → ∀ (H : Heap) (locs : List Loc), va_P G vwCl (cW a cy cyO z0) H → va_D A (cW a cy cyO z0) → va_S A s.heap H locs → ∀ (ls : Array Slot), lv_has ls 7 [(0, .ref (a 0)), (1, .int y1), (2, .int y2), (3, .int y3)] → W p l e ({ frames := 5, cells := 0, slots := 0, locals := 113 } : Room) s m args below meth c H locs 0 0 (MQ below (qg (some (.int r)) (fun t => wPost G A (cW a cy cyO u) t) A) args s 0 0 A) (F0 m 95 ls []) := by
  obtain ⟨hx, hb, hml, hown, hts⟩ := id X
  have hin1 : ∀ w ∈ wsX10, w ∈ wsX1_goFirst := by decide +kernel
  have hin0 : ∀ w ∈ wsX00, w ∈ wsX1_goFirst := by decide +kernel
  intro z0 y1 y2 y3 hF H locs hP hD hS ls hl
  unfold fX1_goFirst_j95 at hF
  refine lv_iinc (v := y3 + 1) (lv' := [(3, .int (y3 + 1)), (0, .ref (a 0)), (1, .int y1), (2, .int y2)]) hx hb dX1_goFirst_95 hl (k := 3) rfl rfl (by decide) rfl (fun ls hl => ?_)
  refine lv_goto (tgt := 2) hx hb dX1_goFirst_98 (by decide) ?_
  exact hK2 z0 y1 y2 (y3 + 1) hF H locs hP hD hS ls (lv_sub hl [1, 2, 3, 0] rfl)
def fX1_goFirst_j74 (K2 : SC → Int32 → Int32 → Int32 → Option (Int32 × SC)) (z0 : SC) (y1 : Int32) (y2 : Int32) (y3 : Int32) (w4 : Nat) (y5 : Int32) (t0 : Int32) : Option (Int32 × SC) := bd_ (fX1_let z0 w4) (fun r1 z1 => (if y5 = 0 then (fX1_goFirst_j95 K2 z1 y1 y2 y3) else bd_ (fX1_answerTo z1 t0 y3) (fun r3 z3 => some (r3, z3))))
set_option maxRecDepth 100000 in
set_option maxHeartbeats 4000000 in
theorem jX1_goFirst_74 {p : Program} {l : Launch} {e : Env} {s : State} {m : MethodId} {args : Array Value} {below : List Frame} {meth : Method} {c : Code} {G : va_G} {cy cyO : ClassId} {a : Nat → Nat} {A : Nat → Prop} {r : Int32} {u : SC} (X : CallFix p m c cX1_goFirst 7 s args wsX1_goFirst RX1) (hr : meth.sig.returnType = (some .int)) (hlocks : meth.locks = false) (hK : va_K G vwCl (tys_ cy cyO) s) (hN : nw s) (hA : ∀ q, s.heap.size ≤ q → A q) (K2 : SC → Int32 → Int32 → Int32 → Option (Int32 × SC)) (hK2 : ∀ (z0 : SC) (y1 : Int32) (y2 : Int32) (y3 : Int32), K2 z0 y1 y2 y3 = some (r, u) → ∀ (H : Heap) (locs : List Loc), va_P G vwCl (cW a cy cyO z0) H → va_D A (cW a cy cyO z0) → va_S A s.heap H locs → ∀ (ls : Array Slot), lv_has ls 7 [(0, .ref (a 0)), (1, .int y1), (2, .int y2), (3, .int y3)] → W p l e ({ frames := 5, cells := 0, slots := 0, locals := 113 } : Room) s m args below meth c H locs 0 0 (MQ below (qg (some (.int r)) (fun t => wPost G A (cW a cy cyO u) t) A) args s 0 0 A) (F0 m 2 ls [])) : ∀ (z0 : SC) (y1 : Int32) (y2 : Int32) (y3 : Int32) (w4 : Nat) (y5 : Int32) (t0 : Int32), fX1_goFirst_j74 K2 z0 y1 y2 y3 w4 y5 t0 = some (r, u) → ∀ (H : Heap) (locs : List Loc), va_P G vwCl (cW a cy cyO z0) H → va_D A (cW a cy cyO z0) → va_S A s.heap H locs → ∀ (ls : Array Slot), lv_has ls 7 [(0, .ref (a 0)), (1, .int y1), (2, .int y2), (3, .int y3), (4, .ref w4), (5, .int y5)] → W p l e ({ frames := 5, cells := 0, slots := 0, locals := 113 } : Room) s m args below meth c H locs 0 0 (MQ below (qg (some (.int r)) (fun t => wPost G A (cW a cy cyO u) t) A) args s 0 0 A) (F0 m 74 ls [.int t0]) := by
  obtain ⟨hx, hb, hml, hown, hts⟩ := id X
  have hin1 : ∀ w ∈ wsX10, w ∈ wsX1_goFirst := by decide +kernel
  have hin0 : ∀ w ∈ wsX00, w ∈ wsX1_goFirst := by decide +kernel
  intro z0 y1 y2 y3 w4 y5 t0 hF H locs hP hD hS ls hl
  unfold fX1_goFirst_j74 at hF
  refine lv_istore (lv' := [(6, .int t0), (0, .ref (a 0)), (1, .int y1), (2, .int y2), (3, .int y3), (4, .ref w4), (5, .int y5)]) hx hb dX1_goFirst_74 hl (by decide) rfl (fun ls hl => ?_)
  refine lv_aload_n hx hb dX1_goFirst_76 rfl (lv_at hl 1 rfl) ?_
  refine lv_aload hx hb dX1_goFirst_77 (lv_at hl 5 rfl) ?_
  obtain ⟨r1, z1, hG1, hF⟩ := o_b hF
  refine cl_V (C := RX1) (rest := []) X hK hN hA hP hD hS (kX1_let l G cy cyO a z0 w4 r1 z1 hG1) (cwV 1 hts gX1_goFirst_X1_let rfl rfl rfl (by decide +kernel) ⟨Nat.le_of_ble_eq_true rfl, Nat.le_of_ble_eq_true rfl⟩) (va_recv hK hP (ci := 1) (q0 := 0) rfl rfl) rfl hl.1 rfl (Nat.le_of_ble_eq_true rfl) dX1_goFirst_79 ⟨Nat.zero_le _, Nat.zero_le _⟩ (fun H locs hP hD hS => ?_)
  refine W.eq (g2 := F0 m 82 ls []) rfl ?_
  refine lv_iload hx hb dX1_goFirst_82 (lv_at hl 6 rfl) ?_
  refine lv_if_eq (tgt := 95) hx hb dX1_goFirst_84 (by decide) (fun c2 => ?_) (fun c2 => ?_)
  · have hF := o_t c2 hF
    exact jX1_goFirst_95 X hr hlocks hK hN hA K2 hK2 z1 y1 y2 y3 hF H locs hP hD hS ls (lv_sub hl [1, 2, 3, 4] rfl)
  · have hF := o_f c2 hF
    refine lv_aload_n hx hb dX1_goFirst_87 rfl (lv_at hl 1 rfl) ?_
    refine lv_iload hx hb dX1_goFirst_88 (lv_at hl 0 rfl) ?_
    refine lv_iload_n hx hb dX1_goFirst_90 rfl (lv_at hl 4 rfl) ?_
    obtain ⟨r3, z3, hG3, hF⟩ := o_b hF
    refine cl_V (C := RX1) (rest := []) X hK hN hA hP hD hS (kX1_answerTo l G cy cyO a z1 t0 y3 r3 z3 hG3) (cwV 2 hts gX1_goFirst_X1_answerTo rfl rfl rfl (by decide +kernel) ⟨Nat.le_of_ble_eq_true rfl, Nat.le_of_ble_eq_true rfl⟩) (va_recv hK hP (ci := 1) (q0 := 0) rfl rfl) rfl hl.1 rfl (Nat.le_of_ble_eq_true rfl) dX1_goFirst_91 ⟨Nat.zero_le _, Nat.zero_le _⟩ (fun H locs hP hD hS => ?_)
    refine W.eq (g2 := F0 m 94 ls [.int r3]) rfl ?_
    obtain ⟨rfl, rfl⟩ := o_s hF
    exact rt_i X hr hlocks hP hD hS dX1_goFirst_94
def fX1_goFirst_j56 (K2 : SC → Int32 → Int32 → Int32 → Option (Int32 × SC)) (z0 : SC) (y1 : Int32) (y2 : Int32) (y3 : Int32) (w4 : Nat) (t0 : Int32) : Option (Int32 × SC) := (if t0 = 0 then (fX1_goFirst_j74 K2 z0 y1 y2 y3 w4 t0 1) else bd_ (fX1_pass z0 w4 y2) (fun r2 z2 => (fX1_goFirst_j74 K2 z2 y1 y2 y3 w4 t0 r2)))
set_option maxRecDepth 100000 in
set_option maxHeartbeats 4000000 in
theorem jX1_goFirst_56 {p : Program} {l : Launch} {e : Env} {s : State} {m : MethodId} {args : Array Value} {below : List Frame} {meth : Method} {c : Code} {G : va_G} {cy cyO : ClassId} {a : Nat → Nat} {A : Nat → Prop} {r : Int32} {u : SC} (X : CallFix p m c cX1_goFirst 7 s args wsX1_goFirst RX1) (hr : meth.sig.returnType = (some .int)) (hlocks : meth.locks = false) (hK : va_K G vwCl (tys_ cy cyO) s) (hN : nw s) (hA : ∀ q, s.heap.size ≤ q → A q) (K2 : SC → Int32 → Int32 → Int32 → Option (Int32 × SC)) (hK2 : ∀ (z0 : SC) (y1 : Int32) (y2 : Int32) (y3 : Int32), K2 z0 y1 y2 y3 = some (r, u) → ∀ (H : Heap) (locs : List Loc), va_P G vwCl (cW a cy cyO z0) H → va_D A (cW a cy cyO z0) → va_S A s.heap H locs → ∀ (ls : Array Slot), lv_has ls 7 [(0, .ref (a 0)), (1, .int y1), (2, .int y2), (3, .int y3)] → W p l e ({ frames := 5, cells := 0, slots := 0, locals := 113 } : Room) s m args below meth c H locs 0 0 (MQ below (qg (some (.int r)) (fun t => wPost G A (cW a cy cyO u) t) A) args s 0 0 A) (F0 m 2 ls [])) : ∀ (z0 : SC) (y1 : Int32) (y2 : Int32) (y3 : Int32) (w4 : Nat) (t0 : Int32), fX1_goFirst_j56 K2 z0 y1 y2 y3 w4 t0 = some (r, u) → ∀ (H : Heap) (locs : List Loc), va_P G vwCl (cW a cy cyO z0) H → va_D A (cW a cy cyO z0) → va_S A s.heap H locs → ∀ (ls : Array Slot), lv_has ls 7 [(0, .ref (a 0)), (1, .int y1), (2, .int y2), (3, .int y3), (4, .ref w4)] → W p l e ({ frames := 5, cells := 0, slots := 0, locals := 113 } : Room) s m args below meth c H locs 0 0 (MQ below (qg (some (.int r)) (fun t => wPost G A (cW a cy cyO u) t) A) args s 0 0 A) (F0 m 56 ls [.int t0]) := by
  obtain ⟨hx, hb, hml, hown, hts⟩ := id X
  have hin1 : ∀ w ∈ wsX10, w ∈ wsX1_goFirst := by decide +kernel
  have hin0 : ∀ w ∈ wsX00, w ∈ wsX1_goFirst := by decide +kernel
  intro z0 y1 y2 y3 w4 t0 hF H locs hP hD hS ls hl
  unfold fX1_goFirst_j56 at hF
  refine lv_istore (lv' := [(5, .int t0), (0, .ref (a 0)), (1, .int y1), (2, .int y2), (3, .int y3), (4, .ref w4)]) hx hb dX1_goFirst_56 hl (by decide) rfl (fun ls hl => ?_)
  refine lv_iload hx hb dX1_goFirst_58 (lv_at hl 0 rfl) ?_
  refine lv_if_eq (tgt := 73) hx hb dX1_goFirst_60 (by decide) (fun c1 => ?_) (fun c1 => ?_)
  · have hF := o_t c1 hF
    refine lv_iconst (v := 1) hx hb dX1_goFirst_73 (by decide) ?_
    exact jX1_goFirst_74 X hr hlocks hK hN hA K2 hK2 z0 y1 y2 y3 w4 t0 1 hF H locs hP hD hS ls (lv_sub hl [1, 2, 3, 4, 5, 0] rfl)
  · have hF := o_f c1 hF
    refine lv_aload_n hx hb dX1_goFirst_63 rfl (lv_at hl 1 rfl) ?_
    refine lv_aload hx hb dX1_goFirst_64 (lv_at hl 5 rfl) ?_
    refine lv_iload_n hx hb dX1_goFirst_66 rfl (lv_at hl 3 rfl) ?_
    obtain ⟨r2, z2, hG2, hF⟩ := o_b hF
    refine cl_V (C := RX1) (rest := []) X hK hN hA hP hD hS (kX1_pass l G cy cyO a z0 w4 y2 r2 z2 hG2) (cwV 2 hts gX1_goFirst_X1_pass rfl rfl rfl (by decide +kernel) ⟨Nat.le_of_ble_eq_true rfl, Nat.le_of_ble_eq_true rfl⟩) (va_recv hK hP (ci := 1) (q0 := 0) rfl rfl) rfl hl.1 rfl (Nat.le_of_ble_eq_true rfl) dX1_goFirst_67 ⟨Nat.zero_le _, Nat.zero_le _⟩ (fun H locs hP hD hS => ?_)
    refine W.eq (g2 := F0 m 70 ls [.int r2]) rfl ?_
    refine lv_goto (tgt := 74) hx hb dX1_goFirst_70 (by decide) ?_
    exact jX1_goFirst_74 X hr hlocks hK hN hA K2 hK2 z2 y1 y2 y3 w4 t0 r2 hF H locs hP hD hS ls (lv_sub hl [1, 2, 3, 4, 5, 0] rfl)
def fX1_goFirst_j55 (K2 : SC → Int32 → Int32 → Int32 → Option (Int32 × SC)) (z0 : SC) (y1 : Int32) (y2 : Int32) (y3 : Int32) (w4 : Nat) : Option (Int32 × SC) := (fX1_goFirst_j56 K2 z0 y1 y2 y3 w4 0)
set_option maxRecDepth 100000 in
set_option maxHeartbeats 4000000 in
theorem jX1_goFirst_55 {p : Program} {l : Launch} {e : Env} {s : State} {m : MethodId} {args : Array Value} {below : List Frame} {meth : Method} {c : Code} {G : va_G} {cy cyO : ClassId} {a : Nat → Nat} {A : Nat → Prop} {r : Int32} {u : SC} (X : CallFix p m c cX1_goFirst 7 s args wsX1_goFirst RX1) (hr : meth.sig.returnType = (some .int)) (hlocks : meth.locks = false) (hK : va_K G vwCl (tys_ cy cyO) s) (hN : nw s) (hA : ∀ q, s.heap.size ≤ q → A q) (K2 : SC → Int32 → Int32 → Int32 → Option (Int32 × SC)) (hK2 : ∀ (z0 : SC) (y1 : Int32) (y2 : Int32) (y3 : Int32), K2 z0 y1 y2 y3 = some (r, u) → ∀ (H : Heap) (locs : List Loc), va_P G vwCl (cW a cy cyO z0) H → va_D A (cW a cy cyO z0) → va_S A s.heap H locs → ∀ (ls : Array Slot), lv_has ls 7 [(0, .ref (a 0)), (1, .int y1), (2, .int y2), (3, .int y3)] → W p l e ({ frames := 5, cells := 0, slots := 0, locals := 113 } : Room) s m args below meth c H locs 0 0 (MQ below (qg (some (.int r)) (fun t => wPost G A (cW a cy cyO u) t) A) args s 0 0 A) (F0 m 2 ls [])) : ∀ (z0 : SC) (y1 : Int32) (y2 : Int32) (y3 : Int32) (w4 : Nat), fX1_goFirst_j55 K2 z0 y1 y2 y3 w4 = some (r, u) → ∀ (H : Heap) (locs : List Loc), va_P G vwCl (cW a cy cyO z0) H → va_D A (cW a cy cyO z0) → va_S A s.heap H locs → ∀ (ls : Array Slot), lv_has ls 7 [(0, .ref (a 0)), (1, .int y1), (2, .int y2), (3, .int y3), (4, .ref w4)] → W p l e ({ frames := 5, cells := 0, slots := 0, locals := 113 } : Room) s m args below meth c H locs 0 0 (MQ below (qg (some (.int r)) (fun t => wPost G A (cW a cy cyO u) t) A) args s 0 0 A) (F0 m 55 ls []) := by
  obtain ⟨hx, hb, hml, hown, hts⟩ := id X
  have hin1 : ∀ w ∈ wsX10, w ∈ wsX1_goFirst := by decide +kernel
  have hin0 : ∀ w ∈ wsX00, w ∈ wsX1_goFirst := by decide +kernel
  intro z0 y1 y2 y3 w4 hF H locs hP hD hS ls hl
  unfold fX1_goFirst_j55 at hF
  refine lv_iconst (v := 0) hx hb dX1_goFirst_55 (by decide) ?_
  exact jX1_goFirst_56 X hr hlocks hK hN hA K2 hK2 z0 y1 y2 y3 w4 0 hF H locs hP hD hS ls (lv_sub hl [0, 1, 2, 3, 4] rfl)
def fX1_goFirst_j2 : Nat → SC → Int32 → Int32 → Int32 → Option (Int32 × SC)
  | 0, _, _, _, _ => none
  | n + 1, z0, y1, y2, y3 => if y1 < 0 ∨ 6 ≤ y1.toNatClampNeg then none else let_ (z0.2.2.2.2.1 y1.toNatClampNeg) (fun v1 => (if v1 ≤ y3 then some (z0.2.2.2.2.2.2.2.2.2.2.2, z0) else bd_ (fX1_sectionOn z0 y1 y3) (fun r3 z3 => (opt_ (r3) ((fX1_goFirst_j95 (fX1_goFirst_j2 n) z3 y1 y2 y3)) (fun b3 => bd_ (fX1_claim z3 b3) (fun r4 z4 => if b3 ∈ z4.2.1 then bd_ (fX0_hasRoomFor z4 b3 y2) (fun r5 z5 => (if r5 = 0 then (fX1_goFirst_j55 (fX1_goFirst_j2 n) z5 y1 y2 y3 b3) else if b3 ∈ z5.2.1 then (if (z5.1 b3 5) = 0 then (fX1_goFirst_j56 (fX1_goFirst_j2 n) z5 y1 y2 y3 b3 1) else (fX1_goFirst_j55 (fX1_goFirst_j2 n) z5 y1 y2 y3 b3)) else none)) else none))))))
set_option maxRecDepth 100000 in
set_option maxHeartbeats 4000000 in
theorem jX1_goFirst_2 {p : Program} {l : Launch} {e : Env} {s : State} {m : MethodId} {args : Array Value} {below : List Frame} {meth : Method} {c : Code} {G : va_G} {cy cyO : ClassId} {a : Nat → Nat} {A : Nat → Prop} {r : Int32} {u : SC} (X : CallFix p m c cX1_goFirst 7 s args wsX1_goFirst RX1) (hr : meth.sig.returnType = (some .int)) (hlocks : meth.locks = false) (hK : va_K G vwCl (tys_ cy cyO) s) (hN : nw s) (hA : ∀ q, s.heap.size ≤ q → A q) : ∀ n : Nat, ∀ (z0 : SC) (y1 : Int32) (y2 : Int32) (y3 : Int32), fX1_goFirst_j2 n z0 y1 y2 y3 = some (r, u) → ∀ (H : Heap) (locs : List Loc), va_P G vwCl (cW a cy cyO z0) H → va_D A (cW a cy cyO z0) → va_S A s.heap H locs → ∀ (ls : Array Slot), lv_has ls 7 [(0, .ref (a 0)), (1, .int y1), (2, .int y2), (3, .int y3)] → W p l e ({ frames := 5, cells := 0, slots := 0, locals := 113 } : Room) s m args below meth c H locs 0 0 (MQ below (qg (some (.int r)) (fun t => wPost G A (cW a cy cyO u) t) A) args s 0 0 A) (F0 m 2 ls []) := by
  obtain ⟨hx, hb, hml, hown, hts⟩ := id X
  have hin1 : ∀ w ∈ wsX10, w ∈ wsX1_goFirst := by decide +kernel
  have hin0 : ∀ w ∈ wsX00, w ∈ wsX1_goFirst := by decide +kernel
  intro n
  induction n with
  | zero => intro z0 y1 y2 y3 hF; cases hF
  | succ n ih =>
    intro z0 y1 y2 y3 hF H locs hP hD hS ls hl
    rw [fX1_goFirst_j2] at hF
    refine lv_iload_n hx hb dX1_goFirst_2 rfl (lv_at hl 3 rfl) ?_
    refine lv_aload_n hx hb dX1_goFirst_3 rfl (lv_at hl 0 rfl) ?_
    refine va_get (D := G) (ci := 1) (v := .ref (a 3)) (C := RX1) (T := TX1) (N := 10) hx hb hts hin1 hown hK hP 0 rfl rfl 2 (by decide) (hts (.fieldLink RX1 19 "SignalBox" "routeLengths" "[I") (by decide +kernel)) (fun _ h9 => h9) rfl dX1_goFirst_4 ?_
    refine lv_iload_n hx hb dX1_goFirst_7 rfl (lv_at hl 1 rfl) ?_
    obtain ⟨h1, hF⟩ := o_n hF
    refine va_iald (n := 6) (f := z0.2.2.2.2.1) (cA := cy) hx hb hK hP 3 0 rfl rfl h1 dX1_goFirst_8 ?_
    obtain ⟨v1, e1, hF⟩ := o_l hF
    refine w_top e1 ?_
    refine lv_icmp_ge (tgt := 101) hx hb dX1_goFirst_9 (by decide) (fun c2 => ?_) (fun c2 => ?_)
    · have hF := o_t c2 hF
      refine lv_aload_n hx hb dX1_goFirst_101 rfl (lv_at hl 0 rfl) ?_
      refine va_get (D := G) (ci := 1) (v := .int z0.2.2.2.2.2.2.2.2.2.2.2) (C := RX1) (T := TX1) (N := 10) hx hb hts hin1 hown hK hP 0 rfl rfl 9 (by decide) (hts (.fieldLink RX1 51 "SignalBox" "passed" "I") (by decide +kernel)) (fun _ h9 => h9) rfl dX1_goFirst_102 ?_
      obtain ⟨rfl, rfl⟩ := o_s hF
      exact rt_i X hr hlocks hP hD hS dX1_goFirst_105
    · have hF := o_f c2 hF
      refine lv_aload_n hx hb dX1_goFirst_12 rfl (lv_at hl 0 rfl) ?_
      refine lv_iload_n hx hb dX1_goFirst_13 rfl (lv_at hl 1 rfl) ?_
      refine lv_iload_n hx hb dX1_goFirst_14 rfl (lv_at hl 3 rfl) ?_
      obtain ⟨r3, z3, hG3, hF⟩ := o_b hF
      refine cl_V (C := RX1) (rest := []) X hK hN hA hP hD hS (kX1_sectionOn l G cy cyO a z0 y1 y3 r3 z3 hG3) (cwV 2 hts gX1_goFirst_X1_sectionOn rfl rfl rfl (by decide +kernel) ⟨Nat.le_of_ble_eq_true rfl, Nat.le_of_ble_eq_true rfl⟩) (va_recv hK hP (ci := 1) (q0 := 0) rfl rfl) rfl hl.1 rfl (Nat.le_of_ble_eq_true rfl) dX1_goFirst_15 ⟨Nat.zero_le _, Nat.zero_le _⟩ (fun H locs hP hD hS => ?_)
      rcases ho3 : r3 with _ | b3
      · have hF := o_mn ho3 hF
        refine w_none rfl ?_
        refine lv_astoreN (lv' := [(4, .null), (0, .ref (a 0)), (1, .int y1), (2, .int y2), (3, .int y3)]) hx hb dX1_goFirst_18 hl (by decide) rfl (fun ls hl => ?_)
        refine lv_aloadN hx hb dX1_goFirst_20 (lv_at hl 0 rfl) ?_
        refine lv_ifnonnullN hx hb dX1_goFirst_22 ?_
        refine lv_goto (tgt := 95) hx hb dX1_goFirst_25 (by decide) ?_
        exact jX1_goFirst_95 X hr hlocks hK hN hA (fX1_goFirst_j2 n) ih z3 y1 y2 y3 hF H locs hP hD hS ls (lv_sub hl [1, 2, 3, 4] rfl)
      · have hF := o_ms ho3 hF
        refine w_some rfl ?_
        refine lv_astore (lv' := [(4, .ref b3), (0, .ref (a 0)), (1, .int y1), (2, .int y2), (3, .int y3)]) hx hb dX1_goFirst_18 hl (by decide) rfl (fun ls hl => ?_)
        refine lv_aload hx hb dX1_goFirst_20 (lv_at hl 0 rfl) ?_
        refine lv_ifnonnull (tgt := 28) hx hb dX1_goFirst_22 (by decide) ?_
        refine lv_aload_n hx hb dX1_goFirst_28 rfl (lv_at hl 1 rfl) ?_
        refine lv_aload hx hb dX1_goFirst_29 (lv_at hl 0 rfl) ?_
        obtain ⟨r4, z4, hG4, hF⟩ := o_b hF
        refine cl_V (C := RX1) (rest := []) X hK hN hA hP hD hS (kX1_claim l G cy cyO a z3 b3 r4 z4 hG4) (cwV 1 hts gX1_goFirst_X1_claim rfl rfl rfl (by decide +kernel) ⟨Nat.le_of_ble_eq_true rfl, Nat.le_of_ble_eq_true rfl⟩) (va_recv hK hP (ci := 1) (q0 := 0) rfl rfl) rfl hl.1 rfl (Nat.le_of_ble_eq_true rfl) dX1_goFirst_31 ⟨Nat.zero_le _, Nat.zero_le _⟩ (fun H locs hP hD hS => ?_)
        refine W.eq (g2 := F0 m 34 ls []) rfl ?_
        refine lv_aload hx hb dX1_goFirst_34 (lv_at hl 0 rfl) ?_
        refine lv_iload_n hx hb dX1_goFirst_36 rfl (lv_at hl 3 rfl) ?_
        obtain ⟨h6, hF⟩ := o_i hF
        obtain ⟨r5, z5, hG5, hF⟩ := o_b hF
        refine cl_N (C := RX0) (rest := []) X hK hN hA hP hD hS (kX0_hasRoomFor l G cy cyO a z4 b3 y2 r5 z5 hG5) ⟨va_cnB 1 hts gX1_goFirst_X0_hasRoomFor_n139 rfl rfl rfl (hN.2 (139, yX0_hasRoomFor) (by decide +kernel)) (hts (.initialized RX0) (by decide +kernel)) (by decide +kernel) ⟨Nat.le_of_ble_eq_true rfl, Nat.le_of_ble_eq_true rfl⟩, hts (.instanceMethod yX0_hasRoomFor) (by decide +kernel), hts (.selects RX0 yX0_hasRoomFor yX0_hasRoomFor) (by decide +kernel)⟩ (cs_recv hK hP h6) rfl hl.1 rfl (Nat.le_of_ble_eq_true rfl) dX1_goFirst_37 ⟨Nat.zero_le _, Nat.zero_le _⟩ (fun H locs hP hD hS => ?_)
        refine W.eq (g2 := F0 m 40 ls [.int r5]) rfl ?_
        refine lv_if_eq (tgt := 55) hx hb dX1_goFirst_40 (by decide) (fun c7 => ?_) (fun c7 => ?_)
        · have hF := o_t c7 hF
          exact jX1_goFirst_55 X hr hlocks hK hN hA (fX1_goFirst_j2 n) ih z5 y1 y2 y3 b3 hF H locs hP hD hS ls (lv_sub hl [1, 2, 3, 4, 0] rfl)
        · have hF := o_f c7 hF
          refine lv_aload hx hb dX1_goFirst_43 (lv_at hl 0 rfl) ?_
          obtain ⟨h8, hF⟩ := o_i hF
          refine cs_get X hin0 hK hN hP h8 5 (by decide) (by decide) (by decide) (v := .int (z5.1 b3 5)) rfl dX1_goFirst_45 ?_
          refine lv_if_ne (tgt := 55) hx hb dX1_goFirst_48 (by decide) (fun c9 => ?_) (fun c9 => ?_)
          · have hF := o_f c9 hF
            exact jX1_goFirst_55 X hr hlocks hK hN hA (fX1_goFirst_j2 n) ih z5 y1 y2 y3 b3 hF H locs hP hD hS ls (lv_sub hl [1, 2, 3, 4, 0] rfl)
          · have hF := o_t c9 hF
            refine lv_iconst (v := 1) hx hb dX1_goFirst_51 (by decide) ?_
            refine lv_goto (tgt := 56) hx hb dX1_goFirst_52 (by decide) ?_
            exact jX1_goFirst_56 X hr hlocks hK hN hA (fX1_goFirst_j2 n) ih z5 y1 y2 y3 b3 1 hF H locs hP hD hS ls (lv_sub hl [1, 2, 3, 4, 0] rfl)
def fX1_goFirst (z0 : SC) (x1 : Int32) (x2 : Int32) : Option (Int32 × SC) := (fX1_goFirst_j2 20 z0 x1 x2 0)
set_option maxRecDepth 100000 in
set_option maxHeartbeats 4000000 in
theorem kX1_goFirst (l : Launch) (G : va_G) (cy cyO : ClassId) (a : Nat → Nat) (z0 : SC) (x1 : Int32) (x2 : Int32) (r : Int32) (u : SC) (hF : fX1_goFirst z0 x1 x2 = some (r, u)) : Ct l G (tys_ cy cyO) yX1_goFirst wsX1_goFirst ({ frames := 5, cells := 0, slots := 0, locals := 113 } : Room) [.ref (a 0), .int x1, .int x2] (cW a cy cyO z0) (some (.int r)) (cW a cy cyO u) := by
  unfold fX1_goFirst at hF
  refine ct_of (cc := cX1_goFirst) (maxL := 7) (ret := (some .int)) (own := RX1) (by decide) rfl (Nat.le_of_ble_eq_true rfl) rfl ?_
  intro p e s m below meth c A ls X hr hlocks _ hK hN hA hP hD hl
  have hS : va_S A s.heap s.heap [] := va_S.rf
  have hl : lv_has ls 7 [(0, .ref (a 0)), (1, .int x1), (2, .int x2)] := hl
  obtain ⟨hx, hb, hml, hown, hts⟩ := id X
  have hin1 : ∀ w ∈ wsX10, w ∈ wsX1_goFirst := by decide +kernel
  have hin0 : ∀ w ∈ wsX00, w ∈ wsX1_goFirst := by decide +kernel
  refine lv_iconst (v := 0) hx hb dX1_goFirst_0 (by decide) ?_
  refine lv_istore_n (lv' := [(3, .int 0), (0, .ref (a 0)), (1, .int x1), (2, .int x2)]) hx hb dX1_goFirst_1 rfl hl (by decide) rfl (fun ls hl => ?_)
  exact jX1_goFirst_2 X hr hlocks hK hN hA 20 z0 x1 x2 0 hF s.heap [] hP hD hS ls (lv_sub hl [1, 2, 3, 0] rfl)
def fX1_run (z0 : SC) (x1 : Int32) (x2 : Int32) (x3 : Int32) : Option (Int32 × SC) := bd_ (fX1_isRoute z0 x1) (fun r1 z1 => (if r1 = 0 then some ((-1), z1) else (if x2 < 0 then some ((-1), z1) else (if 4 < x2 then some ((-1), z1) else bd_ (fX1_isAxles z1 x3) (fun r5 z5 => (if r5 = 0 then some ((-1), z5) else let_ ((z5.1, z5.2.1, z5.2.2.1, z5.2.2.2.1, z5.2.2.2.2.1, z5.2.2.2.2.2.1, z5.2.2.2.2.2.2.1, z5.2.2.2.2.2.2.2.1, (z5.2.2.2.2.2.2.2.2.1 + 1), z5.2.2.2.2.2.2.2.2.2) : SC) (fun z7 => let_ ((z7.1, z7.2.1, z7.2.2.1, z7.2.2.2.1, z7.2.2.2.2.1, z7.2.2.2.2.2.1, z7.2.2.2.2.2.2.1, z7.2.2.2.2.2.2.2.1, z7.2.2.2.2.2.2.2.2.1, z7.2.2.2.2.2.2.2.2.2.1, z7.2.2.2.2.2.2.2.2.2.2.1, 0) : SC) (fun z8 => let_ ((z8.1, z8.2.1, z8.2.2.1, z8.2.2.2.1, z8.2.2.2.2.1, z8.2.2.2.2.2.1, 0, z8.2.2.2.2.2.2.2) : SC) (fun z9 => (if x2 = 0 then bd_ (fX1_goAlone z9 x1 x3 1) (fun r14 z14 => bd_ (fX1_counted z14 r14) (fun r15 z15 => some (r15, z15))) else (if x2 = 1 then bd_ (fX1_goTwoByTwo z9 x1 x3) (fun r16 z16 => bd_ (fX1_counted z16 r16) (fun r17 z17 => some (r17, z17))) else (if x2 = 2 then bd_ (fX1_goAll z9 x1 x3) (fun r18 z18 => bd_ (fX1_counted z18 r18) (fun r19 z19 => some (r19, z19))) else (if x2 = 3 then bd_ (fX1_goFirst z9 x1 x3) (fun r20 z20 => bd_ (fX1_counted z20 r20) (fun r21 z21 => some (r21, z21))) else bd_ (fX1_goAlone z9 x1 x3 10) (fun r22 z22 => bd_ (fX1_counted z22 r22) (fun r23 z23 => some (r23, z23))))))))))))))))
set_option maxRecDepth 100000 in
set_option maxHeartbeats 4000000 in
theorem kX1_run (l : Launch) (G : va_G) (cy cyO : ClassId) (a : Nat → Nat) (z0 : SC) (x1 : Int32) (x2 : Int32) (x3 : Int32) (r : Int32) (u : SC) (hF : fX1_run z0 x1 x2 x3 = some (r, u)) : Ct l G (tys_ cy cyO) yX1_run wsX1_run ({ frames := 6, cells := 0, slots := 0, locals := 140 } : Room) [.ref (a 0), .int x1, .int x2, .int x3] (cW a cy cyO z0) (some (.int r)) (cW a cy cyO u) := by
  unfold fX1_run at hF
  refine ct_of (cc := cX1_run) (maxL := 4) (ret := (some .int)) (own := RX1) (by decide) rfl (Nat.le_of_ble_eq_true rfl) rfl ?_
  intro p e s m below meth c A ls X hr hlocks _ hK hN hA hP hD hl
  have hS : va_S A s.heap s.heap [] := va_S.rf
  have hl : lv_has ls 4 [(0, .ref (a 0)), (1, .int x1), (2, .int x2), (3, .int x3)] := hl
  obtain ⟨hx, hb, hml, hown, hts⟩ := id X
  have hin1 : ∀ w ∈ wsX10, w ∈ wsX1_run := by decide +kernel
  refine lv_iload_n hx hb dX1_run_0 rfl (lv_at hl 1 rfl) ?_
  obtain ⟨r1, z1, hG1, hF⟩ := o_b hF
  refine cl_S (rest := []) X hK hN hA hP hD hS (kX1_isRoute l G cy cyO a z0 x1 r1 z1 hG1) (va_cwS 1 hts gX1_run_X1_isRoute rfl rfl rfl (by decide +kernel) ⟨Nat.le_of_ble_eq_true rfl, Nat.le_of_ble_eq_true rfl⟩) rfl hl.1 rfl (Nat.le_of_ble_eq_true rfl) dX1_run_1 ⟨Nat.zero_le _, Nat.zero_le _⟩ (fun H locs hP hD hS => ?_)
  refine W.eq (g2 := F0 m 4 ls [.int r1]) rfl ?_
  refine lv_if_eq (tgt := 23) hx hb dX1_run_4 (by decide) (fun c2 => ?_) (fun c2 => ?_)
  · have hF := o_t c2 hF
    refine lv_iconst (v := (-1)) hx hb dX1_run_23 (by decide) ?_
    obtain ⟨rfl, rfl⟩ := o_s hF
    exact rt_i X hr hlocks hP hD hS dX1_run_24
  · have hF := o_f c2 hF
    refine lv_iload_n hx hb dX1_run_7 rfl (lv_at hl 2 rfl) ?_
    refine lv_if_lt (tgt := 23) hx hb dX1_run_8 (by decide) (fun c3 => ?_) (fun c3 => ?_)
    · have hF := o_t c3 hF
      refine lv_iconst (v := (-1)) hx hb dX1_run_23 (by decide) ?_
      obtain ⟨rfl, rfl⟩ := o_s hF
      exact rt_i X hr hlocks hP hD hS dX1_run_24
    · have hF := o_f c3 hF
      refine lv_iload_n hx hb dX1_run_11 rfl (lv_at hl 2 rfl) ?_
      refine lv_iconst (v := 4) hx hb dX1_run_12 (by decide) ?_
      refine lv_icmp_gt (tgt := 23) hx hb dX1_run_13 (by decide) (fun c4 => ?_) (fun c4 => ?_)
      · have hF := o_t c4 hF
        refine lv_iconst (v := (-1)) hx hb dX1_run_23 (by decide) ?_
        obtain ⟨rfl, rfl⟩ := o_s hF
        exact rt_i X hr hlocks hP hD hS dX1_run_24
      · have hF := o_f c4 hF
        refine lv_iload_n hx hb dX1_run_16 rfl (lv_at hl 3 rfl) ?_
        obtain ⟨r5, z5, hG5, hF⟩ := o_b hF
        refine cl_S (rest := []) X hK hN hA hP hD hS (kX1_isAxles l G cy cyO a z1 x3 r5 z5 hG5) (va_cwS 1 hts gX1_run_X1_isAxles rfl rfl rfl (by decide +kernel) ⟨Nat.le_of_ble_eq_true rfl, Nat.le_of_ble_eq_true rfl⟩) rfl hl.1 rfl (Nat.le_of_ble_eq_true rfl) dX1_run_17 ⟨Nat.zero_le _, Nat.zero_le _⟩ (fun H locs hP hD hS => ?_)
        refine W.eq (g2 := F0 m 20 ls [.int r5]) rfl ?_
        refine lv_if_ne (tgt := 25) hx hb dX1_run_20 (by decide) (fun c6 => ?_) (fun c6 => ?_)
        · have hF := o_f c6 hF
          refine lv_aload_n hx hb dX1_run_25 rfl (lv_at hl 0 rfl) ?_
          refine lv_dup hx hb dX1_run_26 rfl ?_
          refine va_get (D := G) (ci := 1) (v := .int z5.2.2.2.2.2.2.2.2.1) (C := RX1) (T := TX1) (N := 10) hx hb hts hin1 hown hK hP 0 rfl rfl 6 (by decide) (hts (.fieldLink RX1 48 "SignalBox" "runs" "I") (by decide +kernel)) (fun _ h9 => h9) rfl dX1_run_27 ?_
          refine lv_iconst (v := 1) hx hb dX1_run_30 (by decide) ?_
          refine lv_iadd hx hb dX1_run_31 ?_
          refine va_put (D := G) (ci := 1) (v := .int (z5.2.2.2.2.2.2.2.2.1 + 1)) (ty := .int) (C := RX1) (T := TX1) (N := 10) hx hb hts hin1 tyX1 tyX1_ok nmX1 hown hK hP hD hS 0 rfl rfl 6 (by decide) (hts (.fieldLink RX1 48 "SignalBox" "runs" "I") (by decide +kernel)) (fun _ h9 => h9) rfl (by decide +kernel) rfl rfl (Nat.le_of_ble_eq_true rfl) dX1_run_32 (fun H locs hP hD hS => ?_)
          obtain ⟨z7, e7, hF⟩ := o_l hF
          have hP : va_P G vwCl (cW a cy cyO z7) H := by rw [e7]; exact hP
          have hD : va_D A (cW a cy cyO z7) := by rw [e7]; exact hD
          refine lv_aload_n hx hb dX1_run_35 rfl (lv_at hl 0 rfl) ?_
          refine lv_iconst (v := 0) hx hb dX1_run_36 (by decide) ?_
          refine va_put (D := G) (ci := 1) (v := .int 0) (ty := .int) (C := RX1) (T := TX1) (N := 10) hx hb hts hin1 tyX1 tyX1_ok nmX1 hown hK hP hD hS 0 rfl rfl 9 (by decide) (hts (.fieldLink RX1 51 "SignalBox" "passed" "I") (by decide +kernel)) (fun _ h9 => h9) rfl (by decide +kernel) rfl rfl (Nat.le_of_ble_eq_true rfl) dX1_run_37 (fun H locs hP hD hS => ?_)
          obtain ⟨z8, e8, hF⟩ := o_l hF
          have hP : va_P G vwCl (cW a cy cyO z8) H := by rw [e8]; exact hP
          have hD : va_D A (cW a cy cyO z8) := by rw [e8]; exact hD
          refine lv_aload_n hx hb dX1_run_40 rfl (lv_at hl 0 rfl) ?_
          refine lv_iconst (v := 0) hx hb dX1_run_41 (by decide) ?_
          refine va_put (D := G) (ci := 1) (v := .int 0) (ty := .int) (C := RX1) (T := TX1) (N := 10) hx hb hts hin1 tyX1 tyX1_ok nmX1 hown hK hP hD hS 0 rfl rfl 4 (by decide) (hts (.fieldLink RX1 54 "SignalBox" "traceLength" "I") (by decide +kernel)) (fun _ h9 => h9) rfl (by decide +kernel) rfl rfl (Nat.le_of_ble_eq_true rfl) dX1_run_42 (fun H locs hP hD hS => ?_)
          obtain ⟨z9, e9, hF⟩ := o_l hF
          have hP : va_P G vwCl (cW a cy cyO z9) H := by rw [e9]; exact hP
          have hD : va_D A (cW a cy cyO z9) := by rw [e9]; exact hD
          refine lv_iload_n hx hb dX1_run_45 rfl (lv_at hl 2 rfl) ?_
          by_cases c10 : x2 = 0
          · have hF := o_t c10 hF
            refine lv_tableIn (off := 30) (tgt := 76) hx hb dX1_run_46 (by rw [c10]; decide) (by rw [c10]; decide) (by rw [c10]; rfl) (by decide) ?_
            refine lv_aload_n hx hb dX1_run_76 rfl (lv_at hl 0 rfl) ?_
            refine lv_aload_n hx hb dX1_run_77 rfl (lv_at hl 0 rfl) ?_
            refine lv_iload_n hx hb dX1_run_78 rfl (lv_at hl 1 rfl) ?_
            refine lv_iload_n hx hb dX1_run_79 rfl (lv_at hl 3 rfl) ?_
            refine lv_iconst (v := 1) hx hb dX1_run_80 (by decide) ?_
            obtain ⟨r14, z14, hG14, hF⟩ := o_b hF
            refine cl_V (C := RX1) (rest := [.ref (a 0)]) X hK hN hA hP hD hS (kX1_goAlone l G cy cyO a z9 x1 x3 1 r14 z14 hG14) (cwV 3 hts gX1_run_X1_goAlone rfl rfl rfl (by decide +kernel) ⟨Nat.le_of_ble_eq_true rfl, Nat.le_of_ble_eq_true rfl⟩) (va_recv hK hP (ci := 1) (q0 := 0) rfl rfl) rfl hl.1 rfl (Nat.le_of_ble_eq_true rfl) dX1_run_81 ⟨Nat.zero_le _, Nat.zero_le _⟩ (fun H locs hP hD hS => ?_)
            refine W.eq (g2 := F0 m 84 ls [.int r14, .ref (a 0)]) rfl ?_
            obtain ⟨r15, z15, hG15, hF⟩ := o_b hF
            refine cl_V (C := RX1) (rest := []) X hK hN hA hP hD hS (kX1_counted l G cy cyO a z14 r14 r15 z15 hG15) (cwV 1 hts gX1_run_X1_counted rfl rfl rfl (by decide +kernel) ⟨Nat.le_of_ble_eq_true rfl, Nat.le_of_ble_eq_true rfl⟩) (va_recv hK hP (ci := 1) (q0 := 0) rfl rfl) rfl hl.1 rfl (Nat.le_of_ble_eq_true rfl) dX1_run_84 ⟨Nat.zero_le _, Nat.zero_le _⟩ (fun H locs hP hD hS => ?_)
            refine W.eq (g2 := F0 m 87 ls [.int r15]) rfl ?_
            obtain ⟨rfl, rfl⟩ := o_s hF
            exact rt_i X hr hlocks hP hD hS dX1_run_87
          · have hF := o_f c10 hF
            by_cases c11 : x2 = 1
            · have hF := o_t c11 hF
              refine lv_tableIn (off := 42) (tgt := 88) hx hb dX1_run_46 (by rw [c11]; decide) (by rw [c11]; decide) (by rw [c11]; rfl) (by decide) ?_
              refine lv_aload_n hx hb dX1_run_88 rfl (lv_at hl 0 rfl) ?_
              refine lv_aload_n hx hb dX1_run_89 rfl (lv_at hl 0 rfl) ?_
              refine lv_iload_n hx hb dX1_run_90 rfl (lv_at hl 1 rfl) ?_
              refine lv_iload_n hx hb dX1_run_91 rfl (lv_at hl 3 rfl) ?_
              obtain ⟨r16, z16, hG16, hF⟩ := o_b hF
              refine cl_V (C := RX1) (rest := [.ref (a 0)]) X hK hN hA hP hD hS (kX1_goTwoByTwo l G cy cyO a z9 x1 x3 r16 z16 hG16) (cwV 2 hts gX1_run_X1_goTwoByTwo rfl rfl rfl (by decide +kernel) ⟨Nat.le_of_ble_eq_true rfl, Nat.le_of_ble_eq_true rfl⟩) (va_recv hK hP (ci := 1) (q0 := 0) rfl rfl) rfl hl.1 rfl (Nat.le_of_ble_eq_true rfl) dX1_run_92 ⟨Nat.zero_le _, Nat.zero_le _⟩ (fun H locs hP hD hS => ?_)
              refine W.eq (g2 := F0 m 95 ls [.int r16, .ref (a 0)]) rfl ?_
              obtain ⟨r17, z17, hG17, hF⟩ := o_b hF
              refine cl_V (C := RX1) (rest := []) X hK hN hA hP hD hS (kX1_counted l G cy cyO a z16 r16 r17 z17 hG17) (cwV 1 hts gX1_run_X1_counted rfl rfl rfl (by decide +kernel) ⟨Nat.le_of_ble_eq_true rfl, Nat.le_of_ble_eq_true rfl⟩) (va_recv hK hP (ci := 1) (q0 := 0) rfl rfl) rfl hl.1 rfl (Nat.le_of_ble_eq_true rfl) dX1_run_95 ⟨Nat.zero_le _, Nat.zero_le _⟩ (fun H locs hP hD hS => ?_)
              refine W.eq (g2 := F0 m 98 ls [.int r17]) rfl ?_
              obtain ⟨rfl, rfl⟩ := o_s hF
              exact rt_i X hr hlocks hP hD hS dX1_run_98
            · have hF := o_f c11 hF
              by_cases c12 : x2 = 2
              · have hF := o_t c12 hF
                refine lv_tableIn (off := 53) (tgt := 99) hx hb dX1_run_46 (by rw [c12]; decide) (by rw [c12]; decide) (by rw [c12]; rfl) (by decide) ?_
                refine lv_aload_n hx hb dX1_run_99 rfl (lv_at hl 0 rfl) ?_
                refine lv_aload_n hx hb dX1_run_100 rfl (lv_at hl 0 rfl) ?_
                refine lv_iload_n hx hb dX1_run_101 rfl (lv_at hl 1 rfl) ?_
                refine lv_iload_n hx hb dX1_run_102 rfl (lv_at hl 3 rfl) ?_
                obtain ⟨r18, z18, hG18, hF⟩ := o_b hF
                refine cl_V (C := RX1) (rest := [.ref (a 0)]) X hK hN hA hP hD hS (kX1_goAll l G cy cyO a z9 x1 x3 r18 z18 hG18) (cwV 2 hts gX1_run_X1_goAll rfl rfl rfl (by decide +kernel) ⟨Nat.le_of_ble_eq_true rfl, Nat.le_of_ble_eq_true rfl⟩) (va_recv hK hP (ci := 1) (q0 := 0) rfl rfl) rfl hl.1 rfl (Nat.le_of_ble_eq_true rfl) dX1_run_103 ⟨Nat.zero_le _, Nat.zero_le _⟩ (fun H locs hP hD hS => ?_)
                refine W.eq (g2 := F0 m 106 ls [.int r18, .ref (a 0)]) rfl ?_
                obtain ⟨r19, z19, hG19, hF⟩ := o_b hF
                refine cl_V (C := RX1) (rest := []) X hK hN hA hP hD hS (kX1_counted l G cy cyO a z18 r18 r19 z19 hG19) (cwV 1 hts gX1_run_X1_counted rfl rfl rfl (by decide +kernel) ⟨Nat.le_of_ble_eq_true rfl, Nat.le_of_ble_eq_true rfl⟩) (va_recv hK hP (ci := 1) (q0 := 0) rfl rfl) rfl hl.1 rfl (Nat.le_of_ble_eq_true rfl) dX1_run_106 ⟨Nat.zero_le _, Nat.zero_le _⟩ (fun H locs hP hD hS => ?_)
                refine W.eq (g2 := F0 m 109 ls [.int r19]) rfl ?_
                obtain ⟨rfl, rfl⟩ := o_s hF
                exact rt_i X hr hlocks hP hD hS dX1_run_109
              · have hF := o_f c12 hF
                by_cases c13 : x2 = 3
                · have hF := o_t c13 hF
                  refine lv_tableIn (off := 64) (tgt := 110) hx hb dX1_run_46 (by rw [c13]; decide) (by rw [c13]; decide) (by rw [c13]; rfl) (by decide) ?_
                  refine lv_aload_n hx hb dX1_run_110 rfl (lv_at hl 0 rfl) ?_
                  refine lv_aload_n hx hb dX1_run_111 rfl (lv_at hl 0 rfl) ?_
                  refine lv_iload_n hx hb dX1_run_112 rfl (lv_at hl 1 rfl) ?_
                  refine lv_iload_n hx hb dX1_run_113 rfl (lv_at hl 3 rfl) ?_
                  obtain ⟨r20, z20, hG20, hF⟩ := o_b hF
                  refine cl_V (C := RX1) (rest := [.ref (a 0)]) X hK hN hA hP hD hS (kX1_goFirst l G cy cyO a z9 x1 x3 r20 z20 hG20) (cwV 2 hts gX1_run_X1_goFirst rfl rfl rfl (by decide +kernel) ⟨Nat.le_of_ble_eq_true rfl, Nat.le_of_ble_eq_true rfl⟩) (va_recv hK hP (ci := 1) (q0 := 0) rfl rfl) rfl hl.1 rfl (Nat.le_of_ble_eq_true rfl) dX1_run_114 ⟨Nat.zero_le _, Nat.zero_le _⟩ (fun H locs hP hD hS => ?_)
                  refine W.eq (g2 := F0 m 117 ls [.int r20, .ref (a 0)]) rfl ?_
                  obtain ⟨r21, z21, hG21, hF⟩ := o_b hF
                  refine cl_V (C := RX1) (rest := []) X hK hN hA hP hD hS (kX1_counted l G cy cyO a z20 r20 r21 z21 hG21) (cwV 1 hts gX1_run_X1_counted rfl rfl rfl (by decide +kernel) ⟨Nat.le_of_ble_eq_true rfl, Nat.le_of_ble_eq_true rfl⟩) (va_recv hK hP (ci := 1) (q0 := 0) rfl rfl) rfl hl.1 rfl (Nat.le_of_ble_eq_true rfl) dX1_run_117 ⟨Nat.zero_le _, Nat.zero_le _⟩ (fun H locs hP hD hS => ?_)
                  refine W.eq (g2 := F0 m 120 ls [.int r21]) rfl ?_
                  obtain ⟨rfl, rfl⟩ := o_s hF
                  exact rt_i X hr hlocks hP hD hS dX1_run_120
                · have hF := o_f c13 hF
                  refine lv_tableOut (tgt := 121) hx hb dX1_run_46 (by have g10 := lv_neT c10 (a := 0) rfl; have g11 := lv_neT c11 (a := 1) rfl; have g12 := lv_neT c12 (a := 2) rfl; have g13 := lv_neT c13 (a := 3) rfl; omega) (by decide) ?_
                  refine lv_aload_n hx hb dX1_run_121 rfl (lv_at hl 0 rfl) ?_
                  refine lv_aload_n hx hb dX1_run_122 rfl (lv_at hl 0 rfl) ?_
                  refine lv_iload_n hx hb dX1_run_123 rfl (lv_at hl 1 rfl) ?_
                  refine lv_iload_n hx hb dX1_run_124 rfl (lv_at hl 3 rfl) ?_
                  refine lv_bipush (v := 10) hx hb dX1_run_125 (by decide) ?_
                  obtain ⟨r22, z22, hG22, hF⟩ := o_b hF
                  refine cl_V (C := RX1) (rest := [.ref (a 0)]) X hK hN hA hP hD hS (kX1_goAlone l G cy cyO a z9 x1 x3 10 r22 z22 hG22) (cwV 3 hts gX1_run_X1_goAlone rfl rfl rfl (by decide +kernel) ⟨Nat.le_of_ble_eq_true rfl, Nat.le_of_ble_eq_true rfl⟩) (va_recv hK hP (ci := 1) (q0 := 0) rfl rfl) rfl hl.1 rfl (Nat.le_of_ble_eq_true rfl) dX1_run_127 ⟨Nat.zero_le _, Nat.zero_le _⟩ (fun H locs hP hD hS => ?_)
                  refine W.eq (g2 := F0 m 130 ls [.int r22, .ref (a 0)]) rfl ?_
                  obtain ⟨r23, z23, hG23, hF⟩ := o_b hF
                  refine cl_V (C := RX1) (rest := []) X hK hN hA hP hD hS (kX1_counted l G cy cyO a z22 r22 r23 z23 hG23) (cwV 1 hts gX1_run_X1_counted rfl rfl rfl (by decide +kernel) ⟨Nat.le_of_ble_eq_true rfl, Nat.le_of_ble_eq_true rfl⟩) (va_recv hK hP (ci := 1) (q0 := 0) rfl rfl) rfl hl.1 rfl (Nat.le_of_ble_eq_true rfl) dX1_run_130 ⟨Nat.zero_le _, Nat.zero_le _⟩ (fun H locs hP hD hS => ?_)
                  refine W.eq (g2 := F0 m 133 ls [.int r23]) rfl ?_
                  obtain ⟨rfl, rfl⟩ := o_s hF
                  exact rt_i X hr hlocks hP hD hS dX1_run_133
        · have hF := o_t c6 hF
          refine lv_iconst (v := (-1)) hx hb dX1_run_23 (by decide) ?_
          obtain ⟨rfl, rfl⟩ := o_s hF
          exact rt_i X hr hlocks hP hD hS dX1_run_24
def fX1_shuntOnto_j36 (z0 : SC) (w1 : Nat) (w2 : Nat) (y3 : Int32) : Option (Int32 × SC) := if w1 ∈ z0.2.1 then if w1 ∈ z0.2.1 then let_ ((setS z0.1 w1 4 ((z0.1 w1 4) - y3), z0.2) : SC) (fun z2 => if w2 ∈ z2.2.1 then if w2 ∈ z2.2.1 then let_ ((setS z2.1 w2 4 ((z2.1 w2 4) + y3), z2.2) : SC) (fun z4 => bd_ (fX1_let z4 w2) (fun r5 z5 => some (1, z5))) else none else none) else none else none
set_option maxRecDepth 100000 in
set_option maxHeartbeats 4000000 in
theorem jX1_shuntOnto_36 {p : Program} {l : Launch} {e : Env} {s : State} {m : MethodId} {args : Array Value} {below : List Frame} {meth : Method} {c : Code} {G : va_G} {cy cyO : ClassId} {a : Nat → Nat} {A : Nat → Prop} {r : Int32} {u : SC} (X : CallFix p m c cX1_shuntOnto 5 s args wsX1_shuntOnto RX1) (hr : meth.sig.returnType = (some .int)) (hlocks : meth.locks = false) (hK : va_K G vwCl (tys_ cy cyO) s) (hN : nw s) (hA : ∀ q, s.heap.size ≤ q → A q) : ∀ (z0 : SC) (w1 : Nat) (w2 : Nat) (y3 : Int32), fX1_shuntOnto_j36 z0 w1 w2 y3 = some (r, u) → ∀ (H : Heap) (locs : List Loc), va_P G vwCl (cW a cy cyO z0) H → va_D A (cW a cy cyO z0) → va_S A s.heap H locs → ∀ (ls : Array Slot), lv_has ls 5 [(0, .ref (a 0)), (1, .ref w1), (2, .ref w2), (3, .int y3)] → W p l e ({ frames := 1, cells := 0, slots := 0, locals := 21 } : Room) s m args below meth c H locs 0 0 (MQ below (qg (some (.int r)) (fun t => wPost G A (cW a cy cyO u) t) A) args s 0 0 A) (F0 m 36 ls []) := by
  obtain ⟨hx, hb, hml, hown, hts⟩ := id X
  have hin1 : ∀ w ∈ wsX10, w ∈ wsX1_shuntOnto := by decide +kernel
  have hin0 : ∀ w ∈ wsX00, w ∈ wsX1_shuntOnto := by decide +kernel
  intro z0 w1 w2 y3 hF H locs hP hD hS ls hl
  unfold fX1_shuntOnto_j36 at hF
  refine lv_aload_n hx hb dX1_shuntOnto_36 rfl (lv_at hl 1 rfl) ?_
  refine lv_dup hx hb dX1_shuntOnto_37 rfl ?_
  obtain ⟨h1, hF⟩ := o_i hF
  refine cs_get X hin0 hK hN hP h1 4 (by decide) (by decide) (by decide) (v := .int (z0.1 w1 4)) rfl dX1_shuntOnto_38 ?_
  refine lv_iload_n hx hb dX1_shuntOnto_41 rfl (lv_at hl 3 rfl) ?_
  refine lv_isub hx hb dX1_shuntOnto_42 ?_
  obtain ⟨h2, hF⟩ := o_i hF
  refine cs_put X hin0 hK hN hP hD hS h2 4 (by decide) (by decide) (by decide) rfl dX1_shuntOnto_43 (fun H locs hP hD hS => ?_)
  obtain ⟨z2, e2, hF⟩ := o_l hF
  have hP : va_P G vwCl (cW a cy cyO z2) H := by rw [e2]; exact hP
  have hD : va_D A (cW a cy cyO z2) := by rw [e2]; exact hD
  refine lv_aload_n hx hb dX1_shuntOnto_46 rfl (lv_at hl 2 rfl) ?_
  refine lv_dup hx hb dX1_shuntOnto_47 rfl ?_
  obtain ⟨h3, hF⟩ := o_i hF
  refine cs_get X hin0 hK hN hP h3 4 (by decide) (by decide) (by decide) (v := .int (z2.1 w2 4)) rfl dX1_shuntOnto_48 ?_
  refine lv_iload_n hx hb dX1_shuntOnto_51 rfl (lv_at hl 3 rfl) ?_
  refine lv_iadd hx hb dX1_shuntOnto_52 ?_
  obtain ⟨h4, hF⟩ := o_i hF
  refine cs_put X hin0 hK hN hP hD hS h4 4 (by decide) (by decide) (by decide) rfl dX1_shuntOnto_53 (fun H locs hP hD hS => ?_)
  obtain ⟨z4, e4, hF⟩ := o_l hF
  have hP : va_P G vwCl (cW a cy cyO z4) H := by rw [e4]; exact hP
  have hD : va_D A (cW a cy cyO z4) := by rw [e4]; exact hD
  refine lv_iconst (v := 1) hx hb dX1_shuntOnto_56 (by decide) ?_
  refine lv_istore (lv' := [(4, .int 1), (0, .ref (a 0)), (1, .ref w1), (2, .ref w2), (3, .int y3)]) hx hb dX1_shuntOnto_57 hl (by decide) rfl (fun ls hl => ?_)
  refine lv_aload_n hx hb dX1_shuntOnto_59 rfl (lv_at hl 1 rfl) ?_
  refine lv_aload_n hx hb dX1_shuntOnto_60 rfl (lv_at hl 3 rfl) ?_
  obtain ⟨r5, z5, hG5, hF⟩ := o_b hF
  refine cl_V (C := RX1) (rest := []) X hK hN hA hP hD hS (kX1_let l G cy cyO a z4 w2 r5 z5 hG5) (cwV 1 hts gX1_shuntOnto_X1_let rfl rfl rfl (by decide +kernel) ⟨Nat.le_of_ble_eq_true rfl, Nat.le_of_ble_eq_true rfl⟩) (va_recv hK hP (ci := 1) (q0 := 0) rfl rfl) rfl hl.1 rfl (Nat.le_of_ble_eq_true rfl) dX1_shuntOnto_61 ⟨Nat.zero_le _, Nat.zero_le _⟩ (fun H locs hP hD hS => ?_)
  refine W.eq (g2 := F0 m 64 ls []) rfl ?_
  refine lv_iload hx hb dX1_shuntOnto_64 (lv_at hl 0 rfl) ?_
  obtain ⟨rfl, rfl⟩ := o_s hF
  exact rt_i X hr hlocks hP hD hS dX1_shuntOnto_66
def fX1_shuntOnto (z0 : SC) (x1 : Nat) (x2 : Nat) (x3 : Int32) : Option (Int32 × SC) := bd_ (fX1_claim z0 x2) (fun r1 z1 => if x1 ∈ z1.2.1 then (if (z1.1 x1 4) < x3 then bd_ (fX1_let z1 x2) (fun r4 z4 => some (0, z4)) else (if ((some x1) : Option Nat) = (some x2) then (fX1_shuntOnto_j36 z1 x1 x2 x3) else if x2 ∈ z1.2.1 then bd_ (fX0_hasRoomFor z1 x2 x3) (fun r6 z6 => (if r6 = 0 then bd_ (fX1_let z6 x2) (fun r9 z9 => some (0, z9)) else (fX1_shuntOnto_j36 z6 x1 x2 x3))) else none)) else none)
set_option maxRecDepth 100000 in
set_option maxHeartbeats 4000000 in
theorem kX1_shuntOnto (l : Launch) (G : va_G) (cy cyO : ClassId) (a : Nat → Nat) (z0 : SC) (x1 : Nat) (x2 : Nat) (x3 : Int32) (r : Int32) (u : SC) (hF : fX1_shuntOnto z0 x1 x2 x3 = some (r, u)) : Ct l G (tys_ cy cyO) yX1_shuntOnto wsX1_shuntOnto ({ frames := 1, cells := 0, slots := 0, locals := 21 } : Room) [.ref (a 0), .ref x1, .ref x2, .int x3] (cW a cy cyO z0) (some (.int r)) (cW a cy cyO u) := by
  unfold fX1_shuntOnto at hF
  refine ct_of (cc := cX1_shuntOnto) (maxL := 5) (ret := (some .int)) (own := RX1) (by decide) rfl (Nat.le_of_ble_eq_true rfl) rfl ?_
  intro p e s m below meth c A ls X hr hlocks _ hK hN hA hP hD hl
  have hS : va_S A s.heap s.heap [] := va_S.rf
  have hl : lv_has ls 5 [(0, .ref (a 0)), (1, .ref x1), (2, .ref x2), (3, .int x3)] := hl
  obtain ⟨hx, hb, hml, hown, hts⟩ := id X
  have hin1 : ∀ w ∈ wsX10, w ∈ wsX1_shuntOnto := by decide +kernel
  have hin0 : ∀ w ∈ wsX00, w ∈ wsX1_shuntOnto := by decide +kernel
  refine lv_aload_n hx hb dX1_shuntOnto_0 rfl (lv_at hl 2 rfl) ?_
  refine lv_ifnonnull (tgt := 7) hx hb dX1_shuntOnto_1 (by decide) ?_
  refine lv_aload_n hx hb dX1_shuntOnto_7 rfl (lv_at hl 0 rfl) ?_
  refine lv_aload_n hx hb dX1_shuntOnto_8 rfl (lv_at hl 2 rfl) ?_
  obtain ⟨r1, z1, hG1, hF⟩ := o_b hF
  refine cl_V (C := RX1) (rest := []) X hK hN hA hP hD hS (kX1_claim l G cy cyO a z0 x2 r1 z1 hG1) (cwV 1 hts gX1_shuntOnto_X1_claim rfl rfl rfl (by decide +kernel) ⟨Nat.le_of_ble_eq_true rfl, Nat.le_of_ble_eq_true rfl⟩) (va_recv hK hP (ci := 1) (q0 := 0) rfl rfl) rfl hl.1 rfl (Nat.le_of_ble_eq_true rfl) dX1_shuntOnto_9 ⟨Nat.zero_le _, Nat.zero_le _⟩ (fun H locs hP hD hS => ?_)
  refine W.eq (g2 := F0 m 12 ls []) rfl ?_
  refine lv_iconst (v := 0) hx hb dX1_shuntOnto_12 (by decide) ?_
  refine lv_istore (lv' := [(4, .int 0), (0, .ref (a 0)), (1, .ref x1), (2, .ref x2), (3, .int x3)]) hx hb dX1_shuntOnto_13 hl (by decide) rfl (fun ls hl => ?_)
  refine lv_aload_n hx hb dX1_shuntOnto_15 rfl (lv_at hl 2 rfl) ?_
  obtain ⟨h2, hF⟩ := o_i hF
  refine cs_get X hin0 hK hN hP h2 4 (by decide) (by decide) (by decide) (v := .int (z1.1 x1 4)) rfl dX1_shuntOnto_16 ?_
  refine lv_iload_n hx hb dX1_shuntOnto_19 rfl (lv_at hl 4 rfl) ?_
  refine lv_icmp_lt (tgt := 59) hx hb dX1_shuntOnto_20 (by decide) (fun c3 => ?_) (fun c3 => ?_)
  · have hF := o_t c3 hF
    refine lv_aload_n hx hb dX1_shuntOnto_59 rfl (lv_at hl 1 rfl) ?_
    refine lv_aload_n hx hb dX1_shuntOnto_60 rfl (lv_at hl 3 rfl) ?_
    obtain ⟨r4, z4, hG4, hF⟩ := o_b hF
    refine cl_V (C := RX1) (rest := []) X hK hN hA hP hD hS (kX1_let l G cy cyO a z1 x2 r4 z4 hG4) (cwV 1 hts gX1_shuntOnto_X1_let rfl rfl rfl (by decide +kernel) ⟨Nat.le_of_ble_eq_true rfl, Nat.le_of_ble_eq_true rfl⟩) (va_recv hK hP (ci := 1) (q0 := 0) rfl rfl) rfl hl.1 rfl (Nat.le_of_ble_eq_true rfl) dX1_shuntOnto_61 ⟨Nat.zero_le _, Nat.zero_le _⟩ (fun H locs hP hD hS => ?_)
    refine W.eq (g2 := F0 m 64 ls []) rfl ?_
    refine lv_iload hx hb dX1_shuntOnto_64 (lv_at hl 0 rfl) ?_
    obtain ⟨rfl, rfl⟩ := o_s hF
    exact rt_i X hr hlocks hP hD hS dX1_shuntOnto_66
  · have hF := o_f c3 hF
    refine lv_aload_n hx hb dX1_shuntOnto_23 rfl (lv_at hl 2 rfl) ?_
    refine lv_aload_n hx hb dX1_shuntOnto_24 rfl (lv_at hl 3 rfl) ?_
    refine lv_acmp_eq (rx := (some x1)) (ry := (some x2)) (tgt := 36) hx hb dX1_shuntOnto_25 (by decide) (fun c5 => ?_) (fun c5 => ?_)
    · have hF := o_t c5 hF
      exact jX1_shuntOnto_36 X hr hlocks hK hN hA z1 x1 x2 x3 hF H locs hP hD hS ls (lv_sub hl [1, 2, 3, 4] rfl)
    · have hF := o_f c5 hF
      refine lv_aload_n hx hb dX1_shuntOnto_28 rfl (lv_at hl 3 rfl) ?_
      refine lv_iload_n hx hb dX1_shuntOnto_29 rfl (lv_at hl 4 rfl) ?_
      obtain ⟨h7, hF⟩ := o_i hF
      obtain ⟨r6, z6, hG6, hF⟩ := o_b hF
      refine cl_N (C := RX0) (rest := []) X hK hN hA hP hD hS (kX0_hasRoomFor l G cy cyO a z1 x2 x3 r6 z6 hG6) ⟨va_cnB 1 hts gX1_shuntOnto_X0_hasRoomFor_n139 rfl rfl rfl (hN.2 (139, yX0_hasRoomFor) (by decide +kernel)) (hts (.initialized RX0) (by decide +kernel)) (by decide +kernel) ⟨Nat.le_of_ble_eq_true rfl, Nat.le_of_ble_eq_true rfl⟩, hts (.instanceMethod yX0_hasRoomFor) (by decide +kernel), hts (.selects RX0 yX0_hasRoomFor yX0_hasRoomFor) (by decide +kernel)⟩ (cs_recv hK hP h7) rfl hl.1 rfl (Nat.le_of_ble_eq_true rfl) dX1_shuntOnto_30 ⟨Nat.zero_le _, Nat.zero_le _⟩ (fun H locs hP hD hS => ?_)
      refine W.eq (g2 := F0 m 33 ls [.int r6]) rfl ?_
      refine lv_if_eq (tgt := 59) hx hb dX1_shuntOnto_33 (by decide) (fun c8 => ?_) (fun c8 => ?_)
      · have hF := o_t c8 hF
        refine lv_aload_n hx hb dX1_shuntOnto_59 rfl (lv_at hl 1 rfl) ?_
        refine lv_aload_n hx hb dX1_shuntOnto_60 rfl (lv_at hl 3 rfl) ?_
        obtain ⟨r9, z9, hG9, hF⟩ := o_b hF
        refine cl_V (C := RX1) (rest := []) X hK hN hA hP hD hS (kX1_let l G cy cyO a z6 x2 r9 z9 hG9) (cwV 1 hts gX1_shuntOnto_X1_let rfl rfl rfl (by decide +kernel) ⟨Nat.le_of_ble_eq_true rfl, Nat.le_of_ble_eq_true rfl⟩) (va_recv hK hP (ci := 1) (q0 := 0) rfl rfl) rfl hl.1 rfl (Nat.le_of_ble_eq_true rfl) dX1_shuntOnto_61 ⟨Nat.zero_le _, Nat.zero_le _⟩ (fun H locs hP hD hS => ?_)
        refine W.eq (g2 := F0 m 64 ls []) rfl ?_
        refine lv_iload hx hb dX1_shuntOnto_64 (lv_at hl 0 rfl) ?_
        obtain ⟨rfl, rfl⟩ := o_s hF
        exact rt_i X hr hlocks hP hD hS dX1_shuntOnto_66
      · have hF := o_f c8 hF
        exact jX1_shuntOnto_36 X hr hlocks hK hN hA z6 x1 x2 x3 hF H locs hP hD hS ls (lv_sub hl [1, 2, 3, 4] rfl)
def fX1_shuntOntoN (z0 : SC) (x1 : Nat) (x3 : Int32) : Option (Int32 × SC) := some ((-11), z0)
set_option maxRecDepth 100000 in
set_option maxHeartbeats 4000000 in
theorem kX1_shuntOntoN (l : Launch) (G : va_G) (cy cyO : ClassId) (a : Nat → Nat) (z0 : SC) (x1 : Nat) (x3 : Int32) (r : Int32) (u : SC) (hF : fX1_shuntOntoN z0 x1 x3 = some (r, u)) : Ct l G (tys_ cy cyO) yX1_shuntOnto wsX1_shuntOnto ({ frames := 0, cells := 0, slots := 0, locals := 0 } : Room) [.ref (a 0), .ref x1, .null, .int x3] (cW a cy cyO z0) (some (.int r)) (cW a cy cyO u) := by
  unfold fX1_shuntOntoN at hF
  refine ct_of (cc := cX1_shuntOnto) (maxL := 5) (ret := (some .int)) (own := RX1) (by decide) rfl (Nat.le_of_ble_eq_true rfl) rfl ?_
  intro p e s m below meth c A ls X hr hlocks _ hK hN hA hP hD hl
  have hS : va_S A s.heap s.heap [] := va_S.rf
  have hl : lv_has ls 5 [(0, .ref (a 0)), (1, .ref x1), (2, .null), (3, .int x3)] := hl
  obtain ⟨hx, hb, hml, hown, hts⟩ := id X
  have hin1 : ∀ w ∈ wsX10, w ∈ wsX1_shuntOnto := by decide +kernel
  have hin0 : ∀ w ∈ wsX00, w ∈ wsX1_shuntOnto := by decide +kernel
  refine lv_aload_nN hx hb dX1_shuntOnto_0 rfl (lv_at hl 2 rfl) ?_
  refine lv_ifnonnullN hx hb dX1_shuntOnto_1 ?_
  refine lv_bipush (v := (-11)) hx hb dX1_shuntOnto_4 (by decide) ?_
  obtain ⟨rfl, rfl⟩ := o_s hF
  exact rt_i X hr hlocks hP hD hS dX1_shuntOnto_6
def fX1_shunt (z0 : SC) (x1 : Int32) (x2 : Int32) (x3 : Int32) : Option (Int32 × SC) := bd_ (fX1_isPlace z0 x1) (fun r1 z1 => (if r1 = 0 then some ((-1), z1) else bd_ (fX1_isPlace z1 x2) (fun r3 z3 => (if r3 = 0 then some ((-1), z3) else bd_ (fX1_isAxles z3 x3) (fun r5 z5 => (if r5 = 0 then some ((-1), z5) else let_ ((z5.1, z5.2.1, z5.2.2.1, z5.2.2.2.1, z5.2.2.2.2.1, z5.2.2.2.2.2.1, 0, z5.2.2.2.2.2.2.2) : SC) (fun z7 => if x1 < 0 ∨ 12 ≤ x1.toNatClampNeg then none else (opt_ (z7.2.2.1 x1.toNatClampNeg) (some ((-11), z7)) (fun b8 => bd_ (fX1_claim z7 b8) (fun r9 z9 => if x2 < 0 ∨ 12 ≤ x2.toNatClampNeg then none else (opt_ (z9.2.2.1 x2.toNatClampNeg) (bd_ (fX1_shuntOntoN z9 b8 x3) (fun r11 z11 => bd_ (fX1_let z11 b8) (fun r12 z12 => some (r11, z12)))) (fun b10 => bd_ (fX1_shuntOnto z9 b8 b10 x3) (fun r13 z13 => bd_ (fX1_let z13 b8) (fun r14 z14 => some (r13, z14)))))))))))))))
set_option maxRecDepth 100000 in
set_option maxHeartbeats 4000000 in
theorem kX1_shunt (l : Launch) (G : va_G) (cy cyO : ClassId) (a : Nat → Nat) (z0 : SC) (x1 : Int32) (x2 : Int32) (x3 : Int32) (r : Int32) (u : SC) (hF : fX1_shunt z0 x1 x2 x3 = some (r, u)) : Ct l G (tys_ cy cyO) yX1_shunt wsX1_shunt ({ frames := 2, cells := 0, slots := 0, locals := 45 } : Room) [.ref (a 0), .int x1, .int x2, .int x3] (cW a cy cyO z0) (some (.int r)) (cW a cy cyO u) := by
  unfold fX1_shunt at hF
  refine ct_of (cc := cX1_shunt) (maxL := 6) (ret := (some .int)) (own := RX1) (by decide) rfl (Nat.le_of_ble_eq_true rfl) rfl ?_
  intro p e s m below meth c A ls X hr hlocks _ hK hN hA hP hD hl
  have hS : va_S A s.heap s.heap [] := va_S.rf
  have hl : lv_has ls 6 [(0, .ref (a 0)), (1, .int x1), (2, .int x2), (3, .int x3)] := hl
  obtain ⟨hx, hb, hml, hown, hts⟩ := id X
  have hin1 : ∀ w ∈ wsX10, w ∈ wsX1_shunt := by decide +kernel
  refine lv_iload_n hx hb dX1_shunt_0 rfl (lv_at hl 1 rfl) ?_
  obtain ⟨r1, z1, hG1, hF⟩ := o_b hF
  refine cl_S (rest := []) X hK hN hA hP hD hS (kX1_isPlace l G cy cyO a z0 x1 r1 z1 hG1) (va_cwS 1 hts gX1_shunt_X1_isPlace rfl rfl rfl (by decide +kernel) ⟨Nat.le_of_ble_eq_true rfl, Nat.le_of_ble_eq_true rfl⟩) rfl hl.1 rfl (Nat.le_of_ble_eq_true rfl) dX1_shunt_1 ⟨Nat.zero_le _, Nat.zero_le _⟩ (fun H locs hP hD hS => ?_)
  refine W.eq (g2 := F0 m 4 ls [.int r1]) rfl ?_
  refine lv_if_eq (tgt := 21) hx hb dX1_shunt_4 (by decide) (fun c2 => ?_) (fun c2 => ?_)
  · have hF := o_t c2 hF
    refine lv_iconst (v := (-1)) hx hb dX1_shunt_21 (by decide) ?_
    obtain ⟨rfl, rfl⟩ := o_s hF
    exact rt_i X hr hlocks hP hD hS dX1_shunt_22
  · have hF := o_f c2 hF
    refine lv_iload_n hx hb dX1_shunt_7 rfl (lv_at hl 2 rfl) ?_
    obtain ⟨r3, z3, hG3, hF⟩ := o_b hF
    refine cl_S (rest := []) X hK hN hA hP hD hS (kX1_isPlace l G cy cyO a z1 x2 r3 z3 hG3) (va_cwS 1 hts gX1_shunt_X1_isPlace rfl rfl rfl (by decide +kernel) ⟨Nat.le_of_ble_eq_true rfl, Nat.le_of_ble_eq_true rfl⟩) rfl hl.1 rfl (Nat.le_of_ble_eq_true rfl) dX1_shunt_8 ⟨Nat.zero_le _, Nat.zero_le _⟩ (fun H locs hP hD hS => ?_)
    refine W.eq (g2 := F0 m 11 ls [.int r3]) rfl ?_
    refine lv_if_eq (tgt := 21) hx hb dX1_shunt_11 (by decide) (fun c4 => ?_) (fun c4 => ?_)
    · have hF := o_t c4 hF
      refine lv_iconst (v := (-1)) hx hb dX1_shunt_21 (by decide) ?_
      obtain ⟨rfl, rfl⟩ := o_s hF
      exact rt_i X hr hlocks hP hD hS dX1_shunt_22
    · have hF := o_f c4 hF
      refine lv_iload_n hx hb dX1_shunt_14 rfl (lv_at hl 3 rfl) ?_
      obtain ⟨r5, z5, hG5, hF⟩ := o_b hF
      refine cl_S (rest := []) X hK hN hA hP hD hS (kX1_isAxles l G cy cyO a z3 x3 r5 z5 hG5) (va_cwS 1 hts gX1_shunt_X1_isAxles rfl rfl rfl (by decide +kernel) ⟨Nat.le_of_ble_eq_true rfl, Nat.le_of_ble_eq_true rfl⟩) rfl hl.1 rfl (Nat.le_of_ble_eq_true rfl) dX1_shunt_15 ⟨Nat.zero_le _, Nat.zero_le _⟩ (fun H locs hP hD hS => ?_)
      refine W.eq (g2 := F0 m 18 ls [.int r5]) rfl ?_
      refine lv_if_ne (tgt := 23) hx hb dX1_shunt_18 (by decide) (fun c6 => ?_) (fun c6 => ?_)
      · have hF := o_f c6 hF
        refine lv_aload_n hx hb dX1_shunt_23 rfl (lv_at hl 0 rfl) ?_
        refine lv_iconst (v := 0) hx hb dX1_shunt_24 (by decide) ?_
        refine va_put (D := G) (ci := 1) (v := .int 0) (ty := .int) (C := RX1) (T := TX1) (N := 10) hx hb hts hin1 tyX1 tyX1_ok nmX1 hown hK hP hD hS 0 rfl rfl 4 (by decide) (hts (.fieldLink RX1 54 "SignalBox" "traceLength" "I") (by decide +kernel)) (fun _ h9 => h9) rfl (by decide +kernel) rfl rfl (Nat.le_of_ble_eq_true rfl) dX1_shunt_25 (fun H locs hP hD hS => ?_)
        obtain ⟨z7, e7, hF⟩ := o_l hF
        have hP : va_P G vwCl (cW a cy cyO z7) H := by rw [e7]; exact hP
        have hD : va_D A (cW a cy cyO z7) := by rw [e7]; exact hD
        refine lv_aload_n hx hb dX1_shunt_28 rfl (lv_at hl 0 rfl) ?_
        refine va_get (D := G) (ci := 1) (v := .ref (a 1)) (C := RX1) (T := TX1) (N := 10) hx hb hts hin1 hown hK hP 0 rfl rfl 0 (by decide) (hts (.fieldLink RX1 11 "SignalBox" "standing" "[LSignalBox$Section;") (by decide +kernel)) (fun _ h9 => h9) rfl dX1_shunt_29 ?_
        refine lv_iload_n hx hb dX1_shunt_32 rfl (lv_at hl 1 rfl) ?_
        obtain ⟨h8, hF⟩ := o_n hF
        refine va_aldq (n := 12) (f := z7.2.2.1) (cA := cyO) (C := RX0) hx hb hK hP 1 1 rfl rfl h8 dX1_shunt_33 ?_
        rcases ho8 : z7.2.2.1 x1.toNatClampNeg with _ | b8
        · have hF := o_mn ho8 hF
          refine w_none rfl ?_
          refine lv_astoreN (lv' := [(4, .null), (0, .ref (a 0)), (1, .int x1), (2, .int x2), (3, .int x3)]) hx hb dX1_shunt_34 hl (by decide) rfl (fun ls hl => ?_)
          refine lv_aloadN hx hb dX1_shunt_36 (lv_at hl 0 rfl) ?_
          refine lv_ifnonnullN hx hb dX1_shunt_38 ?_
          refine lv_bipush (v := (-11)) hx hb dX1_shunt_41 (by decide) ?_
          obtain ⟨rfl, rfl⟩ := o_s hF
          exact rt_i X hr hlocks hP hD hS dX1_shunt_43
        · have hF := o_ms ho8 hF
          refine w_some rfl ?_
          refine lv_astore (lv' := [(4, .ref b8), (0, .ref (a 0)), (1, .int x1), (2, .int x2), (3, .int x3)]) hx hb dX1_shunt_34 hl (by decide) rfl (fun ls hl => ?_)
          refine lv_aload hx hb dX1_shunt_36 (lv_at hl 0 rfl) ?_
          refine lv_ifnonnull (tgt := 44) hx hb dX1_shunt_38 (by decide) ?_
          refine lv_aload_n hx hb dX1_shunt_44 rfl (lv_at hl 1 rfl) ?_
          refine lv_aload hx hb dX1_shunt_45 (lv_at hl 0 rfl) ?_
          obtain ⟨r9, z9, hG9, hF⟩ := o_b hF
          refine cl_V (C := RX1) (rest := []) X hK hN hA hP hD hS (kX1_claim l G cy cyO a z7 b8 r9 z9 hG9) (cwV 1 hts gX1_shunt_X1_claim rfl rfl rfl (by decide +kernel) ⟨Nat.le_of_ble_eq_true rfl, Nat.le_of_ble_eq_true rfl⟩) (va_recv hK hP (ci := 1) (q0 := 0) rfl rfl) rfl hl.1 rfl (Nat.le_of_ble_eq_true rfl) dX1_shunt_47 ⟨Nat.zero_le _, Nat.zero_le _⟩ (fun H locs hP hD hS => ?_)
          refine W.eq (g2 := F0 m 50 ls []) rfl ?_
          refine lv_aload_n hx hb dX1_shunt_50 rfl (lv_at hl 1 rfl) ?_
          refine lv_aload hx hb dX1_shunt_51 (lv_at hl 0 rfl) ?_
          refine lv_aload_n hx hb dX1_shunt_53 rfl (lv_at hl 1 rfl) ?_
          refine va_get (D := G) (ci := 1) (v := .ref (a 1)) (C := RX1) (T := TX1) (N := 10) hx hb hts hin1 hown hK hP 0 rfl rfl 0 (by decide) (hts (.fieldLink RX1 11 "SignalBox" "standing" "[LSignalBox$Section;") (by decide +kernel)) (fun _ h9 => h9) rfl dX1_shunt_54 ?_
          refine lv_iload_n hx hb dX1_shunt_57 rfl (lv_at hl 3 rfl) ?_
          obtain ⟨h10, hF⟩ := o_n hF
          refine va_aldq (n := 12) (f := z9.2.2.1) (cA := cyO) (C := RX0) hx hb hK hP 1 1 rfl rfl h10 dX1_shunt_58 ?_
          rcases ho10 : z9.2.2.1 x2.toNatClampNeg with _ | b10
          · have hF := o_mn ho10 hF
            refine w_none rfl ?_
            refine lv_iload_n hx hb dX1_shunt_59 rfl (lv_at hl 4 rfl) ?_
            obtain ⟨r11, z11, hG11, hF⟩ := o_b hF
            refine cl_V (C := RX1) (rest := []) X hK hN hA hP hD hS (kX1_shuntOntoN l G cy cyO a z9 b8 x3 r11 z11 hG11) (cwV 3 hts gX1_shunt_X1_shuntOnto rfl rfl rfl (by decide +kernel) ⟨Nat.le_of_ble_eq_true rfl, Nat.le_of_ble_eq_true rfl⟩) (va_recv hK hP (ci := 1) (q0 := 0) rfl rfl) rfl hl.1 rfl (Nat.le_of_ble_eq_true rfl) dX1_shunt_60 ⟨Nat.zero_le _, Nat.zero_le _⟩ (fun H locs hP hD hS => ?_)
            refine W.eq (g2 := F0 m 63 ls [.int r11]) rfl ?_
            refine lv_istore (lv' := [(5, .int r11), (4, .ref b8), (0, .ref (a 0)), (1, .int x1), (2, .int x2), (3, .int x3)]) hx hb dX1_shunt_63 hl (by decide) rfl (fun ls hl => ?_)
            refine lv_aload_n hx hb dX1_shunt_65 rfl (lv_at hl 2 rfl) ?_
            refine lv_aload hx hb dX1_shunt_66 (lv_at hl 1 rfl) ?_
            obtain ⟨r12, z12, hG12, hF⟩ := o_b hF
            refine cl_V (C := RX1) (rest := []) X hK hN hA hP hD hS (kX1_let l G cy cyO a z11 b8 r12 z12 hG12) (cwV 1 hts gX1_shunt_X1_let rfl rfl rfl (by decide +kernel) ⟨Nat.le_of_ble_eq_true rfl, Nat.le_of_ble_eq_true rfl⟩) (va_recv hK hP (ci := 1) (q0 := 0) rfl rfl) rfl hl.1 rfl (Nat.le_of_ble_eq_true rfl) dX1_shunt_68 ⟨Nat.zero_le _, Nat.zero_le _⟩ (fun H locs hP hD hS => ?_)
            refine W.eq (g2 := F0 m 71 ls []) rfl ?_
            refine lv_iload hx hb dX1_shunt_71 (lv_at hl 0 rfl) ?_
            obtain ⟨rfl, rfl⟩ := o_s hF
            exact rt_i X hr hlocks hP hD hS dX1_shunt_73
          · have hF := o_ms ho10 hF
            refine w_some rfl ?_
            refine lv_iload_n hx hb dX1_shunt_59 rfl (lv_at hl 4 rfl) ?_
            obtain ⟨r13, z13, hG13, hF⟩ := o_b hF
            refine cl_V (C := RX1) (rest := []) X hK hN hA hP hD hS (kX1_shuntOnto l G cy cyO a z9 b8 b10 x3 r13 z13 hG13) (cwV 3 hts gX1_shunt_X1_shuntOnto rfl rfl rfl (by decide +kernel) ⟨Nat.le_of_ble_eq_true rfl, Nat.le_of_ble_eq_true rfl⟩) (va_recv hK hP (ci := 1) (q0 := 0) rfl rfl) rfl hl.1 rfl (Nat.le_of_ble_eq_true rfl) dX1_shunt_60 ⟨Nat.zero_le _, Nat.zero_le _⟩ (fun H locs hP hD hS => ?_)
            refine W.eq (g2 := F0 m 63 ls [.int r13]) rfl ?_
            refine lv_istore (lv' := [(5, .int r13), (4, .ref b8), (0, .ref (a 0)), (1, .int x1), (2, .int x2), (3, .int x3)]) hx hb dX1_shunt_63 hl (by decide) rfl (fun ls hl => ?_)
            refine lv_aload_n hx hb dX1_shunt_65 rfl (lv_at hl 2 rfl) ?_
            refine lv_aload hx hb dX1_shunt_66 (lv_at hl 1 rfl) ?_
            obtain ⟨r14, z14, hG14, hF⟩ := o_b hF
            refine cl_V (C := RX1) (rest := []) X hK hN hA hP hD hS (kX1_let l G cy cyO a z13 b8 r14 z14 hG14) (cwV 1 hts gX1_shunt_X1_let rfl rfl rfl (by decide +kernel) ⟨Nat.le_of_ble_eq_true rfl, Nat.le_of_ble_eq_true rfl⟩) (va_recv hK hP (ci := 1) (q0 := 0) rfl rfl) rfl hl.1 rfl (Nat.le_of_ble_eq_true rfl) dX1_shunt_68 ⟨Nat.zero_le _, Nat.zero_le _⟩ (fun H locs hP hD hS => ?_)
            refine W.eq (g2 := F0 m 71 ls []) rfl ?_
            refine lv_iload hx hb dX1_shunt_71 (lv_at hl 0 rfl) ?_
            obtain ⟨rfl, rfl⟩ := o_s hF
            exact rt_i X hr hlocks hP hD hS dX1_shunt_73
      · have hF := o_t c6 hF
        refine lv_iconst (v := (-1)) hx hb dX1_shunt_21 (by decide) ?_
        obtain ⟨rfl, rfl⟩ := o_s hF
        exact rt_i X hr hlocks hP hD hS dX1_shunt_22
