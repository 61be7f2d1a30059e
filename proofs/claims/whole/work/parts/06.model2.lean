def fX2_twoByTwo_j134 (K5 : SM → Int32 → Int32 → Int32 → Int32 → Option (Int32 × SM)) (z0 : SM) (y1 : Int32) (y2 : Int32) (y3 : Int32) (y4 : Int32) (y5 : Int32) : Option (Int32 × SM) := bd_ (fX2_let z0 y5) (fun r1 z1 => (K5 z1 y1 y2 y3 (y4 + 1)))
set_option maxRecDepth 100000 in
set_option maxHeartbeats 4000000 in
theorem jX2_twoByTwo_134 {p : Program} {l : Launch} {e : Env} {s : State} {m : MethodId} {args : Array Value} {below : List Frame} {meth : Method} {c : Code} {G : va_G} {cy cyO : ClassId} {a : Nat → Nat} {A : Nat → Prop} {r : Int32} {u : SM} (X : CallFix p m c cX2_twoByTwo 8 s args wsX2_twoByTwo RX2) (hr : meth.sig.returnType = (some .int)) (hlocks : meth.locks = false) (hK : va_K G vwCl (tys_ cy cyO) s) (hN : nw s) (hA : ∀ q, s.heap.size ≤ q → A q) (K5 : SM → Int32 → Int32 → Int32 → Int32 → Option (Int32 × SM)) (hK5 : ∀ (z0 : SM) (y1 : Int32) (y2 : Int32) (y3 : Int32) (y4 : Int32), K5 z0 y1 y2 y3 y4 = some (r, u) → ∀ (H : Heap) (locs : List Loc), va_P G vwCl (mW a cy z0) H → va_D A (mW a cy z0) → va_S A s.heap H locs → ∀ (ls : Array Slot), lv_has ls 8 [(0, .ref (a 0)), (1, .int y1), (2, .int y2), (3, .int y3), (4, .int y4)] → W p l e ({ frames := 6, cells := 0, slots := 0, locals := 134 } : Room) s m args below meth c H locs 0 0 (MQ below (qg (some (.int r)) (fun t => wPost G A (mW a cy u) t) A) args s 0 0 A) (F0 m 5 ls [])) : ∀ (z0 : SM) (y1 : Int32) (y2 : Int32) (y3 : Int32) (y4 : Int32) (y5 : Int32), fX2_twoByTwo_j134 K5 z0 y1 y2 y3 y4 y5 = some (r, u) → ∀ (H : Heap) (locs : List Loc), va_P G vwCl (mW a cy z0) H → va_D A (mW a cy z0) → va_S A s.heap H locs → ∀ (ls : Array Slot), lv_has ls 8 [(0, .ref (a 0)), (1, .int y1), (2, .int y2), (3, .int y3), (4, .int y4), (5, .int y5)] → W p l e ({ frames := 6, cells := 0, slots := 0, locals := 134 } : Room) s m args below meth c H locs 0 0 (MQ below (qg (some (.int r)) (fun t => wPost G A (mW a cy u) t) A) args s 0 0 A) (F0 m 134 ls []) := by
  obtain ⟨hx, hb, hml, hown, hts⟩ := id X
  have hin2 : ∀ w ∈ wsX20, w ∈ wsX2_twoByTwo := by decide +kernel
  intro z0 y1 y2 y3 y4 y5 hF H locs hP hD hS ls hl
  unfold fX2_twoByTwo_j134 at hF
  refine lv_aload_n hx hb dX2_twoByTwo_134 rfl (lv_at hl 0 rfl) ?_
  refine lv_iload hx hb dX2_twoByTwo_135 (lv_at hl 5 rfl) ?_
  obtain ⟨r1, z1, hG1, hF⟩ := o_b hF
  refine cl_V (C := RX2) (rest := []) X hK hN hA hP hD hS (kX2_let l G cy cyO a z0 y5 r1 z1 hG1) (cwV 1 hts gX2_twoByTwo_X2_let rfl rfl rfl (by decide +kernel) ⟨Nat.le_of_ble_eq_true rfl, Nat.le_of_ble_eq_true rfl⟩) (va_recv hK hP (ci := 2) (q0 := 0) rfl rfl) rfl hl.1 rfl (Nat.le_of_ble_eq_true rfl) dX2_twoByTwo_137 ⟨Nat.zero_le _, Nat.zero_le _⟩ (fun H locs hP hD hS => ?_)
  refine W.eq (g2 := F0 m 140 ls []) rfl ?_
  refine lv_iinc (v := y4 + 1) (lv' := [(4, .int (y4 + 1)), (0, .ref (a 0)), (1, .int y1), (2, .int y2), (3, .int y3), (5, .int y5)]) hx hb dX2_twoByTwo_140 hl (k := 4) rfl rfl (by decide) rfl (fun ls hl => ?_)
  refine lv_goto (tgt := 5) hx hb dX2_twoByTwo_143 (by decide) ?_
  exact hK5 z1 y1 y2 y3 (y4 + 1) hF H locs hP hD hS ls (lv_sub hl [1, 2, 3, 4, 0] rfl)
def fX2_twoByTwo_j110 (K5 : SM → Int32 → Int32 → Int32 → Int32 → Option (Int32 × SM)) (z0 : SM) (y1 : Int32) (y2 : Int32) (y4 : Int32) (y5 : Int32) (y6 : Int32) (y7 : Int32) : Option (Int32 × SM) := bd_ (fX2_pass z0 y5 y2) (fun r1 z1 => bd_ (fX2_ended z1 r1 y4) (fun r2 z2 => (if y6 = 0 then (fX2_twoByTwo_j134 K5 z2 y1 y2 r2 y4 y5) else bd_ (fX2_let z2 y7) (fun r4 z4 => (fX2_twoByTwo_j134 K5 z4 y1 y2 r2 y4 y5)))))
set_option maxRecDepth 100000 in
set_option maxHeartbeats 4000000 in
theorem jX2_twoByTwo_110 {p : Program} {l : Launch} {e : Env} {s : State} {m : MethodId} {args : Array Value} {below : List Frame} {meth : Method} {c : Code} {G : va_G} {cy cyO : ClassId} {a : Nat → Nat} {A : Nat → Prop} {r : Int32} {u : SM} (X : CallFix p m c cX2_twoByTwo 8 s args wsX2_twoByTwo RX2) (hr : meth.sig.returnType = (some .int)) (hlocks : meth.locks = false) (hK : va_K G vwCl (tys_ cy cyO) s) (hN : nw s) (hA : ∀ q, s.heap.size ≤ q → A q) (K5 : SM → Int32 → Int32 → Int32 → Int32 → Option (Int32 × SM)) (hK5 : ∀ (z0 : SM) (y1 : Int32) (y2 : Int32) (y3 : Int32) (y4 : Int32), K5 z0 y1 y2 y3 y4 = some (r, u) → ∀ (H : Heap) (locs : List Loc), va_P G vwCl (mW a cy z0) H → va_D A (mW a cy z0) → va_S A s.heap H locs → ∀ (ls : Array Slot), lv_has ls 8 [(0, .ref (a 0)), (1, .int y1), (2, .int y2), (3, .int y3), (4, .int y4)] → W p l e ({ frames := 6, cells := 0, slots := 0, locals := 134 } : Room) s m args below meth c H locs 0 0 (MQ below (qg (some (.int r)) (fun t => wPost G A (mW a cy u) t) A) args s 0 0 A) (F0 m 5 ls [])) : ∀ (z0 : SM) (y1 : Int32) (y2 : Int32) (y4 : Int32) (y5 : Int32) (y6 : Int32) (y7 : Int32), fX2_twoByTwo_j110 K5 z0 y1 y2 y4 y5 y6 y7 = some (r, u) → ∀ (H : Heap) (locs : List Loc), va_P G vwCl (mW a cy z0) H → va_D A (mW a cy z0) → va_S A s.heap H locs → ∀ (ls : Array Slot), lv_has ls 8 [(0, .ref (a 0)), (1, .int y1), (2, .int y2), (4, .int y4), (5, .int y5), (6, .int y6), (7, .int y7)] → W p l e ({ frames := 6, cells := 0, slots := 0, locals := 134 } : Room) s m args below meth c H locs 0 0 (MQ below (qg (some (.int r)) (fun t => wPost G A (mW a cy u) t) A) args s 0 0 A) (F0 m 110 ls []) := by
  obtain ⟨hx, hb, hml, hown, hts⟩ := id X
  have hin2 : ∀ w ∈ wsX20, w ∈ wsX2_twoByTwo := by decide +kernel
  intro z0 y1 y2 y4 y5 y6 y7 hF H locs hP hD hS ls hl
  unfold fX2_twoByTwo_j110 at hF
  refine lv_aload_n hx hb dX2_twoByTwo_110 rfl (lv_at hl 0 rfl) ?_
  refine lv_iload hx hb dX2_twoByTwo_111 (lv_at hl 4 rfl) ?_
  refine lv_iload_n hx hb dX2_twoByTwo_113 rfl (lv_at hl 2 rfl) ?_
  obtain ⟨r1, z1, hG1, hF⟩ := o_b hF
  refine cl_V (C := RX2) (rest := []) X hK hN hA hP hD hS (kX2_pass l G cy cyO a z0 y5 y2 r1 z1 hG1) (cwV 2 hts gX2_twoByTwo_X2_pass rfl rfl rfl (by decide +kernel) ⟨Nat.le_of_ble_eq_true rfl, Nat.le_of_ble_eq_true rfl⟩) (va_recv hK hP (ci := 2) (q0 := 0) rfl rfl) rfl hl.1 rfl (Nat.le_of_ble_eq_true rfl) dX2_twoByTwo_114 ⟨Nat.zero_le _, Nat.zero_le _⟩ (fun H locs hP hD hS => ?_)
  refine W.eq (g2 := F0 m 117 ls [.int r1]) rfl ?_
  refine lv_iload hx hb dX2_twoByTwo_117 (lv_at hl 3 rfl) ?_
  obtain ⟨r2, z2, hG2, hF⟩ := o_b hF
  refine cl_S (rest := []) X hK hN hA hP hD hS (kX2_ended l G cy cyO a z1 r1 y4 r2 z2 hG2) (va_cwS 2 hts gX2_twoByTwo_X2_ended rfl rfl rfl (by decide +kernel) ⟨Nat.le_of_ble_eq_true rfl, Nat.le_of_ble_eq_true rfl⟩) rfl hl.1 rfl (Nat.le_of_ble_eq_true rfl) dX2_twoByTwo_119 ⟨Nat.zero_le _, Nat.zero_le _⟩ (fun H locs hP hD hS => ?_)
  refine W.eq (g2 := F0 m 122 ls [.int r2]) rfl ?_
  refine lv_istore_n (lv' := [(3, .int r2), (0, .ref (a 0)), (1, .int y1), (2, .int y2), (4, .int y4), (5, .int y5), (6, .int y6), (7, .int y7)]) hx hb dX2_twoByTwo_122 rfl hl (by decide) rfl (fun ls hl => ?_)
  refine lv_iload hx hb dX2_twoByTwo_123 (lv_at hl 6 rfl) ?_
  refine lv_if_eq (tgt := 134) hx hb dX2_twoByTwo_125 (by decide) (fun c3 => ?_) (fun c3 => ?_)
  · have hF := o_t c3 hF
    exact jX2_twoByTwo_134 X hr hlocks hK hN hA K5 hK5 z2 y1 y2 r2 y4 y5 hF H locs hP hD hS ls (lv_sub hl [1, 2, 3, 0, 4, 5] rfl)
  · have hF := o_f c3 hF
    refine lv_aload_n hx hb dX2_twoByTwo_128 rfl (lv_at hl 1 rfl) ?_
    refine lv_iload hx hb dX2_twoByTwo_129 (lv_at hl 7 rfl) ?_
    obtain ⟨r4, z4, hG4, hF⟩ := o_b hF
    refine cl_V (C := RX2) (rest := []) X hK hN hA hP hD hS (kX2_let l G cy cyO a z2 y7 r4 z4 hG4) (cwV 1 hts gX2_twoByTwo_X2_let rfl rfl rfl (by decide +kernel) ⟨Nat.le_of_ble_eq_true rfl, Nat.le_of_ble_eq_true rfl⟩) (va_recv hK hP (ci := 2) (q0 := 0) rfl rfl) rfl hl.1 rfl (Nat.le_of_ble_eq_true rfl) dX2_twoByTwo_131 ⟨Nat.zero_le _, Nat.zero_le _⟩ (fun H locs hP hD hS => ?_)
    refine W.eq (g2 := F0 m 134 ls []) rfl ?_
    exact jX2_twoByTwo_134 X hr hlocks hK hN hA K5 hK5 z4 y1 y2 r2 y4 y5 hF H locs hP hD hS ls (lv_sub hl [1, 2, 3, 0, 4, 5] rfl)
def fX2_twoByTwo_j99 (K5 : SM → Int32 → Int32 → Int32 → Int32 → Option (Int32 × SM)) (z0 : SM) (y1 : Int32) (y2 : Int32) (y4 : Int32) (y5 : Int32) (y6 : Int32) (y7 : Int32) : Option (Int32 × SM) := (if y6 = 0 then (fX2_twoByTwo_j110 K5 z0 y1 y2 y4 y5 y6 y7) else bd_ (fX2_claim z0 y7) (fun r2 z2 => (fX2_twoByTwo_j110 K5 z2 y1 y2 y4 y5 y6 y7)))
set_option maxRecDepth 100000 in
set_option maxHeartbeats 4000000 in
theorem jX2_twoByTwo_99 {p : Program} {l : Launch} {e : Env} {s : State} {m : MethodId} {args : Array Value} {below : List Frame} {meth : Method} {c : Code} {G : va_G} {cy cyO : ClassId} {a : Nat → Nat} {A : Nat → Prop} {r : Int32} {u : SM} (X : CallFix p m c cX2_twoByTwo 8 s args wsX2_twoByTwo RX2) (hr : meth.sig.returnType = (some .int)) (hlocks : meth.locks = false) (hK : va_K G vwCl (tys_ cy cyO) s) (hN : nw s) (hA : ∀ q, s.heap.size ≤ q → A q) (K5 : SM → Int32 → Int32 → Int32 → Int32 → Option (Int32 × SM)) (hK5 : ∀ (z0 : SM) (y1 : Int32) (y2 : Int32) (y3 : Int32) (y4 : Int32), K5 z0 y1 y2 y3 y4 = some (r, u) → ∀ (H : Heap) (locs : List Loc), va_P G vwCl (mW a cy z0) H → va_D A (mW a cy z0) → va_S A s.heap H locs → ∀ (ls : Array Slot), lv_has ls 8 [(0, .ref (a 0)), (1, .int y1), (2, .int y2), (3, .int y3), (4, .int y4)] → W p l e ({ frames := 6, cells := 0, slots := 0, locals := 134 } : Room) s m args below meth c H locs 0 0 (MQ below (qg (some (.int r)) (fun t => wPost G A (mW a cy u) t) A) args s 0 0 A) (F0 m 5 ls [])) : ∀ (z0 : SM) (y1 : Int32) (y2 : Int32) (y4 : Int32) (y5 : Int32) (y6 : Int32) (y7 : Int32), fX2_twoByTwo_j99 K5 z0 y1 y2 y4 y5 y6 y7 = some (r, u) → ∀ (H : Heap) (locs : List Loc), va_P G vwCl (mW a cy z0) H → va_D A (mW a cy z0) → va_S A s.heap H locs → ∀ (ls : Array Slot), lv_has ls 8 [(0, .ref (a 0)), (1, .int y1), (2, .int y2), (4, .int y4), (5, .int y5), (6, .int y6), (7, .int y7)] → W p l e ({ frames := 6, cells := 0, slots := 0, locals := 134 } : Room) s m args below meth c H locs 0 0 (MQ below (qg (some (.int r)) (fun t => wPost G A (mW a cy u) t) A) args s 0 0 A) (F0 m 99 ls []) := by
  obtain ⟨hx, hb, hml, hown, hts⟩ := id X
  have hin2 : ∀ w ∈ wsX20, w ∈ wsX2_twoByTwo := by decide +kernel
  intro z0 y1 y2 y4 y5 y6 y7 hF H locs hP hD hS ls hl
  unfold fX2_twoByTwo_j99 at hF
  refine lv_iload hx hb dX2_twoByTwo_99 (lv_at hl 5 rfl) ?_
  refine lv_if_eq (tgt := 110) hx hb dX2_twoByTwo_101 (by decide) (fun c1 => ?_) (fun c1 => ?_)
  · have hF := o_t c1 hF
    exact jX2_twoByTwo_110 X hr hlocks hK hN hA K5 hK5 z0 y1 y2 y4 y5 y6 y7 hF H locs hP hD hS ls (lv_sub hl [0, 1, 2, 3, 4, 5, 6] rfl)
  · have hF := o_f c1 hF
    refine lv_aload_n hx hb dX2_twoByTwo_104 rfl (lv_at hl 0 rfl) ?_
    refine lv_iload hx hb dX2_twoByTwo_105 (lv_at hl 6 rfl) ?_
    obtain ⟨r2, z2, hG2, hF⟩ := o_b hF
    refine cl_V (C := RX2) (rest := []) X hK hN hA hP hD hS (kX2_claim l G cy cyO a z0 y7 r2 z2 hG2) (cwV 1 hts gX2_twoByTwo_X2_claim rfl rfl rfl (by decide +kernel) ⟨Nat.le_of_ble_eq_true rfl, Nat.le_of_ble_eq_true rfl⟩) (va_recv hK hP (ci := 2) (q0 := 0) rfl rfl) rfl hl.1 rfl (Nat.le_of_ble_eq_true rfl) dX2_twoByTwo_107 ⟨Nat.zero_le _, Nat.zero_le _⟩ (fun H locs hP hD hS => ?_)
    refine W.eq (g2 := F0 m 110 ls []) rfl ?_
    exact jX2_twoByTwo_110 X hr hlocks hK hN hA K5 hK5 z2 y1 y2 y4 y5 y6 y7 hF H locs hP hD hS ls (lv_sub hl [0, 1, 2, 3, 4, 5, 6] rfl)
def fX2_twoByTwo_j81 (K5 : SM → Int32 → Int32 → Int32 → Int32 → Option (Int32 × SM)) (z0 : SM) (y1 : Int32) (y2 : Int32) (y4 : Int32) (y5 : Int32) (y6 : Int32) (t0 : Int32) : Option (Int32 × SM) := (if y6 = 0 then (fX2_twoByTwo_j99 K5 z0 y1 y2 y4 y5 y6 t0) else (if 0 ≤ t0 then (fX2_twoByTwo_j99 K5 z0 y1 y2 y4 y5 y6 t0) else (fX2_twoByTwo_j134 K5 z0 y1 y2 (-11) y4 y5)))
set_option maxRecDepth 100000 in
set_option maxHeartbeats 4000000 in
theorem jX2_twoByTwo_81 {p : Program} {l : Launch} {e : Env} {s : State} {m : MethodId} {args : Array Value} {below : List Frame} {meth : Method} {c : Code} {G : va_G} {cy cyO : ClassId} {a : Nat → Nat} {A : Nat → Prop} {r : Int32} {u : SM} (X : CallFix p m c cX2_twoByTwo 8 s args wsX2_twoByTwo RX2) (hr : meth.sig.returnType = (some .int)) (hlocks : meth.locks = false) (hK : va_K G vwCl (tys_ cy cyO) s) (hN : nw s) (hA : ∀ q, s.heap.size ≤ q → A q) (K5 : SM → Int32 → Int32 → Int32 → Int32 → Option (Int32 × SM)) (hK5 : ∀ (z0 : SM) (y1 : Int32) (y2 : Int32) (y3 : Int32) (y4 : Int32), K5 z0 y1 y2 y3 y4 = some (r, u) → ∀ (H : Heap) (locs : List Loc), va_P G vwCl (mW a cy z0) H → va_D A (mW a cy z0) → va_S A s.heap H locs → ∀ (ls : Array Slot), lv_has ls 8 [(0, .ref (a 0)), (1, .int y1), (2, .int y2), (3, .int y3), (4, .int y4)] → W p l e ({ frames := 6, cells := 0, slots := 0, locals := 134 } : Room) s m args below meth c H locs 0 0 (MQ below (qg (some (.int r)) (fun t => wPost G A (mW a cy u) t) A) args s 0 0 A) (F0 m 5 ls [])) : ∀ (z0 : SM) (y1 : Int32) (y2 : Int32) (y4 : Int32) (y5 : Int32) (y6 : Int32) (t0 : Int32), fX2_twoByTwo_j81 K5 z0 y1 y2 y4 y5 y6 t0 = some (r, u) → ∀ (H : Heap) (locs : List Loc), va_P G vwCl (mW a cy z0) H → va_D A (mW a cy z0) → va_S A s.heap H locs → ∀ (ls : Array Slot), lv_has ls 8 [(0, .ref (a 0)), (1, .int y1), (2, .int y2), (4, .int y4), (5, .int y5), (6, .int y6)] → W p l e ({ frames := 6, cells := 0, slots := 0, locals := 134 } : Room) s m args below meth c H locs 0 0 (MQ below (qg (some (.int r)) (fun t => wPost G A (mW a cy u) t) A) args s 0 0 A) (F0 m 81 ls [.int t0]) := by
  obtain ⟨hx, hb, hml, hown, hts⟩ := id X
  have hin2 : ∀ w ∈ wsX20, w ∈ wsX2_twoByTwo := by decide +kernel
  intro z0 y1 y2 y4 y5 y6 t0 hF H locs hP hD hS ls hl
  unfold fX2_twoByTwo_j81 at hF
  refine lv_istore (lv' := [(7, .int t0), (0, .ref (a 0)), (1, .int y1), (2, .int y2), (4, .int y4), (5, .int y5), (6, .int y6)]) hx hb dX2_twoByTwo_81 hl (by decide) rfl (fun ls hl => ?_)
  refine lv_iload hx hb dX2_twoByTwo_83 (lv_at hl 6 rfl) ?_
  refine lv_if_eq (tgt := 99) hx hb dX2_twoByTwo_85 (by decide) (fun c1 => ?_) (fun c1 => ?_)
  · have hF := o_t c1 hF
    exact jX2_twoByTwo_99 X hr hlocks hK hN hA K5 hK5 z0 y1 y2 y4 y5 y6 t0 hF H locs hP hD hS ls (lv_sub hl [1, 2, 3, 4, 5, 6, 0] rfl)
  · have hF := o_f c1 hF
    refine lv_iload hx hb dX2_twoByTwo_88 (lv_at hl 0 rfl) ?_
    refine lv_if_ge (tgt := 99) hx hb dX2_twoByTwo_90 (by decide) (fun c2 => ?_) (fun c2 => ?_)
    · have hF := o_t c2 hF
      exact jX2_twoByTwo_99 X hr hlocks hK hN hA K5 hK5 z0 y1 y2 y4 y5 y6 t0 hF H locs hP hD hS ls (lv_sub hl [1, 2, 3, 4, 5, 6, 0] rfl)
    · have hF := o_f c2 hF
      refine lv_bipush (v := (-11)) hx hb dX2_twoByTwo_93 (by decide) ?_
      refine lv_istore_n (lv' := [(3, .int (-11)), (7, .int t0), (0, .ref (a 0)), (1, .int y1), (2, .int y2), (4, .int y4), (5, .int y5), (6, .int y6)]) hx hb dX2_twoByTwo_95 rfl hl (by decide) rfl (fun ls hl => ?_)
      refine lv_goto (tgt := 134) hx hb dX2_twoByTwo_96 (by decide) ?_
      exact jX2_twoByTwo_134 X hr hlocks hK hN hA K5 hK5 z0 y1 y2 (-11) y4 y5 hF H locs hP hD hS ls (lv_sub hl [2, 3, 4, 0, 5, 6] rfl)
def fX2_twoByTwo_j61 (K5 : SM → Int32 → Int32 → Int32 → Int32 → Option (Int32 × SM)) (z0 : SM) (y1 : Int32) (y2 : Int32) (y4 : Int32) (y5 : Int32) (t0 : Int32) : Option (Int32 × SM) := (if t0 = 0 then (fX2_twoByTwo_j81 K5 z0 y1 y2 y4 y5 t0 (-1)) else bd_ (fX2_sectionOf z0 y1 (y4 + 1)) (fun r2 z2 => (fX2_twoByTwo_j81 K5 z2 y1 y2 y4 y5 t0 r2)))
set_option maxRecDepth 100000 in
set_option maxHeartbeats 4000000 in
theorem jX2_twoByTwo_61 {p : Program} {l : Launch} {e : Env} {s : State} {m : MethodId} {args : Array Value} {below : List Frame} {meth : Method} {c : Code} {G : va_G} {cy cyO : ClassId} {a : Nat → Nat} {A : Nat → Prop} {r : Int32} {u : SM} (X : CallFix p m c cX2_twoByTwo 8 s args wsX2_twoByTwo RX2) (hr : meth.sig.returnType = (some .int)) (hlocks : meth.locks = false) (hK : va_K G vwCl (tys_ cy cyO) s) (hN : nw s) (hA : ∀ q, s.heap.size ≤ q → A q) (K5 : SM → Int32 → Int32 → Int32 → Int32 → Option (Int32 × SM)) (hK5 : ∀ (z0 : SM) (y1 : Int32) (y2 : Int32) (y3 : Int32) (y4 : Int32), K5 z0 y1 y2 y3 y4 = some (r, u) → ∀ (H : Heap) (locs : List Loc), va_P G vwCl (mW a cy z0) H → va_D A (mW a cy z0) → va_S A s.heap H locs → ∀ (ls : Array Slot), lv_has ls 8 [(0, .ref (a 0)), (1, .int y1), (2, .int y2), (3, .int y3), (4, .int y4)] → W p l e ({ frames := 6, cells := 0, slots := 0, locals := 134 } : Room) s m args below meth c H locs 0 0 (MQ below (qg (some (.int r)) (fun t => wPost G A (mW a cy u) t) A) args s 0 0 A) (F0 m 5 ls [])) : ∀ (z0 : SM) (y1 : Int32) (y2 : Int32) (y4 : Int32) (y5 : Int32) (t0 : Int32), fX2_twoByTwo_j61 K5 z0 y1 y2 y4 y5 t0 = some (r, u) → ∀ (H : Heap) (locs : List Loc), va_P G vwCl (mW a cy z0) H → va_D A (mW a cy z0) → va_S A s.heap H locs → ∀ (ls : Array Slot), lv_has ls 8 [(0, .ref (a 0)), (1, .int y1), (2, .int y2), (4, .int y4), (5, .int y5)] → W p l e ({ frames := 6, cells := 0, slots := 0, locals := 134 } : Room) s m args below meth c H locs 0 0 (MQ below (qg (some (.int r)) (fun t => wPost G A (mW a cy u) t) A) args s 0 0 A) (F0 m 61 ls [.int t0]) := by
  obtain ⟨hx, hb, hml, hown, hts⟩ := id X
  have hin2 : ∀ w ∈ wsX20, w ∈ wsX2_twoByTwo := by decide +kernel
  intro z0 y1 y2 y4 y5 t0 hF H locs hP hD hS ls hl
  unfold fX2_twoByTwo_j61 at hF
  refine lv_istore (lv' := [(6, .int t0), (0, .ref (a 0)), (1, .int y1), (2, .int y2), (4, .int y4), (5, .int y5)]) hx hb dX2_twoByTwo_61 hl (by decide) rfl (fun ls hl => ?_)
  refine lv_iload hx hb dX2_twoByTwo_63 (lv_at hl 0 rfl) ?_
  refine lv_if_eq (tgt := 80) hx hb dX2_twoByTwo_65 (by decide) (fun c1 => ?_) (fun c1 => ?_)
  · have hF := o_t c1 hF
    refine lv_iconst (v := (-1)) hx hb dX2_twoByTwo_80 (by decide) ?_
    exact jX2_twoByTwo_81 X hr hlocks hK hN hA K5 hK5 z0 y1 y2 y4 y5 t0 (-1) hF H locs hP hD hS ls (lv_sub hl [1, 2, 3, 4, 5, 0] rfl)
  · have hF := o_f c1 hF
    refine lv_aload_n hx hb dX2_twoByTwo_68 rfl (lv_at hl 1 rfl) ?_
    refine lv_iload_n hx hb dX2_twoByTwo_69 rfl (lv_at hl 2 rfl) ?_
    refine lv_iload hx hb dX2_twoByTwo_70 (lv_at hl 4 rfl) ?_
    refine lv_iconst (v := 1) hx hb dX2_twoByTwo_72 (by decide) ?_
    refine lv_iadd hx hb dX2_twoByTwo_73 ?_
    obtain ⟨r2, z2, hG2, hF⟩ := o_b hF
    refine cl_V (C := RX2) (rest := []) X hK hN hA hP hD hS (kX2_sectionOf l G cy cyO a z0 y1 (y4 + 1) r2 z2 hG2) (cwV 2 hts gX2_twoByTwo_X2_sectionOf rfl rfl rfl (by decide +kernel) ⟨Nat.le_of_ble_eq_true rfl, Nat.le_of_ble_eq_true rfl⟩) (va_recv hK hP (ci := 2) (q0 := 0) rfl rfl) rfl hl.1 rfl (Nat.le_of_ble_eq_true rfl) dX2_twoByTwo_74 ⟨Nat.zero_le _, Nat.zero_le _⟩ (fun H locs hP hD hS => ?_)
    refine W.eq (g2 := F0 m 77 ls [.int r2]) rfl ?_
    refine lv_goto (tgt := 81) hx hb dX2_twoByTwo_77 (by decide) ?_
    exact jX2_twoByTwo_81 X hr hlocks hK hN hA K5 hK5 z2 y1 y2 y4 y5 t0 r2 hF H locs hP hD hS ls (lv_sub hl [1, 2, 3, 4, 5, 0] rfl)
def fX2_twoByTwo_j5 : Nat → SM → Int32 → Int32 → Int32 → Int32 → Option (Int32 × SM)
  | 0, _, _, _, _, _ => none
  | n + 1, z0, y1, y2, y3, y4 => if y1 < 0 ∨ 6 ≤ y1.toNatClampNeg then none else let_ (z0.2.2.2.1 y1.toNatClampNeg) (fun v1 => (if v1 ≤ y4 then some (y3, z0) else (if y3 = 0 then bd_ (fX2_sectionOf z0 y1 y4) (fun r4 z4 => (if 0 ≤ r4 then bd_ (fX2_claim z4 r4) (fun r6 z6 => if y1 < 0 ∨ 6 ≤ y1.toNatClampNeg then none else let_ (z6.2.2.2.1 y1.toNatClampNeg) (fun v7 => (if v7 ≤ (y4 + 1) then (fX2_twoByTwo_j61 (fX2_twoByTwo_j5 n) z6 y1 y2 y4 r4 0) else (fX2_twoByTwo_j61 (fX2_twoByTwo_j5 n) z6 y1 y2 y4 r4 1)))) else some ((-11), z4))) else some (y3, z0))))
set_option maxRecDepth 100000 in
set_option maxHeartbeats 4000000 in
theorem jX2_twoByTwo_5 {p : Program} {l : Launch} {e : Env} {s : State} {m : MethodId} {args : Array Value} {below : List Frame} {meth : Method} {c : Code} {G : va_G} {cy cyO : ClassId} {a : Nat → Nat} {A : Nat → Prop} {r : Int32} {u : SM} (X : CallFix p m c cX2_twoByTwo 8 s args wsX2_twoByTwo RX2) (hr : meth.sig.returnType = (some .int)) (hlocks : meth.locks = false) (hK : va_K G vwCl (tys_ cy cyO) s) (hN : nw s) (hA : ∀ q, s.heap.size ≤ q → A q) : ∀ n : Nat, ∀ (z0 : SM) (y1 : Int32) (y2 : Int32) (y3 : Int32) (y4 : Int32), fX2_twoByTwo_j5 n z0 y1 y2 y3 y4 = some (r, u) → ∀ (H : Heap) (locs : List Loc), va_P G vwCl (mW a cy z0) H → va_D A (mW a cy z0) → va_S A s.heap H locs → ∀ (ls : Array Slot), lv_has ls 8 [(0, .ref (a 0)), (1, .int y1), (2, .int y2), (3, .int y3), (4, .int y4)] → W p l e ({ frames := 6, cells := 0, slots := 0, locals := 134 } : Room) s m args below meth c H locs 0 0 (MQ below (qg (some (.int r)) (fun t => wPost G A (mW a cy u) t) A) args s 0 0 A) (F0 m 5 ls []) := by
  obtain ⟨hx, hb, hml, hown, hts⟩ := id X
  have hin2 : ∀ w ∈ wsX20, w ∈ wsX2_twoByTwo := by decide +kernel
  intro n
  induction n with
  | zero => intro z0 y1 y2 y3 y4 hF; cases hF
  | succ n ih =>
    intro z0 y1 y2 y3 y4 hF H locs hP hD hS ls hl
    rw [fX2_twoByTwo_j5] at hF
    refine lv_iload hx hb dX2_twoByTwo_5 (lv_at hl 4 rfl) ?_
    refine lv_aload_n hx hb dX2_twoByTwo_7 rfl (lv_at hl 0 rfl) ?_
    refine va_get (D := G) (ci := 2) (v := .ref (a 11)) (C := RX2) (T := TX2) (N := 18) hx hb hts hin2 hown hK hP 0 rfl rfl 11 (by decide) (hts (.fieldLink RX2 40 "SignalBoxModel" "lengths" "[I") (by decide +kernel)) (fun _ h9 => h9) rfl dX2_twoByTwo_8 ?_
    refine lv_iload_n hx hb dX2_twoByTwo_11 rfl (lv_at hl 1 rfl) ?_
    obtain ⟨h1, hF⟩ := o_n hF
    refine va_iald (n := 6) (f := z0.2.2.2.1) (cA := cy) hx hb hK hP 11 0 rfl rfl h1 dX2_twoByTwo_12 ?_
    obtain ⟨v1, e1, hF⟩ := o_l hF
    refine w_top e1 ?_
    refine lv_icmp_ge (tgt := 146) hx hb dX2_twoByTwo_13 (by decide) (fun c2 => ?_) (fun c2 => ?_)
    · have hF := o_t c2 hF
      refine lv_iload_n hx hb dX2_twoByTwo_146 rfl (lv_at hl 3 rfl) ?_
      obtain ⟨rfl, rfl⟩ := o_s hF
      exact rt_i X hr hlocks hP hD hS dX2_twoByTwo_147
    · have hF := o_f c2 hF
      refine lv_iload_n hx hb dX2_twoByTwo_16 rfl (lv_at hl 3 rfl) ?_
      refine lv_if_ne (tgt := 146) hx hb dX2_twoByTwo_17 (by decide) (fun c3 => ?_) (fun c3 => ?_)
      · have hF := o_f c3 hF
        refine lv_iload_n hx hb dX2_twoByTwo_146 rfl (lv_at hl 3 rfl) ?_
        obtain ⟨rfl, rfl⟩ := o_s hF
        exact rt_i X hr hlocks hP hD hS dX2_twoByTwo_147
      · have hF := o_t c3 hF
        refine lv_aload_n hx hb dX2_twoByTwo_20 rfl (lv_at hl 0 rfl) ?_
        refine lv_iload_n hx hb dX2_twoByTwo_21 rfl (lv_at hl 1 rfl) ?_
        refine lv_iload hx hb dX2_twoByTwo_22 (lv_at hl 4 rfl) ?_
        obtain ⟨r4, z4, hG4, hF⟩ := o_b hF
        refine cl_V (C := RX2) (rest := []) X hK hN hA hP hD hS (kX2_sectionOf l G cy cyO a z0 y1 y4 r4 z4 hG4) (cwV 2 hts gX2_twoByTwo_X2_sectionOf rfl rfl rfl (by decide +kernel) ⟨Nat.le_of_ble_eq_true rfl, Nat.le_of_ble_eq_true rfl⟩) (va_recv hK hP (ci := 2) (q0 := 0) rfl rfl) rfl hl.1 rfl (Nat.le_of_ble_eq_true rfl) dX2_twoByTwo_24 ⟨Nat.zero_le _, Nat.zero_le _⟩ (fun H locs hP hD hS => ?_)
        refine W.eq (g2 := F0 m 27 ls [.int r4]) rfl ?_
        refine lv_istore (lv' := [(5, .int r4), (0, .ref (a 0)), (1, .int y1), (2, .int y2), (3, .int y3), (4, .int y4)]) hx hb dX2_twoByTwo_27 hl (by decide) rfl (fun ls hl => ?_)
        refine lv_iload hx hb dX2_twoByTwo_29 (lv_at hl 0 rfl) ?_
        refine lv_if_ge (tgt := 37) hx hb dX2_twoByTwo_31 (by decide) (fun c5 => ?_) (fun c5 => ?_)
        · have hF := o_t c5 hF
          refine lv_aload_n hx hb dX2_twoByTwo_37 rfl (lv_at hl 1 rfl) ?_
          refine lv_iload hx hb dX2_twoByTwo_38 (lv_at hl 0 rfl) ?_
          obtain ⟨r6, z6, hG6, hF⟩ := o_b hF
          refine cl_V (C := RX2) (rest := []) X hK hN hA hP hD hS (kX2_claim l G cy cyO a z4 r4 r6 z6 hG6) (cwV 1 hts gX2_twoByTwo_X2_claim rfl rfl rfl (by decide +kernel) ⟨Nat.le_of_ble_eq_true rfl, Nat.le_of_ble_eq_true rfl⟩) (va_recv hK hP (ci := 2) (q0 := 0) rfl rfl) rfl hl.1 rfl (Nat.le_of_ble_eq_true rfl) dX2_twoByTwo_40 ⟨Nat.zero_le _, Nat.zero_le _⟩ (fun H locs hP hD hS => ?_)
          refine W.eq (g2 := F0 m 43 ls []) rfl ?_
          refine lv_iload hx hb dX2_twoByTwo_43 (lv_at hl 5 rfl) ?_
          refine lv_iconst (v := 1) hx hb dX2_twoByTwo_45 (by decide) ?_
          refine lv_iadd hx hb dX2_twoByTwo_46 ?_
          refine lv_aload_n hx hb dX2_twoByTwo_47 rfl (lv_at hl 1 rfl) ?_
          refine va_get (D := G) (ci := 2) (v := .ref (a 11)) (C := RX2) (T := TX2) (N := 18) hx hb hts hin2 hown hK hP 0 rfl rfl 11 (by decide) (hts (.fieldLink RX2 40 "SignalBoxModel" "lengths" "[I") (by decide +kernel)) (fun _ h9 => h9) rfl dX2_twoByTwo_48 ?_
          refine lv_iload_n hx hb dX2_twoByTwo_51 rfl (lv_at hl 2 rfl) ?_
          obtain ⟨h7, hF⟩ := o_n hF
          refine va_iald (n := 6) (f := z6.2.2.2.1) (cA := cy) hx hb hK hP 11 0 rfl rfl h7 dX2_twoByTwo_52 ?_
          obtain ⟨v7, e7, hF⟩ := o_l hF
          refine w_top e7 ?_
          refine lv_icmp_ge (tgt := 60) hx hb dX2_twoByTwo_53 (by decide) (fun c8 => ?_) (fun c8 => ?_)
          · have hF := o_t c8 hF
            refine lv_iconst (v := 0) hx hb dX2_twoByTwo_60 (by decide) ?_
            exact jX2_twoByTwo_61 X hr hlocks hK hN hA (fX2_twoByTwo_j5 n) ih z6 y1 y2 y4 r4 0 hF H locs hP hD hS ls (lv_sub hl [1, 2, 3, 5, 0] rfl)
          · have hF := o_f c8 hF
            refine lv_iconst (v := 1) hx hb dX2_twoByTwo_56 (by decide) ?_
            refine lv_goto (tgt := 61) hx hb dX2_twoByTwo_57 (by decide) ?_
            exact jX2_twoByTwo_61 X hr hlocks hK hN hA (fX2_twoByTwo_j5 n) ih z6 y1 y2 y4 r4 1 hF H locs hP hD hS ls (lv_sub hl [1, 2, 3, 5, 0] rfl)
        · have hF := o_f c5 hF
          refine lv_bipush (v := (-11)) hx hb dX2_twoByTwo_34 (by decide) ?_
          obtain ⟨rfl, rfl⟩ := o_s hF
          exact rt_i X hr hlocks hP hD hS dX2_twoByTwo_36
def fX2_twoByTwo (z0 : SM) (x1 : Int32) (x2 : Int32) : Option (Int32 × SM) := (fX2_twoByTwo_j5 20 z0 x1 x2 0 0)
set_option maxRecDepth 100000 in
set_option maxHeartbeats 4000000 in
theorem kX2_twoByTwo (l : Launch) (G : va_G) (cy cyO : ClassId) (a : Nat → Nat) (z0 : SM) (x1 : Int32) (x2 : Int32) (r : Int32) (u : SM) (hF : fX2_twoByTwo z0 x1 x2 = some (r, u)) : Ct l G (tys_ cy cyO) yX2_twoByTwo wsX2_twoByTwo ({ frames := 6, cells := 0, slots := 0, locals := 134 } : Room) [.ref (a 0), .int x1, .int x2] (mW a cy z0) (some (.int r)) (mW a cy u) := by
  unfold fX2_twoByTwo at hF
  refine ct_of (cc := cX2_twoByTwo) (maxL := 8) (ret := (some .int)) (own := RX2) (by decide) rfl (Nat.le_of_ble_eq_true rfl) rfl ?_
  intro p e s m below meth c A ls X hr hlocks _ hK hN hA hP hD hl
  have hS : va_S A s.heap s.heap [] := va_S.rf
  have hl : lv_has ls 8 [(0, .ref (a 0)), (1, .int x1), (2, .int x2)] := hl
  obtain ⟨hx, hb, hml, hown, hts⟩ := id X
  have hin2 : ∀ w ∈ wsX20, w ∈ wsX2_twoByTwo := by decide +kernel
  refine lv_iconst (v := 0) hx hb dX2_twoByTwo_0 (by decide) ?_
  refine lv_istore_n (lv' := [(3, .int 0), (0, .ref (a 0)), (1, .int x1), (2, .int x2)]) hx hb dX2_twoByTwo_1 rfl hl (by decide) rfl (fun ls hl => ?_)
  refine lv_iconst (v := 0) hx hb dX2_twoByTwo_2 (by decide) ?_
  refine lv_istore (lv' := [(4, .int 0), (3, .int 0), (0, .ref (a 0)), (1, .int x1), (2, .int x2)]) hx hb dX2_twoByTwo_3 hl (by decide) rfl (fun ls hl => ?_)
  exact jX2_twoByTwo_5 X hr hlocks hK hN hA 20 z0 x1 x2 0 0 hF s.heap [] hP hD hS ls (lv_sub hl [2, 3, 4, 1, 0] rfl)
def fX2_all_j99 : Nat → SM → Int32 → Int32 → Int32 → Option (Int32 × SM)
  | 0, _, _, _, _ => none
  | n + 1, z0, y1, y4, y5 => (if y5 < 0 then some (y4, z0) else bd_ (fX2_sectionOf z0 y1 y5) (fun r2 z2 => bd_ (fX2_let z2 r2) (fun r3 z3 => (fX2_all_j99 n z3 y1 y4 (y5 + (-1))))))
set_option maxRecDepth 100000 in
set_option maxHeartbeats 4000000 in
theorem jX2_all_99 {p : Program} {l : Launch} {e : Env} {s : State} {m : MethodId} {args : Array Value} {below : List Frame} {meth : Method} {c : Code} {G : va_G} {cy cyO : ClassId} {a : Nat → Nat} {A : Nat → Prop} {r : Int32} {u : SM} (X : CallFix p m c cX2_all 6 s args wsX2_all RX2) (hr : meth.sig.returnType = (some .int)) (hlocks : meth.locks = false) (hK : va_K G vwCl (tys_ cy cyO) s) (hN : nw s) (hA : ∀ q, s.heap.size ≤ q → A q) : ∀ n : Nat, ∀ (z0 : SM) (y1 : Int32) (y4 : Int32) (y5 : Int32), fX2_all_j99 n z0 y1 y4 y5 = some (r, u) → ∀ (H : Heap) (locs : List Loc), va_P G vwCl (mW a cy z0) H → va_D A (mW a cy z0) → va_S A s.heap H locs → ∀ (ls : Array Slot), lv_has ls 6 [(0, .ref (a 0)), (1, .int y1), (4, .int y4), (5, .int y5)] → W p l e ({ frames := 6, cells := 0, slots := 0, locals := 134 } : Room) s m args below meth c H locs 0 0 (MQ below (qg (some (.int r)) (fun t => wPost G A (mW a cy u) t) A) args s 0 0 A) (F0 m 99 ls []) := by
  obtain ⟨hx, hb, hml, hown, hts⟩ := id X
  have hin2 : ∀ w ∈ wsX20, w ∈ wsX2_all := by decide +kernel
  intro n
  induction n with
  | zero => intro z0 y1 y4 y5 hF; cases hF
  | succ n ih =>
    intro z0 y1 y4 y5 hF H locs hP hD hS ls hl
    rw [fX2_all_j99] at hF
    refine lv_iload hx hb dX2_all_99 (lv_at hl 3 rfl) ?_
    refine lv_if_lt (tgt := 121) hx hb dX2_all_101 (by decide) (fun c1 => ?_) (fun c1 => ?_)
    · have hF := o_t c1 hF
      refine lv_iload hx hb dX2_all_121 (lv_at hl 2 rfl) ?_
      obtain ⟨rfl, rfl⟩ := o_s hF
      exact rt_i X hr hlocks hP hD hS dX2_all_123
    · have hF := o_f c1 hF
      refine lv_aload_n hx hb dX2_all_104 rfl (lv_at hl 0 rfl) ?_
      refine lv_aload_n hx hb dX2_all_105 rfl (lv_at hl 0 rfl) ?_
      refine lv_iload_n hx hb dX2_all_106 rfl (lv_at hl 1 rfl) ?_
      refine lv_iload hx hb dX2_all_107 (lv_at hl 3 rfl) ?_
      obtain ⟨r2, z2, hG2, hF⟩ := o_b hF
      refine cl_V (C := RX2) (rest := [.ref (a 0)]) X hK hN hA hP hD hS (kX2_sectionOf l G cy cyO a z0 y1 y5 r2 z2 hG2) (cwV 2 hts gX2_all_X2_sectionOf rfl rfl rfl (by decide +kernel) ⟨Nat.le_of_ble_eq_true rfl, Nat.le_of_ble_eq_true rfl⟩) (va_recv hK hP (ci := 2) (q0 := 0) rfl rfl) rfl hl.1 rfl (Nat.le_of_ble_eq_true rfl) dX2_all_109 ⟨Nat.zero_le _, Nat.zero_le _⟩ (fun H locs hP hD hS => ?_)
      refine W.eq (g2 := F0 m 112 ls [.int r2, .ref (a 0)]) rfl ?_
      obtain ⟨r3, z3, hG3, hF⟩ := o_b hF
      refine cl_V (C := RX2) (rest := []) X hK hN hA hP hD hS (kX2_let l G cy cyO a z2 r2 r3 z3 hG3) (cwV 1 hts gX2_all_X2_let rfl rfl rfl (by decide +kernel) ⟨Nat.le_of_ble_eq_true rfl, Nat.le_of_ble_eq_true rfl⟩) (va_recv hK hP (ci := 2) (q0 := 0) rfl rfl) rfl hl.1 rfl (Nat.le_of_ble_eq_true rfl) dX2_all_112 ⟨Nat.zero_le _, Nat.zero_le _⟩ (fun H locs hP hD hS => ?_)
      refine W.eq (g2 := F0 m 115 ls []) rfl ?_
      refine lv_iinc (v := y5 + (-1)) (lv' := [(5, .int (y5 + (-1))), (0, .ref (a 0)), (1, .int y1), (4, .int y4)]) hx hb dX2_all_115 hl (k := 3) rfl rfl (by decide) rfl (fun ls hl => ?_)
      refine lv_goto (tgt := 99) hx hb dX2_all_118 (by decide) ?_
      exact ih z3 y1 y4 (y5 + (-1)) hF H locs hP hD hS ls (lv_sub hl [1, 2, 3, 0] rfl)
def fX2_all_j94 (z0 : SM) (y1 : Int32) (y3 : Int32) (y4 : Int32) : Option (Int32 × SM) := (fX2_all_j99 20 z0 y1 y4 (y3 - 1))
set_option maxRecDepth 100000 in
set_option maxHeartbeats 4000000 in
theorem jX2_all_94 {p : Program} {l : Launch} {e : Env} {s : State} {m : MethodId} {args : Array Value} {below : List Frame} {meth : Method} {c : Code} {G : va_G} {cy cyO : ClassId} {a : Nat → Nat} {A : Nat → Prop} {r : Int32} {u : SM} (X : CallFix p m c cX2_all 6 s args wsX2_all RX2) (hr : meth.sig.returnType = (some .int)) (hlocks : meth.locks = false) (hK : va_K G vwCl (tys_ cy cyO) s) (hN : nw s) (hA : ∀ q, s.heap.size ≤ q → A q) : ∀ (z0 : SM) (y1 : Int32) (y3 : Int32) (y4 : Int32), fX2_all_j94 z0 y1 y3 y4 = some (r, u) → ∀ (H : Heap) (locs : List Loc), va_P G vwCl (mW a cy z0) H → va_D A (mW a cy z0) → va_S A s.heap H locs → ∀ (ls : Array Slot), lv_has ls 6 [(0, .ref (a 0)), (1, .int y1), (3, .int y3), (4, .int y4)] → W p l e ({ frames := 6, cells := 0, slots := 0, locals := 134 } : Room) s m args below meth c H locs 0 0 (MQ below (qg (some (.int r)) (fun t => wPost G A (mW a cy u) t) A) args s 0 0 A) (F0 m 94 ls []) := by
  obtain ⟨hx, hb, hml, hown, hts⟩ := id X
  have hin2 : ∀ w ∈ wsX20, w ∈ wsX2_all := by decide +kernel
  intro z0 y1 y3 y4 hF H locs hP hD hS ls hl
  unfold fX2_all_j94 at hF
  refine lv_iload_n hx hb dX2_all_94 rfl (lv_at hl 2 rfl) ?_
  refine lv_iconst (v := 1) hx hb dX2_all_95 (by decide) ?_
  refine lv_isub hx hb dX2_all_96 ?_
  refine lv_istore (lv' := [(5, .int (y3 - 1)), (0, .ref (a 0)), (1, .int y1), (3, .int y3), (4, .int y4)]) hx hb dX2_all_97 hl (by decide) rfl (fun ls hl => ?_)
  exact jX2_all_99 X hr hlocks hK hN hA 20 z0 y1 y4 (y3 - 1) hF H locs hP hD hS ls (lv_sub hl [1, 2, 4, 0] rfl)
def fX2_all_j58 : Nat → SM → Int32 → Int32 → Int32 → Int32 → Int32 → Option (Int32 × SM)
  | 0, _, _, _, _, _, _ => none
  | n + 1, z0, y1, y2, y3, y4, y5 => (if y3 ≤ y5 then (fX2_all_j94 z0 y1 y3 y4) else (if y4 = 0 then bd_ (fX2_sectionOf z0 y1 y5) (fun r3 z3 => bd_ (fX2_pass z3 r3 y2) (fun r4 z4 => bd_ (fX2_ended z4 r4 y5) (fun r5 z5 => (fX2_all_j58 n z5 y1 y2 y3 r5 (y5 + 1))))) else (fX2_all_j94 z0 y1 y3 y4)))
set_option maxRecDepth 100000 in
set_option maxHeartbeats 4000000 in
theorem jX2_all_58 {p : Program} {l : Launch} {e : Env} {s : State} {m : MethodId} {args : Array Value} {below : List Frame} {meth : Method} {c : Code} {G : va_G} {cy cyO : ClassId} {a : Nat → Nat} {A : Nat → Prop} {r : Int32} {u : SM} (X : CallFix p m c cX2_all 6 s args wsX2_all RX2) (hr : meth.sig.returnType = (some .int)) (hlocks : meth.locks = false) (hK : va_K G vwCl (tys_ cy cyO) s) (hN : nw s) (hA : ∀ q, s.heap.size ≤ q → A q) : ∀ n : Nat, ∀ (z0 : SM) (y1 : Int32) (y2 : Int32) (y3 : Int32) (y4 : Int32) (y5 : Int32), fX2_all_j58 n z0 y1 y2 y3 y4 y5 = some (r, u) → ∀ (H : Heap) (locs : List Loc), va_P G vwCl (mW a cy z0) H → va_D A (mW a cy z0) → va_S A s.heap H locs → ∀ (ls : Array Slot), lv_has ls 6 [(0, .ref (a 0)), (1, .int y1), (2, .int y2), (3, .int y3), (4, .int y4), (5, .int y5)] → W p l e ({ frames := 6, cells := 0, slots := 0, locals := 134 } : Room) s m args below meth c H locs 0 0 (MQ below (qg (some (.int r)) (fun t => wPost G A (mW a cy u) t) A) args s 0 0 A) (F0 m 58 ls []) := by
  obtain ⟨hx, hb, hml, hown, hts⟩ := id X
  have hin2 : ∀ w ∈ wsX20, w ∈ wsX2_all := by decide +kernel
  intro n
  induction n with
  | zero => intro z0 y1 y2 y3 y4 y5 hF; cases hF
  | succ n ih =>
    intro z0 y1 y2 y3 y4 y5 hF H locs hP hD hS ls hl
    rw [fX2_all_j58] at hF
    refine lv_iload hx hb dX2_all_58 (lv_at hl 5 rfl) ?_
    refine lv_iload_n hx hb dX2_all_60 rfl (lv_at hl 3 rfl) ?_
    refine lv_icmp_ge (tgt := 94) hx hb dX2_all_61 (by decide) (fun c1 => ?_) (fun c1 => ?_)
    · have hF := o_t c1 hF
      exact jX2_all_94 X hr hlocks hK hN hA z0 y1 y3 y4 hF H locs hP hD hS ls (lv_sub hl [0, 1, 3, 4] rfl)
    · have hF := o_f c1 hF
      refine lv_iload hx hb dX2_all_64 (lv_at hl 4 rfl) ?_
      refine lv_if_ne (tgt := 94) hx hb dX2_all_66 (by decide) (fun c2 => ?_) (fun c2 => ?_)
      · have hF := o_f c2 hF
        exact jX2_all_94 X hr hlocks hK hN hA z0 y1 y3 y4 hF H locs hP hD hS ls (lv_sub hl [0, 1, 3, 4] rfl)
      · have hF := o_t c2 hF
        refine lv_aload_n hx hb dX2_all_69 rfl (lv_at hl 0 rfl) ?_
        refine lv_aload_n hx hb dX2_all_70 rfl (lv_at hl 0 rfl) ?_
        refine lv_iload_n hx hb dX2_all_71 rfl (lv_at hl 1 rfl) ?_
        refine lv_iload hx hb dX2_all_72 (lv_at hl 5 rfl) ?_
        obtain ⟨r3, z3, hG3, hF⟩ := o_b hF
        refine cl_V (C := RX2) (rest := [.ref (a 0)]) X hK hN hA hP hD hS (kX2_sectionOf l G cy cyO a z0 y1 y5 r3 z3 hG3) (cwV 2 hts gX2_all_X2_sectionOf rfl rfl rfl (by decide +kernel) ⟨Nat.le_of_ble_eq_true rfl, Nat.le_of_ble_eq_true rfl⟩) (va_recv hK hP (ci := 2) (q0 := 0) rfl rfl) rfl hl.1 rfl (Nat.le_of_ble_eq_true rfl) dX2_all_74 ⟨Nat.zero_le _, Nat.zero_le _⟩ (fun H locs hP hD hS => ?_)
        refine W.eq (g2 := F0 m 77 ls [.int r3, .ref (a 0)]) rfl ?_
        refine lv_iload_n hx hb dX2_all_77 rfl (lv_at hl 2 rfl) ?_
        obtain ⟨r4, z4, hG4, hF⟩ := o_b hF
        refine cl_V (C := RX2) (rest := []) X hK hN hA hP hD hS (kX2_pass l G cy cyO a z3 r3 y2 r4 z4 hG4) (cwV 2 hts gX2_all_X2_pass rfl rfl rfl (by decide +kernel) ⟨Nat.le_of_ble_eq_true rfl, Nat.le_of_ble_eq_true rfl⟩) (va_recv hK hP (ci := 2) (q0 := 0) rfl rfl) rfl hl.1 rfl (Nat.le_of_ble_eq_true rfl) dX2_all_78 ⟨Nat.zero_le _, Nat.zero_le _⟩ (fun H locs hP hD hS => ?_)
        refine W.eq (g2 := F0 m 81 ls [.int r4]) rfl ?_
        refine lv_iload hx hb dX2_all_81 (lv_at hl 5 rfl) ?_
        obtain ⟨r5, z5, hG5, hF⟩ := o_b hF
        refine cl_S (rest := []) X hK hN hA hP hD hS (kX2_ended l G cy cyO a z4 r4 y5 r5 z5 hG5) (va_cwS 2 hts gX2_all_X2_ended rfl rfl rfl (by decide +kernel) ⟨Nat.le_of_ble_eq_true rfl, Nat.le_of_ble_eq_true rfl⟩) rfl hl.1 rfl (Nat.le_of_ble_eq_true rfl) dX2_all_83 ⟨Nat.zero_le _, Nat.zero_le _⟩ (fun H locs hP hD hS => ?_)
        refine W.eq (g2 := F0 m 86 ls [.int r5]) rfl ?_
        refine lv_istore (lv' := [(4, .int r5), (0, .ref (a 0)), (1, .int y1), (2, .int y2), (3, .int y3), (5, .int y5)]) hx hb dX2_all_86 hl (by decide) rfl (fun ls hl => ?_)
        refine lv_iinc (v := y5 + 1) (lv' := [(5, .int (y5 + 1)), (4, .int r5), (0, .ref (a 0)), (1, .int y1), (2, .int y2), (3, .int y3)]) hx hb dX2_all_88 hl (k := 5) rfl rfl (by decide) rfl (fun ls hl => ?_)
        refine lv_goto (tgt := 58) hx hb dX2_all_91 (by decide) ?_
        exact ih z5 y1 y2 y3 r5 (y5 + 1) hF H locs hP hD hS ls (lv_sub hl [2, 3, 4, 5, 1, 0] rfl)
def fX2_all_j53 (z0 : SM) (y1 : Int32) (y2 : Int32) (y3 : Int32) (t0 : Int32) : Option (Int32 × SM) := (fX2_all_j58 20 z0 y1 y2 y3 t0 0)
set_option maxRecDepth 100000 in
set_option maxHeartbeats 4000000 in
theorem jX2_all_53 {p : Program} {l : Launch} {e : Env} {s : State} {m : MethodId} {args : Array Value} {below : List Frame} {meth : Method} {c : Code} {G : va_G} {cy cyO : ClassId} {a : Nat → Nat} {A : Nat → Prop} {r : Int32} {u : SM} (X : CallFix p m c cX2_all 6 s args wsX2_all RX2) (hr : meth.sig.returnType = (some .int)) (hlocks : meth.locks = false) (hK : va_K G vwCl (tys_ cy cyO) s) (hN : nw s) (hA : ∀ q, s.heap.size ≤ q → A q) : ∀ (z0 : SM) (y1 : Int32) (y2 : Int32) (y3 : Int32) (t0 : Int32), fX2_all_j53 z0 y1 y2 y3 t0 = some (r, u) → ∀ (H : Heap) (locs : List Loc), va_P G vwCl (mW a cy z0) H → va_D A (mW a cy z0) → va_S A s.heap H locs → ∀ (ls : Array Slot), lv_has ls 6 [(0, .ref (a 0)), (1, .int y1), (2, .int y2), (3, .int y3)] → W p l e ({ frames := 6, cells := 0, slots := 0, locals := 134 } : Room) s m args below meth c H locs 0 0 (MQ below (qg (some (.int r)) (fun t => wPost G A (mW a cy u) t) A) args s 0 0 A) (F0 m 53 ls [.int t0]) := by
  obtain ⟨hx, hb, hml, hown, hts⟩ := id X
  have hin2 : ∀ w ∈ wsX20, w ∈ wsX2_all := by decide +kernel
  intro z0 y1 y2 y3 t0 hF H locs hP hD hS ls hl
  unfold fX2_all_j53 at hF
  refine lv_istore (lv' := [(4, .int t0), (0, .ref (a 0)), (1, .int y1), (2, .int y2), (3, .int y3)]) hx hb dX2_all_53 hl (by decide) rfl (fun ls hl => ?_)
  refine lv_iconst (v := 0) hx hb dX2_all_55 (by decide) ?_
  refine lv_istore (lv' := [(5, .int 0), (4, .int t0), (0, .ref (a 0)), (1, .int y1), (2, .int y2), (3, .int y3)]) hx hb dX2_all_56 hl (by decide) rfl (fun ls hl => ?_)
  exact jX2_all_58 X hr hlocks hK hN hA 20 z0 y1 y2 y3 t0 0 hF H locs hP hD hS ls (lv_sub hl [2, 3, 4, 5, 1, 0] rfl)
def fX2_all_j37 (z0 : SM) (y1 : Int32) (y2 : Int32) (y3 : Int32) : Option (Int32 × SM) := if y1 < 0 ∨ 6 ≤ y1.toNatClampNeg then none else let_ (z0.2.2.2.1 y1.toNatClampNeg) (fun v1 => (if v1 ≤ y3 then (fX2_all_j53 z0 y1 y2 y3 0) else (fX2_all_j53 z0 y1 y2 y3 (-11))))
set_option maxRecDepth 100000 in
set_option maxHeartbeats 4000000 in
theorem jX2_all_37 {p : Program} {l : Launch} {e : Env} {s : State} {m : MethodId} {args : Array Value} {below : List Frame} {meth : Method} {c : Code} {G : va_G} {cy cyO : ClassId} {a : Nat → Nat} {A : Nat → Prop} {r : Int32} {u : SM} (X : CallFix p m c cX2_all 6 s args wsX2_all RX2) (hr : meth.sig.returnType = (some .int)) (hlocks : meth.locks = false) (hK : va_K G vwCl (tys_ cy cyO) s) (hN : nw s) (hA : ∀ q, s.heap.size ≤ q → A q) : ∀ (z0 : SM) (y1 : Int32) (y2 : Int32) (y3 : Int32), fX2_all_j37 z0 y1 y2 y3 = some (r, u) → ∀ (H : Heap) (locs : List Loc), va_P G vwCl (mW a cy z0) H → va_D A (mW a cy z0) → va_S A s.heap H locs → ∀ (ls : Array Slot), lv_has ls 6 [(0, .ref (a 0)), (1, .int y1), (2, .int y2), (3, .int y3)] → W p l e ({ frames := 6, cells := 0, slots := 0, locals := 134 } : Room) s m args below meth c H locs 0 0 (MQ below (qg (some (.int r)) (fun t => wPost G A (mW a cy u) t) A) args s 0 0 A) (F0 m 37 ls []) := by
  obtain ⟨hx, hb, hml, hown, hts⟩ := id X
  have hin2 : ∀ w ∈ wsX20, w ∈ wsX2_all := by decide +kernel
  intro z0 y1 y2 y3 hF H locs hP hD hS ls hl
  unfold fX2_all_j37 at hF
  refine lv_iload_n hx hb dX2_all_37 rfl (lv_at hl 3 rfl) ?_
  refine lv_aload_n hx hb dX2_all_38 rfl (lv_at hl 0 rfl) ?_
  refine va_get (D := G) (ci := 2) (v := .ref (a 11)) (C := RX2) (T := TX2) (N := 18) hx hb hts hin2 hown hK hP 0 rfl rfl 11 (by decide) (hts (.fieldLink RX2 40 "SignalBoxModel" "lengths" "[I") (by decide +kernel)) (fun _ h9 => h9) rfl dX2_all_39 ?_
  refine lv_iload_n hx hb dX2_all_42 rfl (lv_at hl 1 rfl) ?_
  obtain ⟨h1, hF⟩ := o_n hF
  refine va_iald (n := 6) (f := z0.2.2.2.1) (cA := cy) hx hb hK hP 11 0 rfl rfl h1 dX2_all_43 ?_
  obtain ⟨v1, e1, hF⟩ := o_l hF
  refine w_top e1 ?_
  refine lv_icmp_ge (tgt := 52) hx hb dX2_all_44 (by decide) (fun c2 => ?_) (fun c2 => ?_)
  · have hF := o_t c2 hF
    refine lv_iconst (v := 0) hx hb dX2_all_52 (by decide) ?_
    exact jX2_all_53 X hr hlocks hK hN hA z0 y1 y2 y3 0 hF H locs hP hD hS ls (lv_sub hl [0, 1, 2, 3] rfl)
  · have hF := o_f c2 hF
    refine lv_bipush (v := (-11)) hx hb dX2_all_47 (by decide) ?_
    refine lv_goto (tgt := 53) hx hb dX2_all_49 (by decide) ?_
    exact jX2_all_53 X hr hlocks hK hN hA z0 y1 y2 y3 (-11) hF H locs hP hD hS ls (lv_sub hl [0, 1, 2, 3] rfl)
def fX2_all_j2 : Nat → SM → Int32 → Int32 → Int32 → Option (Int32 × SM)
  | 0, _, _, _, _ => none
  | n + 1, z0, y1, y2, y3 => if y1 < 0 ∨ 6 ≤ y1.toNatClampNeg then none else let_ (z0.2.2.2.1 y1.toNatClampNeg) (fun v1 => (if v1 ≤ y3 then (fX2_all_j37 z0 y1 y2 y3) else bd_ (fX2_sectionOf z0 y1 y3) (fun r3 z3 => (if r3 < 0 then (fX2_all_j37 z3 y1 y2 y3) else bd_ (fX2_sectionOf z3 y1 y3) (fun r5 z5 => bd_ (fX2_claim z5 r5) (fun r6 z6 => (fX2_all_j2 n z6 y1 y2 (y3 + 1))))))))
set_option maxRecDepth 100000 in
set_option maxHeartbeats 4000000 in
theorem jX2_all_2 {p : Program} {l : Launch} {e : Env} {s : State} {m : MethodId} {args : Array Value} {below : List Frame} {meth : Method} {c : Code} {G : va_G} {cy cyO : ClassId} {a : Nat → Nat} {A : Nat → Prop} {r : Int32} {u : SM} (X : CallFix p m c cX2_all 6 s args wsX2_all RX2) (hr : meth.sig.returnType = (some .int)) (hlocks : meth.locks = false) (hK : va_K G vwCl (tys_ cy cyO) s) (hN : nw s) (hA : ∀ q, s.heap.size ≤ q → A q) : ∀ n : Nat, ∀ (z0 : SM) (y1 : Int32) (y2 : Int32) (y3 : Int32), fX2_all_j2 n z0 y1 y2 y3 = some (r, u) → ∀ (H : Heap) (locs : List Loc), va_P G vwCl (mW a cy z0) H → va_D A (mW a cy z0) → va_S A s.heap H locs → ∀ (ls : Array Slot), lv_has ls 6 [(0, .ref (a 0)), (1, .int y1), (2, .int y2), (3, .int y3)] → W p l e ({ frames := 6, cells := 0, slots := 0, locals := 134 } : Room) s m args below meth c H locs 0 0 (MQ below (qg (some (.int r)) (fun t => wPost G A (mW a cy u) t) A) args s 0 0 A) (F0 m 2 ls []) := by
  obtain ⟨hx, hb, hml, hown, hts⟩ := id X
  have hin2 : ∀ w ∈ wsX20, w ∈ wsX2_all := by decide +kernel
  intro n
  induction n with
  | zero => intro z0 y1 y2 y3 hF; cases hF
  | succ n ih =>
    intro z0 y1 y2 y3 hF H locs hP hD hS ls hl
    rw [fX2_all_j2] at hF
    refine lv_iload_n hx hb dX2_all_2 rfl (lv_at hl 3 rfl) ?_
    refine lv_aload_n hx hb dX2_all_3 rfl (lv_at hl 0 rfl) ?_
    refine va_get (D := G) (ci := 2) (v := .ref (a 11)) (C := RX2) (T := TX2) (N := 18) hx hb hts hin2 hown hK hP 0 rfl rfl 11 (by decide) (hts (.fieldLink RX2 40 "SignalBoxModel" "lengths" "[I") (by decide +kernel)) (fun _ h9 => h9) rfl dX2_all_4 ?_
    refine lv_iload_n hx hb dX2_all_7 rfl (lv_at hl 1 rfl) ?_
    obtain ⟨h1, hF⟩ := o_n hF
    refine va_iald (n := 6) (f := z0.2.2.2.1) (cA := cy) hx hb hK hP 11 0 rfl rfl h1 dX2_all_8 ?_
    obtain ⟨v1, e1, hF⟩ := o_l hF
    refine w_top e1 ?_
    refine lv_icmp_ge (tgt := 37) hx hb dX2_all_9 (by decide) (fun c2 => ?_) (fun c2 => ?_)
    · have hF := o_t c2 hF
      exact jX2_all_37 X hr hlocks hK hN hA z0 y1 y2 y3 hF H locs hP hD hS ls (lv_sub hl [0, 1, 2, 3] rfl)
    · have hF := o_f c2 hF
      refine lv_aload_n hx hb dX2_all_12 rfl (lv_at hl 0 rfl) ?_
      refine lv_iload_n hx hb dX2_all_13 rfl (lv_at hl 1 rfl) ?_
      refine lv_iload_n hx hb dX2_all_14 rfl (lv_at hl 3 rfl) ?_
      obtain ⟨r3, z3, hG3, hF⟩ := o_b hF
      refine cl_V (C := RX2) (rest := []) X hK hN hA hP hD hS (kX2_sectionOf l G cy cyO a z0 y1 y3 r3 z3 hG3) (cwV 2 hts gX2_all_X2_sectionOf rfl rfl rfl (by decide +kernel) ⟨Nat.le_of_ble_eq_true rfl, Nat.le_of_ble_eq_true rfl⟩) (va_recv hK hP (ci := 2) (q0 := 0) rfl rfl) rfl hl.1 rfl (Nat.le_of_ble_eq_true rfl) dX2_all_15 ⟨Nat.zero_le _, Nat.zero_le _⟩ (fun H locs hP hD hS => ?_)
      refine W.eq (g2 := F0 m 18 ls [.int r3]) rfl ?_
      refine lv_if_lt (tgt := 37) hx hb dX2_all_18 (by decide) (fun c4 => ?_) (fun c4 => ?_)
      · have hF := o_t c4 hF
        exact jX2_all_37 X hr hlocks hK hN hA z3 y1 y2 y3 hF H locs hP hD hS ls (lv_sub hl [0, 1, 2, 3] rfl)
      · have hF := o_f c4 hF
        refine lv_aload_n hx hb dX2_all_21 rfl (lv_at hl 0 rfl) ?_
        refine lv_aload_n hx hb dX2_all_22 rfl (lv_at hl 0 rfl) ?_
        refine lv_iload_n hx hb dX2_all_23 rfl (lv_at hl 1 rfl) ?_
        refine lv_iload_n hx hb dX2_all_24 rfl (lv_at hl 3 rfl) ?_
        obtain ⟨r5, z5, hG5, hF⟩ := o_b hF
        refine cl_V (C := RX2) (rest := [.ref (a 0)]) X hK hN hA hP hD hS (kX2_sectionOf l G cy cyO a z3 y1 y3 r5 z5 hG5) (cwV 2 hts gX2_all_X2_sectionOf rfl rfl rfl (by decide +kernel) ⟨Nat.le_of_ble_eq_true rfl, Nat.le_of_ble_eq_true rfl⟩) (va_recv hK hP (ci := 2) (q0 := 0) rfl rfl) rfl hl.1 rfl (Nat.le_of_ble_eq_true rfl) dX2_all_25 ⟨Nat.zero_le _, Nat.zero_le _⟩ (fun H locs hP hD hS => ?_)
        refine W.eq (g2 := F0 m 28 ls [.int r5, .ref (a 0)]) rfl ?_
        obtain ⟨r6, z6, hG6, hF⟩ := o_b hF
        refine cl_V (C := RX2) (rest := []) X hK hN hA hP hD hS (kX2_claim l G cy cyO a z5 r5 r6 z6 hG6) (cwV 1 hts gX2_all_X2_claim rfl rfl rfl (by decide +kernel) ⟨Nat.le_of_ble_eq_true rfl, Nat.le_of_ble_eq_true rfl⟩) (va_recv hK hP (ci := 2) (q0 := 0) rfl rfl) rfl hl.1 rfl (Nat.le_of_ble_eq_true rfl) dX2_all_28 ⟨Nat.zero_le _, Nat.zero_le _⟩ (fun H locs hP hD hS => ?_)
        refine W.eq (g2 := F0 m 31 ls []) rfl ?_
        refine lv_iinc (v := y3 + 1) (lv' := [(3, .int (y3 + 1)), (0, .ref (a 0)), (1, .int y1), (2, .int y2)]) hx hb dX2_all_31 hl (k := 3) rfl rfl (by decide) rfl (fun ls hl => ?_)
        refine lv_goto (tgt := 2) hx hb dX2_all_34 (by decide) ?_
        exact ih z6 y1 y2 (y3 + 1) hF H locs hP hD hS ls (lv_sub hl [1, 2, 3, 0] rfl)
def fX2_all (z0 : SM) (x1 : Int32) (x2 : Int32) : Option (Int32 × SM) := (fX2_all_j2 20 z0 x1 x2 0)
set_option maxRecDepth 100000 in
set_option maxHeartbeats 4000000 in
theorem kX2_all (l : Launch) (G : va_G) (cy cyO : ClassId) (a : Nat → Nat) (z0 : SM) (x1 : Int32) (x2 : Int32) (r : Int32) (u : SM) (hF : fX2_all z0 x1 x2 = some (r, u)) : Ct l G (tys_ cy cyO) yX2_all wsX2_all ({ frames := 6, cells := 0, slots := 0, locals := 134 } : Room) [.ref (a 0), .int x1, .int x2] (mW a cy z0) (some (.int r)) (mW a cy u) := by
  unfold fX2_all at hF
  refine ct_of (cc := cX2_all) (maxL := 6) (ret := (some .int)) (own := RX2) (by decide) rfl (Nat.le_of_ble_eq_true rfl) rfl ?_
  intro p e s m below meth c A ls X hr hlocks _ hK hN hA hP hD hl
  have hS : va_S A s.heap s.heap [] := va_S.rf
  have hl : lv_has ls 6 [(0, .ref (a 0)), (1, .int x1), (2, .int x2)] := hl
  obtain ⟨hx, hb, hml, hown, hts⟩ := id X
  have hin2 : ∀ w ∈ wsX20, w ∈ wsX2_all := by decide +kernel
  refine lv_iconst (v := 0) hx hb dX2_all_0 (by decide) ?_
  refine lv_istore_n (lv' := [(3, .int 0), (0, .ref (a 0)), (1, .int x1), (2, .int x2)]) hx hb dX2_all_1 rfl hl (by decide) rfl (fun ls hl => ?_)
  exact jX2_all_2 X hr hlocks hK hN hA 20 z0 x1 x2 0 hF s.heap [] hP hD hS ls (lv_sub hl [1, 2, 3, 0] rfl)
def fX2_first_j110 (K2 : SM → Int32 → Int32 → Int32 → Option (Int32 × SM)) (z0 : SM) (y1 : Int32) (y2 : Int32) (y3 : Int32) : Option (Int32 × SM) := (K2 z0 y1 y2 (y3 + 1))
set_option maxRecDepth 100000 in
set_option maxHeartbeats 4000000 in
theorem jX2_first_110 {p : Program} {l : Launch} {e : Env} {s : State} {m : MethodId} {args : Array Value} {below : List Frame} {meth : Method} {c : Code} {G : va_G} {cy cyO : ClassId} {a : Nat → Nat} {A : Nat → Prop} {r : Int32} {u : SM} (X : CallFix p m c cX2_first 7 s args wsX2_first RX2) (hr : meth.sig.returnType = (some .int)) (hlocks : meth.locks = false) (hK : va_K G vwCl (tys_ cy cyO) s) (hN : nw s) (hA : ∀ q, s.heap.size ≤ q → A q) (K2 : SM → Int32 → Int32 → Int32 → Option (Int32 × SM)) (hK2 : ∀ (z0 : SM) (y1 : Int32) (y2 : Int32) (y3 : Int32), K2 z0 y1 y2 y3 = some (r, u) → ∀ (H : Heap) (locs : List Loc), va_P G vwCl (mW a cy z0) H → va_D A (mW a cy z0) → va_S A s.heap H locs → ∀ (ls : Array Slot), lv_has ls 7 [(0, .ref (a 0)), (1, .int y1), (2, .int y2), (3, .int y3)] → W p l e ({ frames := 6, cells := 0, slots := 0, locals := 134 } : Room) s m args below meth c H locs 0 0 (MQ below (qg (some (.int r)) (fun t => wPost G A (mW a cy u) t) A) args s 0 0 A) (F0 m 2 ls [])) : ∀ (z0 : SM) (y1 : Int32) (y2 : Int32) (y3 : Int32), fX2_first_j110 K2 z0 y1 y2 y3 = some (r, u) → ∀ (H : Heap) (locs : List Loc), va_P G vwCl (mW a cy z0) H → va_D A (mW a cy z0) → va_S A s.heap H locs → ∀ (ls : Array Slot), lv_has ls 7 [(0, .ref (a 0)), (1, .int y1), (2, .int y2), (3, .int y3)] → W p l e ({ frames := 6, cells := 0, slots := 0, locals := 134 } : Room) s m args below meth c H locs 0 0 (MQ below (qg (some (.int r)) (fun t => wPost G A (mW a cy u) t) A) args s 0 0 A) (F0 m 110 ls []) := by
  obtain ⟨hx, hb, hml, hown, hts⟩ := id X
  have hin2 : ∀ w ∈ wsX20, w ∈ wsX2_first := by decide +kernel
  intro z0 y1 y2 y3 hF H locs hP hD hS ls hl
  unfold fX2_first_j110 at hF
  refine lv_iinc (v := y3 + 1) (lv' := [(3, .int (y3 + 1)), (0, .ref (a 0)), (1, .int y1), (2, .int y2)]) hx hb dX2_first_110 hl (k := 3) rfl rfl (by decide) rfl (fun ls hl => ?_)
  refine lv_goto (tgt := 2) hx hb dX2_first_113 (by decide) ?_
  exact hK2 z0 y1 y2 (y3 + 1) hF H locs hP hD hS ls (lv_sub hl [1, 2, 3, 0] rfl)
def fX2_first_j94 (K2 : SM → Int32 → Int32 → Int32 → Option (Int32 × SM)) (z0 : SM) (y1 : Int32) (y2 : Int32) (y3 : Int32) (y4 : Int32) (y5 : Int32) (t0 : Int32) : Option (Int32 × SM) := bd_ (fX2_let z0 y4) (fun r1 z1 => (if y5 = 0 then (fX2_first_j110 K2 z1 y1 y2 y3) else some (t0, z1)))
set_option maxRecDepth 100000 in
set_option maxHeartbeats 4000000 in
theorem jX2_first_94 {p : Program} {l : Launch} {e : Env} {s : State} {m : MethodId} {args : Array Value} {below : List Frame} {meth : Method} {c : Code} {G : va_G} {cy cyO : ClassId} {a : Nat → Nat} {A : Nat → Prop} {r : Int32} {u : SM} (X : CallFix p m c cX2_first 7 s args wsX2_first RX2) (hr : meth.sig.returnType = (some .int)) (hlocks : meth.locks = false) (hK : va_K G vwCl (tys_ cy cyO) s) (hN : nw s) (hA : ∀ q, s.heap.size ≤ q → A q) (K2 : SM → Int32 → Int32 → Int32 → Option (Int32 × SM)) (hK2 : ∀ (z0 : SM) (y1 : Int32) (y2 : Int32) (y3 : Int32), K2 z0 y1 y2 y3 = some (r, u) → ∀ (H : Heap) (locs : List Loc), va_P G vwCl (mW a cy z0) H → va_D A (mW a cy z0) → va_S A s.heap H locs → ∀ (ls : Array Slot), lv_has ls 7 [(0, .ref (a 0)), (1, .int y1), (2, .int y2), (3, .int y3)] → W p l e ({ frames := 6, cells := 0, slots := 0, locals := 134 } : Room) s m args below meth c H locs 0 0 (MQ below (qg (some (.int r)) (fun t => wPost G A (mW a cy u) t) A) args s 0 0 A) (F0 m 2 ls [])) : ∀ (z0 : SM) (y1 : Int32) (y2 : Int32) (y3 : Int32) (y4 : Int32) (y5 : Int32) (t0 : Int32), fX2_first_j94 K2 z0 y1 y2 y3 y4 y5 t0 = some (r, u) → ∀ (H : Heap) (locs : List Loc), va_P G vwCl (mW a cy z0) H → va_D A (mW a cy z0) → va_S A s.heap H locs → ∀ (ls : Array Slot), lv_has ls 7 [(0, .ref (a 0)), (1, .int y1), (2, .int y2), (3, .int y3), (4, .int y4), (5, .int y5)] → W p l e ({ frames := 6, cells := 0, slots := 0, locals := 134 } : Room) s m args below meth c H locs 0 0 (MQ below (qg (some (.int r)) (fun t => wPost G A (mW a cy u) t) A) args s 0 0 A) (F0 m 94 ls [.int t0]) := by
  obtain ⟨hx, hb, hml, hown, hts⟩ := id X
  have hin2 : ∀ w ∈ wsX20, w ∈ wsX2_first := by decide +kernel
  intro z0 y1 y2 y3 y4 y5 t0 hF H locs hP hD hS ls hl
  unfold fX2_first_j94 at hF
  refine lv_istore (lv' := [(6, .int t0), (0, .ref (a 0)), (1, .int y1), (2, .int y2), (3, .int y3), (4, .int y4), (5, .int y5)]) hx hb dX2_first_94 hl (by decide) rfl (fun ls hl => ?_)
  refine lv_aload_n hx hb dX2_first_96 rfl (lv_at hl 1 rfl) ?_
  refine lv_iload hx hb dX2_first_97 (lv_at hl 5 rfl) ?_
  obtain ⟨r1, z1, hG1, hF⟩ := o_b hF
  refine cl_V (C := RX2) (rest := []) X hK hN hA hP hD hS (kX2_let l G cy cyO a z0 y4 r1 z1 hG1) (cwV 1 hts gX2_first_X2_let rfl rfl rfl (by decide +kernel) ⟨Nat.le_of_ble_eq_true rfl, Nat.le_of_ble_eq_true rfl⟩) (va_recv hK hP (ci := 2) (q0 := 0) rfl rfl) rfl hl.1 rfl (Nat.le_of_ble_eq_true rfl) dX2_first_99 ⟨Nat.zero_le _, Nat.zero_le _⟩ (fun H locs hP hD hS => ?_)
  refine W.eq (g2 := F0 m 102 ls []) rfl ?_
  refine lv_iload hx hb dX2_first_102 (lv_at hl 6 rfl) ?_
  refine lv_if_eq (tgt := 110) hx hb dX2_first_104 (by decide) (fun c2 => ?_) (fun c2 => ?_)
  · have hF := o_t c2 hF
    exact jX2_first_110 X hr hlocks hK hN hA K2 hK2 z1 y1 y2 y3 hF H locs hP hD hS ls (lv_sub hl [1, 2, 3, 4] rfl)
  · have hF := o_f c2 hF
    refine lv_iload hx hb dX2_first_107 (lv_at hl 0 rfl) ?_
    obtain ⟨rfl, rfl⟩ := o_s hF
    exact rt_i X hr hlocks hP hD hS dX2_first_109
def fX2_first_j72 (K2 : SM → Int32 → Int32 → Int32 → Option (Int32 × SM)) (z0 : SM) (y1 : Int32) (y2 : Int32) (y3 : Int32) (y4 : Int32) (t0 : Int32) : Option (Int32 × SM) := (if t0 = 0 then (fX2_first_j94 K2 z0 y1 y2 y3 y4 t0 0) else bd_ (fX2_pass z0 y4 y2) (fun r2 z2 => bd_ (fX2_ended z2 r2 y3) (fun r3 z3 => (fX2_first_j94 K2 z3 y1 y2 y3 y4 t0 r3))))
set_option maxRecDepth 100000 in
set_option maxHeartbeats 4000000 in
theorem jX2_first_72 {p : Program} {l : Launch} {e : Env} {s : State} {m : MethodId} {args : Array Value} {below : List Frame} {meth : Method} {c : Code} {G : va_G} {cy cyO : ClassId} {a : Nat → Nat} {A : Nat → Prop} {r : Int32} {u : SM} (X : CallFix p m c cX2_first 7 s args wsX2_first RX2) (hr : meth.sig.returnType = (some .int)) (hlocks : meth.locks = false) (hK : va_K G vwCl (tys_ cy cyO) s) (hN : nw s) (hA : ∀ q, s.heap.size ≤ q → A q) (K2 : SM → Int32 → Int32 → Int32 → Option (Int32 × SM)) (hK2 : ∀ (z0 : SM) (y1 : Int32) (y2 : Int32) (y3 : Int32), K2 z0 y1 y2 y3 = some (r, u) → ∀ (H : Heap) (locs : List Loc), va_P G vwCl (mW a cy z0) H → va_D A (mW a cy z0) → va_S A s.heap H locs → ∀ (ls : Array Slot), lv_has ls 7 [(0, .ref (a 0)), (1, .int y1), (2, .int y2), (3, .int y3)] → W p l e ({ frames := 6, cells := 0, slots := 0, locals := 134 } : Room) s m args below meth c H locs 0 0 (MQ below (qg (some (.int r)) (fun t => wPost G A (mW a cy u) t) A) args s 0 0 A) (F0 m 2 ls [])) : ∀ (z0 : SM) (y1 : Int32) (y2 : Int32) (y3 : Int32) (y4 : Int32) (t0 : Int32), fX2_first_j72 K2 z0 y1 y2 y3 y4 t0 = some (r, u) → ∀ (H : Heap) (locs : List Loc), va_P G vwCl (mW a cy z0) H → va_D A (mW a cy z0) → va_S A s.heap H locs → ∀ (ls : Array Slot), lv_has ls 7 [(0, .ref (a 0)), (1, .int y1), (2, .int y2), (3, .int y3), (4, .int y4)] → W p l e ({ frames := 6, cells := 0, slots := 0, locals := 134 } : Room) s m args below meth c H locs 0 0 (MQ below (qg (some (.int r)) (fun t => wPost G A (mW a cy u) t) A) args s 0 0 A) (F0 m 72 ls [.int t0]) := by
  obtain ⟨hx, hb, hml, hown, hts⟩ := id X
  have hin2 : ∀ w ∈ wsX20, w ∈ wsX2_first := by decide +kernel
  intro z0 y1 y2 y3 y4 t0 hF H locs hP hD hS ls hl
  unfold fX2_first_j72 at hF
  refine lv_istore (lv' := [(5, .int t0), (0, .ref (a 0)), (1, .int y1), (2, .int y2), (3, .int y3), (4, .int y4)]) hx hb dX2_first_72 hl (by decide) rfl (fun ls hl => ?_)
  refine lv_iload hx hb dX2_first_74 (lv_at hl 0 rfl) ?_
  refine lv_if_eq (tgt := 93) hx hb dX2_first_76 (by decide) (fun c1 => ?_) (fun c1 => ?_)
  · have hF := o_t c1 hF
    refine lv_iconst (v := 0) hx hb dX2_first_93 (by decide) ?_
    exact jX2_first_94 X hr hlocks hK hN hA K2 hK2 z0 y1 y2 y3 y4 t0 0 hF H locs hP hD hS ls (lv_sub hl [1, 2, 3, 4, 5, 0] rfl)
  · have hF := o_f c1 hF
    refine lv_aload_n hx hb dX2_first_79 rfl (lv_at hl 1 rfl) ?_
    refine lv_iload hx hb dX2_first_80 (lv_at hl 5 rfl) ?_
    refine lv_iload_n hx hb dX2_first_82 rfl (lv_at hl 3 rfl) ?_
    obtain ⟨r2, z2, hG2, hF⟩ := o_b hF
    refine cl_V (C := RX2) (rest := []) X hK hN hA hP hD hS (kX2_pass l G cy cyO a z0 y4 y2 r2 z2 hG2) (cwV 2 hts gX2_first_X2_pass rfl rfl rfl (by decide +kernel) ⟨Nat.le_of_ble_eq_true rfl, Nat.le_of_ble_eq_true rfl⟩) (va_recv hK hP (ci := 2) (q0 := 0) rfl rfl) rfl hl.1 rfl (Nat.le_of_ble_eq_true rfl) dX2_first_83 ⟨Nat.zero_le _, Nat.zero_le _⟩ (fun H locs hP hD hS => ?_)
    refine W.eq (g2 := F0 m 86 ls [.int r2]) rfl ?_
    refine lv_iload_n hx hb dX2_first_86 rfl (lv_at hl 4 rfl) ?_
    obtain ⟨r3, z3, hG3, hF⟩ := o_b hF
    refine cl_S (rest := []) X hK hN hA hP hD hS (kX2_ended l G cy cyO a z2 r2 y3 r3 z3 hG3) (va_cwS 2 hts gX2_first_X2_ended rfl rfl rfl (by decide +kernel) ⟨Nat.le_of_ble_eq_true rfl, Nat.le_of_ble_eq_true rfl⟩) rfl hl.1 rfl (Nat.le_of_ble_eq_true rfl) dX2_first_87 ⟨Nat.zero_le _, Nat.zero_le _⟩ (fun H locs hP hD hS => ?_)
    refine W.eq (g2 := F0 m 90 ls [.int r3]) rfl ?_
    refine lv_goto (tgt := 94) hx hb dX2_first_90 (by decide) ?_
    exact jX2_first_94 X hr hlocks hK hN hA K2 hK2 z3 y1 y2 y3 y4 t0 r3 hF H locs hP hD hS ls (lv_sub hl [1, 2, 3, 4, 5, 0] rfl)
def fX2_first_j71 (K2 : SM → Int32 → Int32 → Int32 → Option (Int32 × SM)) (z0 : SM) (y1 : Int32) (y2 : Int32) (y3 : Int32) (y4 : Int32) : Option (Int32 × SM) := (fX2_first_j72 K2 z0 y1 y2 y3 y4 0)
set_option maxRecDepth 100000 in
set_option maxHeartbeats 4000000 in
theorem jX2_first_71 {p : Program} {l : Launch} {e : Env} {s : State} {m : MethodId} {args : Array Value} {below : List Frame} {meth : Method} {c : Code} {G : va_G} {cy cyO : ClassId} {a : Nat → Nat} {A : Nat → Prop} {r : Int32} {u : SM} (X : CallFix p m c cX2_first 7 s args wsX2_first RX2) (hr : meth.sig.returnType = (some .int)) (hlocks : meth.locks = false) (hK : va_K G vwCl (tys_ cy cyO) s) (hN : nw s) (hA : ∀ q, s.heap.size ≤ q → A q) (K2 : SM → Int32 → Int32 → Int32 → Option (Int32 × SM)) (hK2 : ∀ (z0 : SM) (y1 : Int32) (y2 : Int32) (y3 : Int32), K2 z0 y1 y2 y3 = some (r, u) → ∀ (H : Heap) (locs : List Loc), va_P G vwCl (mW a cy z0) H → va_D A (mW a cy z0) → va_S A s.heap H locs → ∀ (ls : Array Slot), lv_has ls 7 [(0, .ref (a 0)), (1, .int y1), (2, .int y2), (3, .int y3)] → W p l e ({ frames := 6, cells := 0, slots := 0, locals := 134 } : Room) s m args below meth c H locs 0 0 (MQ below (qg (some (.int r)) (fun t => wPost G A (mW a cy u) t) A) args s 0 0 A) (F0 m 2 ls [])) : ∀ (z0 : SM) (y1 : Int32) (y2 : Int32) (y3 : Int32) (y4 : Int32), fX2_first_j71 K2 z0 y1 y2 y3 y4 = some (r, u) → ∀ (H : Heap) (locs : List Loc), va_P G vwCl (mW a cy z0) H → va_D A (mW a cy z0) → va_S A s.heap H locs → ∀ (ls : Array Slot), lv_has ls 7 [(0, .ref (a 0)), (1, .int y1), (2, .int y2), (3, .int y3), (4, .int y4)] → W p l e ({ frames := 6, cells := 0, slots := 0, locals := 134 } : Room) s m args below meth c H locs 0 0 (MQ below (qg (some (.int r)) (fun t => wPost G A (mW a cy u) t) A) args s 0 0 A) (F0 m 71 ls []) := by
  obtain ⟨hx, hb, hml, hown, hts⟩ := id X
  have hin2 : ∀ w ∈ wsX20, w ∈ wsX2_first := by decide +kernel
  intro z0 y1 y2 y3 y4 hF H locs hP hD hS ls hl
  unfold fX2_first_j71 at hF
  refine lv_iconst (v := 0) hx hb dX2_first_71 (by decide) ?_
  exact jX2_first_72 X hr hlocks hK hN hA K2 hK2 z0 y1 y2 y3 y4 0 hF H locs hP hD hS ls (lv_sub hl [0, 1, 2, 3, 4] rfl)
def fX2_first_j2 : Nat → SM → Int32 → Int32 → Int32 → Option (Int32 × SM)
  | 0, _, _, _, _ => none
  | n + 1, z0, y1, y2, y3 => if y1 < 0 ∨ 6 ≤ y1.toNatClampNeg then none else let_ (z0.2.2.2.1 y1.toNatClampNeg) (fun v1 => (if v1 ≤ y3 then some (0, z0) else bd_ (fX2_sectionOf z0 y1 y3) (fun r3 z3 => (if 0 ≤ r3 then bd_ (fX2_claim z3 r3) (fun r5 z5 => if r3 < 0 ∨ 640 ≤ r3.toNatClampNeg then none else let_ ((z5.1 4) r3.toNatClampNeg) (fun v6 => if r3 < 0 ∨ 640 ≤ r3.toNatClampNeg then none else let_ ((z5.1 2) r3.toNatClampNeg) (fun v7 => (if 0 < (lg_cmp (v6.toInt64 + y2.toInt64) v7.toInt64) then (fX2_first_j71 (fX2_first_j2 n) z5 y1 y2 y3 r3) else if r3 < 0 ∨ 640 ≤ r3.toNatClampNeg then none else let_ ((z5.1 5) r3.toNatClampNeg) (fun v9 => (if v9 = 0 then (fX2_first_j72 (fX2_first_j2 n) z5 y1 y2 y3 r3 1) else (fX2_first_j71 (fX2_first_j2 n) z5 y1 y2 y3 r3))))))) else (fX2_first_j110 (fX2_first_j2 n) z3 y1 y2 y3)))))
set_option maxRecDepth 100000 in
set_option maxHeartbeats 4000000 in
theorem jX2_first_2 {p : Program} {l : Launch} {e : Env} {s : State} {m : MethodId} {args : Array Value} {below : List Frame} {meth : Method} {c : Code} {G : va_G} {cy cyO : ClassId} {a : Nat → Nat} {A : Nat → Prop} {r : Int32} {u : SM} (X : CallFix p m c cX2_first 7 s args wsX2_first RX2) (hr : meth.sig.returnType = (some .int)) (hlocks : meth.locks = false) (hK : va_K G vwCl (tys_ cy cyO) s) (hN : nw s) (hA : ∀ q, s.heap.size ≤ q → A q) : ∀ n : Nat, ∀ (z0 : SM) (y1 : Int32) (y2 : Int32) (y3 : Int32), fX2_first_j2 n z0 y1 y2 y3 = some (r, u) → ∀ (H : Heap) (locs : List Loc), va_P G vwCl (mW a cy z0) H → va_D A (mW a cy z0) → va_S A s.heap H locs → ∀ (ls : Array Slot), lv_has ls 7 [(0, .ref (a 0)), (1, .int y1), (2, .int y2), (3, .int y3)] → W p l e ({ frames := 6, cells := 0, slots := 0, locals := 134 } : Room) s m args below meth c H locs 0 0 (MQ below (qg (some (.int r)) (fun t => wPost G A (mW a cy u) t) A) args s 0 0 A) (F0 m 2 ls []) := by
  obtain ⟨hx, hb, hml, hown, hts⟩ := id X
  have hin2 : ∀ w ∈ wsX20, w ∈ wsX2_first := by decide +kernel
  intro n
  induction n with
  | zero => intro z0 y1 y2 y3 hF; cases hF
  | succ n ih =>
    intro z0 y1 y2 y3 hF H locs hP hD hS ls hl
    rw [fX2_first_j2] at hF
    refine lv_iload_n hx hb dX2_first_2 rfl (lv_at hl 3 rfl) ?_
    refine lv_aload_n hx hb dX2_first_3 rfl (lv_at hl 0 rfl) ?_
    refine va_get (D := G) (ci := 2) (v := .ref (a 11)) (C := RX2) (T := TX2) (N := 18) hx hb hts hin2 hown hK hP 0 rfl rfl 11 (by decide) (hts (.fieldLink RX2 40 "SignalBoxModel" "lengths" "[I") (by decide +kernel)) (fun _ h9 => h9) rfl dX2_first_4 ?_
    refine lv_iload_n hx hb dX2_first_7 rfl (lv_at hl 1 rfl) ?_
    obtain ⟨h1, hF⟩ := o_n hF
    refine va_iald (n := 6) (f := z0.2.2.2.1) (cA := cy) hx hb hK hP 11 0 rfl rfl h1 dX2_first_8 ?_
    obtain ⟨v1, e1, hF⟩ := o_l hF
    refine w_top e1 ?_
    refine lv_icmp_ge (tgt := 116) hx hb dX2_first_9 (by decide) (fun c2 => ?_) (fun c2 => ?_)
    · have hF := o_t c2 hF
      refine lv_iconst (v := 0) hx hb dX2_first_116 (by decide) ?_
      obtain ⟨rfl, rfl⟩ := o_s hF
      exact rt_i X hr hlocks hP hD hS dX2_first_117
    · have hF := o_f c2 hF
      refine lv_aload_n hx hb dX2_first_12 rfl (lv_at hl 0 rfl) ?_
      refine lv_iload_n hx hb dX2_first_13 rfl (lv_at hl 1 rfl) ?_
      refine lv_iload_n hx hb dX2_first_14 rfl (lv_at hl 3 rfl) ?_
      obtain ⟨r3, z3, hG3, hF⟩ := o_b hF
      refine cl_V (C := RX2) (rest := []) X hK hN hA hP hD hS (kX2_sectionOf l G cy cyO a z0 y1 y3 r3 z3 hG3) (cwV 2 hts gX2_first_X2_sectionOf rfl rfl rfl (by decide +kernel) ⟨Nat.le_of_ble_eq_true rfl, Nat.le_of_ble_eq_true rfl⟩) (va_recv hK hP (ci := 2) (q0 := 0) rfl rfl) rfl hl.1 rfl (Nat.le_of_ble_eq_true rfl) dX2_first_15 ⟨Nat.zero_le _, Nat.zero_le _⟩ (fun H locs hP hD hS => ?_)
      refine W.eq (g2 := F0 m 18 ls [.int r3]) rfl ?_
      refine lv_istore (lv' := [(4, .int r3), (0, .ref (a 0)), (1, .int y1), (2, .int y2), (3, .int y3)]) hx hb dX2_first_18 hl (by decide) rfl (fun ls hl => ?_)
      refine lv_iload hx hb dX2_first_20 (lv_at hl 0 rfl) ?_
      refine lv_if_ge (tgt := 28) hx hb dX2_first_22 (by decide) (fun c4 => ?_) (fun c4 => ?_)
      · have hF := o_t c4 hF
        refine lv_aload_n hx hb dX2_first_28 rfl (lv_at hl 1 rfl) ?_
        refine lv_iload hx hb dX2_first_29 (lv_at hl 0 rfl) ?_
        obtain ⟨r5, z5, hG5, hF⟩ := o_b hF
        refine cl_V (C := RX2) (rest := []) X hK hN hA hP hD hS (kX2_claim l G cy cyO a z3 r3 r5 z5 hG5) (cwV 1 hts gX2_first_X2_claim rfl rfl rfl (by decide +kernel) ⟨Nat.le_of_ble_eq_true rfl, Nat.le_of_ble_eq_true rfl⟩) (va_recv hK hP (ci := 2) (q0 := 0) rfl rfl) rfl hl.1 rfl (Nat.le_of_ble_eq_true rfl) dX2_first_31 ⟨Nat.zero_le _, Nat.zero_le _⟩ (fun H locs hP hD hS => ?_)
        refine W.eq (g2 := F0 m 34 ls []) rfl ?_
        refine lv_aload_n hx hb dX2_first_34 rfl (lv_at hl 1 rfl) ?_
        refine va_get (D := G) (ci := 2) (v := .ref (a 4)) (C := RX2) (T := TX2) (N := 18) hx hb hts hin2 hown hK hP 0 rfl rfl 4 (by decide) (hts (.fieldLink RX2 19 "SignalBoxModel" "axles" "[I") (by decide +kernel)) (fun _ h9 => h9) rfl dX2_first_35 ?_
        refine lv_iload hx hb dX2_first_38 (lv_at hl 0 rfl) ?_
        obtain ⟨h6, hF⟩ := o_n hF
        refine va_iald (n := 640) (f := (z5.1 4)) (cA := cy) hx hb hK hP 4 0 rfl rfl h6 dX2_first_40 ?_
        obtain ⟨v6, e6, hF⟩ := o_l hF
        refine w_top e6 ?_
        refine lv_i2l hx hb dX2_first_41 rfl ?_
        refine lv_iload_n hx hb dX2_first_42 rfl (lv_at hl 3 rfl) ?_
        refine lv_i2l hx hb dX2_first_43 rfl ?_
        refine lv_ladd hx hb dX2_first_44 ?_
        refine lv_aload_n hx hb dX2_first_45 rfl (lv_at hl 1 rfl) ?_
        refine va_get (D := G) (ci := 2) (v := .ref (a 2)) (C := RX2) (T := TX2) (N := 18) hx hb hts hin2 hown hK hP 0 rfl rfl 2 (by decide) (hts (.fieldLink RX2 13 "SignalBoxModel" "limits" "[I") (by decide +kernel)) (fun _ h9 => h9) rfl dX2_first_46 ?_
        refine lv_iload hx hb dX2_first_49 (lv_at hl 0 rfl) ?_
        obtain ⟨h7, hF⟩ := o_n hF
        refine va_iald (n := 640) (f := (z5.1 2)) (cA := cy) hx hb hK hP 2 0 rfl rfl h7 dX2_first_51 ?_
        obtain ⟨v7, e7, hF⟩ := o_l hF
        refine w_top e7 ?_
        refine lv_i2l hx hb dX2_first_52 rfl ?_
        refine W.lcmp hx hb dX2_first_53 ?_
        refine lv_if_gt (tgt := 71) hx hb dX2_first_54 (by decide) (fun c8 => ?_) (fun c8 => ?_)
        · have hF := o_t c8 hF
          exact jX2_first_71 X hr hlocks hK hN hA (fX2_first_j2 n) ih z5 y1 y2 y3 r3 hF H locs hP hD hS ls (lv_sub hl [1, 2, 3, 4, 0] rfl)
        · have hF := o_f c8 hF
          refine lv_aload_n hx hb dX2_first_57 rfl (lv_at hl 1 rfl) ?_
          refine va_get (D := G) (ci := 2) (v := .ref (a 5)) (C := RX2) (T := TX2) (N := 18) hx hb hts hin2 hown hK hP 0 rfl rfl 5 (by decide) (hts (.fieldLink RX2 22 "SignalBoxModel" "legs" "[I") (by decide +kernel)) (fun _ h9 => h9) rfl dX2_first_58 ?_
          refine lv_iload hx hb dX2_first_61 (lv_at hl 0 rfl) ?_
          obtain ⟨h9, hF⟩ := o_n hF
          refine va_iald (n := 640) (f := (z5.1 5)) (cA := cy) hx hb hK hP 5 0 rfl rfl h9 dX2_first_63 ?_
          obtain ⟨v9, e9, hF⟩ := o_l hF
          refine w_top e9 ?_
          refine lv_if_ne (tgt := 71) hx hb dX2_first_64 (by decide) (fun c10 => ?_) (fun c10 => ?_)
          · have hF := o_f c10 hF
            exact jX2_first_71 X hr hlocks hK hN hA (fX2_first_j2 n) ih z5 y1 y2 y3 r3 hF H locs hP hD hS ls (lv_sub hl [1, 2, 3, 4, 0] rfl)
          · have hF := o_t c10 hF
            refine lv_iconst (v := 1) hx hb dX2_first_67 (by decide) ?_
            refine lv_goto (tgt := 72) hx hb dX2_first_68 (by decide) ?_
            exact jX2_first_72 X hr hlocks hK hN hA (fX2_first_j2 n) ih z5 y1 y2 y3 r3 1 hF H locs hP hD hS ls (lv_sub hl [1, 2, 3, 4, 0] rfl)
      · have hF := o_f c4 hF
        refine lv_goto (tgt := 110) hx hb dX2_first_25 (by decide) ?_
        exact jX2_first_110 X hr hlocks hK hN hA (fX2_first_j2 n) ih z3 y1 y2 y3 hF H locs hP hD hS ls (lv_sub hl [1, 2, 3, 4] rfl)
def fX2_first (z0 : SM) (x1 : Int32) (x2 : Int32) : Option (Int32 × SM) := (fX2_first_j2 20 z0 x1 x2 0)
set_option maxRecDepth 100000 in
set_option maxHeartbeats 4000000 in
theorem kX2_first (l : Launch) (G : va_G) (cy cyO : ClassId) (a : Nat → Nat) (z0 : SM) (x1 : Int32) (x2 : Int32) (r : Int32) (u : SM) (hF : fX2_first z0 x1 x2 = some (r, u)) : Ct l G (tys_ cy cyO) yX2_first wsX2_first ({ frames := 6, cells := 0, slots := 0, locals := 134 } : Room) [.ref (a 0), .int x1, .int x2] (mW a cy z0) (some (.int r)) (mW a cy u) := by
  unfold fX2_first at hF
  refine ct_of (cc := cX2_first) (maxL := 7) (ret := (some .int)) (own := RX2) (by decide) rfl (Nat.le_of_ble_eq_true rfl) rfl ?_
  intro p e s m below meth c A ls X hr hlocks _ hK hN hA hP hD hl
  have hS : va_S A s.heap s.heap [] := va_S.rf
  have hl : lv_has ls 7 [(0, .ref (a 0)), (1, .int x1), (2, .int x2)] := hl
  obtain ⟨hx, hb, hml, hown, hts⟩ := id X
  have hin2 : ∀ w ∈ wsX20, w ∈ wsX2_first := by decide +kernel
  refine lv_iconst (v := 0) hx hb dX2_first_0 (by decide) ?_
  refine lv_istore_n (lv' := [(3, .int 0), (0, .ref (a 0)), (1, .int x1), (2, .int x2)]) hx hb dX2_first_1 rfl hl (by decide) rfl (fun ls hl => ?_)
  exact jX2_first_2 X hr hlocks hK hN hA 20 z0 x1 x2 0 hF s.heap [] hP hD hS ls (lv_sub hl [1, 2, 3, 0] rfl)
def fX2_run_j150 (z0 : SM) (y4 : Int32) (t0 : Int32) (t1 : Int32) : Option (Int32 × SM) := let_ ((z0.1, z0.2.1, z0.2.2.1, z0.2.2.2.1, z0.2.2.2.2.1, z0.2.2.2.2.2.1, z0.2.2.2.2.2.2.1, z0.2.2.2.2.2.2.2.1, z0.2.2.2.2.2.2.2.2.1, (t1 + t0), z0.2.2.2.2.2.2.2.2.2.2) : SM) (fun z1 => (if y4 < 0 then some (y4, z1) else some (z1.2.2.2.2.2.2.2.2.2.2, z1)))
set_option maxRecDepth 100000 in
set_option maxHeartbeats 4000000 in
theorem jX2_run_150 {p : Program} {l : Launch} {e : Env} {s : State} {m : MethodId} {args : Array Value} {below : List Frame} {meth : Method} {c : Code} {G : va_G} {cy cyO : ClassId} {a : Nat → Nat} {A : Nat → Prop} {r : Int32} {u : SM} (X : CallFix p m c cX2_run 5 s args wsX2_run RX2) (hr : meth.sig.returnType = (some .int)) (hlocks : meth.locks = false) (hK : va_K G vwCl (tys_ cy cyO) s) (hN : nw s) (hA : ∀ q, s.heap.size ≤ q → A q) : ∀ (z0 : SM) (y4 : Int32) (t0 : Int32) (t1 : Int32), fX2_run_j150 z0 y4 t0 t1 = some (r, u) → ∀ (H : Heap) (locs : List Loc), va_P G vwCl (mW a cy z0) H → va_D A (mW a cy z0) → va_S A s.heap H locs → ∀ (ls : Array Slot), lv_has ls 5 [(0, .ref (a 0)), (4, .int y4)] → W p l e ({ frames := 8, cells := 0, slots := 0, locals := 183 } : Room) s m args below meth c H locs 0 0 (MQ below (qg (some (.int r)) (fun t => wPost G A (mW a cy u) t) A) args s 0 0 A) (F0 m 150 ls [.int t0, .int t1, .ref (a 0)]) := by
  obtain ⟨hx, hb, hml, hown, hts⟩ := id X
  have hin2 : ∀ w ∈ wsX20, w ∈ wsX2_run := by decide +kernel
  intro z0 y4 t0 t1 hF H locs hP hD hS ls hl
  unfold fX2_run_j150 at hF
  refine lv_iadd hx hb dX2_run_150 ?_
  refine va_put (D := G) (ci := 2) (v := .int (t1 + t0)) (ty := .int) (C := RX2) (T := TX2) (N := 18) hx hb hts hin2 tyX2 tyX2_ok nmX2 hown hK hP hD hS 0 rfl rfl 17 (by decide) (hts (.fieldLink RX2 118 "SignalBoxModel" "fulls" "I") (by decide +kernel)) (fun _ h9 => h9) rfl (by decide +kernel) rfl rfl (Nat.le_of_ble_eq_true rfl) dX2_run_151 (fun H locs hP hD hS => ?_)
  obtain ⟨z1, e1, hF⟩ := o_l hF
  have hP : va_P G vwCl (mW a cy z1) H := by rw [e1]; exact hP
  have hD : va_D A (mW a cy z1) := by rw [e1]; exact hD
  refine lv_iload hx hb dX2_run_154 (lv_at hl 1 rfl) ?_
  refine lv_if_lt (tgt := 166) hx hb dX2_run_156 (by decide) (fun c2 => ?_) (fun c2 => ?_)
  · have hF := o_t c2 hF
    refine lv_iload hx hb dX2_run_166 (lv_at hl 1 rfl) ?_
    obtain ⟨rfl, rfl⟩ := o_s hF
    exact rt_i X hr hlocks hP hD hS dX2_run_168
  · have hF := o_f c2 hF
    refine lv_aload_n hx hb dX2_run_159 rfl (lv_at hl 0 rfl) ?_
    refine va_get (D := G) (ci := 2) (v := .int z1.2.2.2.2.2.2.2.2.2.2) (C := RX2) (T := TX2) (N := 18) hx hb hts hin2 hown hK hP 0 rfl rfl 14 (by decide) (hts (.fieldLink RX2 85 "SignalBoxModel" "passed" "I") (by decide +kernel)) (fun _ h9 => h9) rfl dX2_run_160 ?_
    refine lv_goto (tgt := 168) hx hb dX2_run_163 (by decide) ?_
    obtain ⟨rfl, rfl⟩ := o_s hF
    exact rt_i X hr hlocks hP hD hS dX2_run_168
def fX2_run_j129 (z0 : SM) (y4 : Int32) (t0 : Int32) (t1 : Int32) : Option (Int32 × SM) := let_ ((z0.1, z0.2.1, z0.2.2.1, z0.2.2.2.1, z0.2.2.2.2.1, z0.2.2.2.2.2.1, z0.2.2.2.2.2.2.1, z0.2.2.2.2.2.2.2.1, (t1 + t0), z0.2.2.2.2.2.2.2.2.2) : SM) (fun z1 => (if y4 = (-30) then (fX2_run_j150 z1 y4 1 z1.2.2.2.2.2.2.2.2.2.1) else (fX2_run_j150 z1 y4 0 z1.2.2.2.2.2.2.2.2.2.1)))
set_option maxRecDepth 100000 in
set_option maxHeartbeats 4000000 in
theorem jX2_run_129 {p : Program} {l : Launch} {e : Env} {s : State} {m : MethodId} {args : Array Value} {below : List Frame} {meth : Method} {c : Code} {G : va_G} {cy cyO : ClassId} {a : Nat → Nat} {A : Nat → Prop} {r : Int32} {u : SM} (X : CallFix p m c cX2_run 5 s args wsX2_run RX2) (hr : meth.sig.returnType = (some .int)) (hlocks : meth.locks = false) (hK : va_K G vwCl (tys_ cy cyO) s) (hN : nw s) (hA : ∀ q, s.heap.size ≤ q → A q) : ∀ (z0 : SM) (y4 : Int32) (t0 : Int32) (t1 : Int32), fX2_run_j129 z0 y4 t0 t1 = some (r, u) → ∀ (H : Heap) (locs : List Loc), va_P G vwCl (mW a cy z0) H → va_D A (mW a cy z0) → va_S A s.heap H locs → ∀ (ls : Array Slot), lv_has ls 5 [(0, .ref (a 0)), (4, .int y4)] → W p l e ({ frames := 8, cells := 0, slots := 0, locals := 183 } : Room) s m args below meth c H locs 0 0 (MQ below (qg (some (.int r)) (fun t => wPost G A (mW a cy u) t) A) args s 0 0 A) (F0 m 129 ls [.int t0, .int t1, .ref (a 0)]) := by
  obtain ⟨hx, hb, hml, hown, hts⟩ := id X
  have hin2 : ∀ w ∈ wsX20, w ∈ wsX2_run := by decide +kernel
  intro z0 y4 t0 t1 hF H locs hP hD hS ls hl
  unfold fX2_run_j129 at hF
  refine lv_iadd hx hb dX2_run_129 ?_
  refine va_put (D := G) (ci := 2) (v := .int (t1 + t0)) (ty := .int) (C := RX2) (T := TX2) (N := 18) hx hb hts hin2 tyX2 tyX2_ok nmX2 hown hK hP hD hS 0 rfl rfl 16 (by decide) (hts (.fieldLink RX2 115 "SignalBoxModel" "nulls" "I") (by decide +kernel)) (fun _ h9 => h9) rfl (by decide +kernel) rfl rfl (Nat.le_of_ble_eq_true rfl) dX2_run_130 (fun H locs hP hD hS => ?_)
  obtain ⟨z1, e1, hF⟩ := o_l hF
  have hP : va_P G vwCl (mW a cy z1) H := by rw [e1]; exact hP
  have hD : va_D A (mW a cy z1) := by rw [e1]; exact hD
  refine lv_aload_n hx hb dX2_run_133 rfl (lv_at hl 0 rfl) ?_
  refine lv_dup hx hb dX2_run_134 rfl ?_
  refine va_get (D := G) (ci := 2) (v := .int z1.2.2.2.2.2.2.2.2.2.1) (C := RX2) (T := TX2) (N := 18) hx hb hts hin2 hown hK hP 0 rfl rfl 17 (by decide) (hts (.fieldLink RX2 118 "SignalBoxModel" "fulls" "I") (by decide +kernel)) (fun _ h9 => h9) rfl dX2_run_135 ?_
  refine lv_iload hx hb dX2_run_138 (lv_at hl 1 rfl) ?_
  refine lv_bipush (v := (-30)) hx hb dX2_run_140 (by decide) ?_
  refine lv_icmp_ne (tgt := 149) hx hb dX2_run_142 (by decide) (fun c2 => ?_) (fun c2 => ?_)
  · have hF := o_f c2 hF
    refine lv_iconst (v := 0) hx hb dX2_run_149 (by decide) ?_
    exact jX2_run_150 X hr hlocks hK hN hA z1 y4 0 z1.2.2.2.2.2.2.2.2.2.1 hF H locs hP hD hS ls (lv_sub hl [0, 1] rfl)
  · have hF := o_t c2 hF
    refine lv_iconst (v := 1) hx hb dX2_run_145 (by decide) ?_
    refine lv_goto (tgt := 150) hx hb dX2_run_146 (by decide) ?_
    exact jX2_run_150 X hr hlocks hK hN hA z1 y4 1 z1.2.2.2.2.2.2.2.2.2.1 hF H locs hP hD hS ls (lv_sub hl [0, 1] rfl)
def fX2_run_j110 (z0 : SM) (t0 : Int32) : Option (Int32 × SM) := (if t0 = (-11) then (fX2_run_j129 z0 t0 1 z0.2.2.2.2.2.2.2.2.1) else (fX2_run_j129 z0 t0 0 z0.2.2.2.2.2.2.2.2.1))
set_option maxRecDepth 100000 in
set_option maxHeartbeats 4000000 in
theorem jX2_run_110 {p : Program} {l : Launch} {e : Env} {s : State} {m : MethodId} {args : Array Value} {below : List Frame} {meth : Method} {c : Code} {G : va_G} {cy cyO : ClassId} {a : Nat → Nat} {A : Nat → Prop} {r : Int32} {u : SM} (X : CallFix p m c cX2_run 5 s args wsX2_run RX2) (hr : meth.sig.returnType = (some .int)) (hlocks : meth.locks = false) (hK : va_K G vwCl (tys_ cy cyO) s) (hN : nw s) (hA : ∀ q, s.heap.size ≤ q → A q) : ∀ (z0 : SM) (t0 : Int32), fX2_run_j110 z0 t0 = some (r, u) → ∀ (H : Heap) (locs : List Loc), va_P G vwCl (mW a cy z0) H → va_D A (mW a cy z0) → va_S A s.heap H locs → ∀ (ls : Array Slot), lv_has ls 5 [(0, .ref (a 0))] → W p l e ({ frames := 8, cells := 0, slots := 0, locals := 183 } : Room) s m args below meth c H locs 0 0 (MQ below (qg (some (.int r)) (fun t => wPost G A (mW a cy u) t) A) args s 0 0 A) (F0 m 110 ls [.int t0]) := by
  obtain ⟨hx, hb, hml, hown, hts⟩ := id X
  have hin2 : ∀ w ∈ wsX20, w ∈ wsX2_run := by decide +kernel
  intro z0 t0 hF H locs hP hD hS ls hl
  unfold fX2_run_j110 at hF
  refine lv_istore (lv' := [(4, .int t0), (0, .ref (a 0))]) hx hb dX2_run_110 hl (by decide) rfl (fun ls hl => ?_)
  refine lv_aload_n hx hb dX2_run_112 rfl (lv_at hl 1 rfl) ?_
  refine lv_dup hx hb dX2_run_113 rfl ?_
  refine va_get (D := G) (ci := 2) (v := .int z0.2.2.2.2.2.2.2.2.1) (C := RX2) (T := TX2) (N := 18) hx hb hts hin2 hown hK hP 0 rfl rfl 16 (by decide) (hts (.fieldLink RX2 115 "SignalBoxModel" "nulls" "I") (by decide +kernel)) (fun _ h9 => h9) rfl dX2_run_114 ?_
  refine lv_iload hx hb dX2_run_117 (lv_at hl 0 rfl) ?_
  refine lv_bipush (v := (-11)) hx hb dX2_run_119 (by decide) ?_
  refine lv_icmp_ne (tgt := 128) hx hb dX2_run_121 (by decide) (fun c1 => ?_) (fun c1 => ?_)
  · have hF := o_f c1 hF
    refine lv_iconst (v := 0) hx hb dX2_run_128 (by decide) ?_
    exact jX2_run_129 X hr hlocks hK hN hA z0 t0 0 z0.2.2.2.2.2.2.2.2.1 hF H locs hP hD hS ls (lv_sub hl [1, 0] rfl)
  · have hF := o_t c1 hF
    refine lv_iconst (v := 1) hx hb dX2_run_124 (by decide) ?_
    refine lv_goto (tgt := 129) hx hb dX2_run_125 (by decide) ?_
    exact jX2_run_129 X hr hlocks hK hN hA z0 t0 1 z0.2.2.2.2.2.2.2.2.1 hF H locs hP hD hS ls (lv_sub hl [1, 0] rfl)
def fX2_run (z0 : SM) (x1 : Int32) (x2 : Int32) (x3 : Int32) : Option (Int32 × SM) := bd_ (fX2_isRoute z0 x1) (fun r1 z1 => (if r1 = 0 then some ((-1), z1) else bd_ (fX2_in z1 x2 0 4) (fun r3 z3 => (if r3 = 0 then some ((-1), z3) else bd_ (fX2_in z3 x3 0 1000) (fun r5 z5 => (if r5 = 0 then some ((-1), z5) else let_ ((z5.1, z5.2.1, z5.2.2.1, z5.2.2.2.1, z5.2.2.2.2.1, z5.2.2.2.2.2.1, z5.2.2.2.2.2.2.1, (z5.2.2.2.2.2.2.2.1 + 1), z5.2.2.2.2.2.2.2.2) : SM) (fun z7 => let_ ((z7.1, z7.2.1, z7.2.2.1, z7.2.2.2.1, z7.2.2.2.2.1, 0, z7.2.2.2.2.2.2) : SM) (fun z8 => let_ ((z8.1, z8.2.1, z8.2.2.1, z8.2.2.2.1, z8.2.2.2.2.1, z8.2.2.2.2.2.1, z8.2.2.2.2.2.2.1, z8.2.2.2.2.2.2.2.1, z8.2.2.2.2.2.2.2.2.1, z8.2.2.2.2.2.2.2.2.2.1, 0) : SM) (fun z9 => (if x2 = 0 then bd_ (fX2_alone z9 x1 x3) (fun r18 z18 => (fX2_run_j110 z18 r18)) else (if x2 = 1 then bd_ (fX2_twoByTwo z9 x1 x3) (fun r17 z17 => (fX2_run_j110 z17 r17)) else (if x2 = 2 then bd_ (fX2_all z9 x1 x3) (fun r16 z16 => (fX2_run_j110 z16 r16)) else (if x2 = 3 then bd_ (fX2_first z9 x1 x3) (fun r15 z15 => (fX2_run_j110 z15 r15)) else bd_ (fX2_round z9 x1 x3) (fun r14 z14 => (fX2_run_j110 z14 r14)))))))))))))))
set_option maxRecDepth 100000 in
set_option maxHeartbeats 4000000 in
theorem kX2_run (l : Launch) (G : va_G) (cy cyO : ClassId) (a : Nat → Nat) (z0 : SM) (x1 : Int32) (x2 : Int32) (x3 : Int32) (r : Int32) (u : SM) (hF : fX2_run z0 x1 x2 x3 = some (r, u)) : Ct l G (tys_ cy cyO) yX2_run wsX2_run ({ frames := 8, cells := 0, slots := 0, locals := 183 } : Room) [.ref (a 0), .int x1, .int x2, .int x3] (mW a cy z0) (some (.int r)) (mW a cy u) := by
  unfold fX2_run at hF
  refine ct_of (cc := cX2_run) (maxL := 5) (ret := (some .int)) (own := RX2) (by decide) rfl (Nat.le_of_ble_eq_true rfl) rfl ?_
  intro p e s m below meth c A ls X hr hlocks _ hK hN hA hP hD hl
  have hS : va_S A s.heap s.heap [] := va_S.rf
  have hl : lv_has ls 5 [(0, .ref (a 0)), (1, .int x1), (2, .int x2), (3, .int x3)] := hl
  obtain ⟨hx, hb, hml, hown, hts⟩ := id X
  have hin2 : ∀ w ∈ wsX20, w ∈ wsX2_run := by decide +kernel
  refine lv_iload_n hx hb dX2_run_0 rfl (lv_at hl 1 rfl) ?_
  obtain ⟨r1, z1, hG1, hF⟩ := o_b hF
  refine cl_S (rest := []) X hK hN hA hP hD hS (kX2_isRoute l G cy cyO a z0 x1 r1 z1 hG1) (va_cwS 1 hts gX2_run_X2_isRoute rfl rfl rfl (by decide +kernel) ⟨Nat.le_of_ble_eq_true rfl, Nat.le_of_ble_eq_true rfl⟩) rfl hl.1 rfl (Nat.le_of_ble_eq_true rfl) dX2_run_1 ⟨Nat.zero_le _, Nat.zero_le _⟩ (fun H locs hP hD hS => ?_)
  refine W.eq (g2 := F0 m 4 ls [.int r1]) rfl ?_
  refine lv_if_eq (tgt := 27) hx hb dX2_run_4 (by decide) (fun c2 => ?_) (fun c2 => ?_)
  · have hF := o_t c2 hF
    refine lv_iconst (v := (-1)) hx hb dX2_run_27 (by decide) ?_
    obtain ⟨rfl, rfl⟩ := o_s hF
    exact rt_i X hr hlocks hP hD hS dX2_run_28
  · have hF := o_f c2 hF
    refine lv_iload_n hx hb dX2_run_7 rfl (lv_at hl 2 rfl) ?_
    refine lv_iconst (v := 0) hx hb dX2_run_8 (by decide) ?_
    refine lv_iconst (v := 4) hx hb dX2_run_9 (by decide) ?_
    obtain ⟨r3, z3, hG3, hF⟩ := o_b hF
    refine cl_S (rest := []) X hK hN hA hP hD hS (kX2_in l G cy cyO a z1 x2 0 4 r3 z3 hG3) (va_cwS 3 hts gX2_run_X2_in rfl rfl rfl (by decide +kernel) ⟨Nat.le_of_ble_eq_true rfl, Nat.le_of_ble_eq_true rfl⟩) rfl hl.1 rfl (Nat.le_of_ble_eq_true rfl) dX2_run_10 ⟨Nat.zero_le _, Nat.zero_le _⟩ (fun H locs hP hD hS => ?_)
    refine W.eq (g2 := F0 m 13 ls [.int r3]) rfl ?_
    refine lv_if_eq (tgt := 27) hx hb dX2_run_13 (by decide) (fun c4 => ?_) (fun c4 => ?_)
    · have hF := o_t c4 hF
      refine lv_iconst (v := (-1)) hx hb dX2_run_27 (by decide) ?_
      obtain ⟨rfl, rfl⟩ := o_s hF
      exact rt_i X hr hlocks hP hD hS dX2_run_28
    · have hF := o_f c4 hF
      refine lv_iload_n hx hb dX2_run_16 rfl (lv_at hl 3 rfl) ?_
      refine lv_iconst (v := 0) hx hb dX2_run_17 (by decide) ?_
      refine lv_sipush (v := 1000) hx hb dX2_run_18 (by decide) ?_
      obtain ⟨r5, z5, hG5, hF⟩ := o_b hF
      refine cl_S (rest := []) X hK hN hA hP hD hS (kX2_in l G cy cyO a z3 x3 0 1000 r5 z5 hG5) (va_cwS 3 hts gX2_run_X2_in rfl rfl rfl (by decide +kernel) ⟨Nat.le_of_ble_eq_true rfl, Nat.le_of_ble_eq_true rfl⟩) rfl hl.1 rfl (Nat.le_of_ble_eq_true rfl) dX2_run_21 ⟨Nat.zero_le _, Nat.zero_le _⟩ (fun H locs hP hD hS => ?_)
      refine W.eq (g2 := F0 m 24 ls [.int r5]) rfl ?_
      refine lv_if_ne (tgt := 29) hx hb dX2_run_24 (by decide) (fun c6 => ?_) (fun c6 => ?_)
      · have hF := o_f c6 hF
        refine lv_aload_n hx hb dX2_run_29 rfl (lv_at hl 0 rfl) ?_
        refine lv_dup hx hb dX2_run_30 rfl ?_
        refine va_get (D := G) (ci := 2) (v := .int z5.2.2.2.2.2.2.2.1) (C := RX2) (T := TX2) (N := 18) hx hb hts hin2 hown hK hP 0 rfl rfl 15 (by decide) (hts (.fieldLink RX2 100 "SignalBoxModel" "runs" "I") (by decide +kernel)) (fun _ h9 => h9) rfl dX2_run_31 ?_
        refine lv_iconst (v := 1) hx hb dX2_run_34 (by decide) ?_
        refine lv_iadd hx hb dX2_run_35 ?_
        refine va_put (D := G) (ci := 2) (v := .int (z5.2.2.2.2.2.2.2.1 + 1)) (ty := .int) (C := RX2) (T := TX2) (N := 18) hx hb hts hin2 tyX2 tyX2_ok nmX2 hown hK hP hD hS 0 rfl rfl 15 (by decide) (hts (.fieldLink RX2 100 "SignalBoxModel" "runs" "I") (by decide +kernel)) (fun _ h9 => h9) rfl (by decide +kernel) rfl rfl (Nat.le_of_ble_eq_true rfl) dX2_run_36 (fun H locs hP hD hS => ?_)
        obtain ⟨z7, e7, hF⟩ := o_l hF
        have hP : va_P G vwCl (mW a cy z7) H := by rw [e7]; exact hP
        have hD : va_D A (mW a cy z7) := by rw [e7]; exact hD
        refine lv_aload_n hx hb dX2_run_39 rfl (lv_at hl 0 rfl) ?_
        refine lv_iconst (v := 0) hx hb dX2_run_40 (by decide) ?_
        refine va_put (D := G) (ci := 2) (v := .int 0) (ty := .int) (C := RX2) (T := TX2) (N := 18) hx hb hts hin2 tyX2 tyX2_ok nmX2 hown hK hP hD hS 0 rfl rfl 13 (by decide) (hts (.fieldLink RX2 62 "SignalBoxModel" "traced" "I") (by decide +kernel)) (fun _ h9 => h9) rfl (by decide +kernel) rfl rfl (Nat.le_of_ble_eq_true rfl) dX2_run_41 (fun H locs hP hD hS => ?_)
        obtain ⟨z8, e8, hF⟩ := o_l hF
        have hP : va_P G vwCl (mW a cy z8) H := by rw [e8]; exact hP
        have hD : va_D A (mW a cy z8) := by rw [e8]; exact hD
        refine lv_aload_n hx hb dX2_run_44 rfl (lv_at hl 0 rfl) ?_
        refine lv_iconst (v := 0) hx hb dX2_run_45 (by decide) ?_
        refine va_put (D := G) (ci := 2) (v := .int 0) (ty := .int) (C := RX2) (T := TX2) (N := 18) hx hb hts hin2 tyX2 tyX2_ok nmX2 hown hK hP hD hS 0 rfl rfl 14 (by decide) (hts (.fieldLink RX2 85 "SignalBoxModel" "passed" "I") (by decide +kernel)) (fun _ h9 => h9) rfl (by decide +kernel) rfl rfl (Nat.le_of_ble_eq_true rfl) dX2_run_46 (fun H locs hP hD hS => ?_)
        obtain ⟨z9, e9, hF⟩ := o_l hF
        have hP : va_P G vwCl (mW a cy z9) H := by rw [e9]; exact hP
        have hD : va_D A (mW a cy z9) := by rw [e9]; exact hD
        refine lv_iload_n hx hb dX2_run_49 rfl (lv_at hl 2 rfl) ?_
        refine lv_if_ne (tgt := 62) hx hb dX2_run_50 (by decide) (fun c10 => ?_) (fun c10 => ?_)
        · have hF := o_f c10 hF
          refine lv_iload_n hx hb dX2_run_62 rfl (lv_at hl 2 rfl) ?_
          refine lv_iconst (v := 1) hx hb dX2_run_63 (by decide) ?_
          refine lv_icmp_ne (tgt := 76) hx hb dX2_run_64 (by decide) (fun c11 => ?_) (fun c11 => ?_)
          · have hF := o_f c11 hF
            refine lv_iload_n hx hb dX2_run_76 rfl (lv_at hl 2 rfl) ?_
            refine lv_iconst (v := 2) hx hb dX2_run_77 (by decide) ?_
            refine lv_icmp_ne (tgt := 90) hx hb dX2_run_78 (by decide) (fun c12 => ?_) (fun c12 => ?_)
            · have hF := o_f c12 hF
              refine lv_iload_n hx hb dX2_run_90 rfl (lv_at hl 2 rfl) ?_
              refine lv_iconst (v := 3) hx hb dX2_run_91 (by decide) ?_
              refine lv_icmp_ne (tgt := 104) hx hb dX2_run_92 (by decide) (fun c13 => ?_) (fun c13 => ?_)
              · have hF := o_f c13 hF
                refine lv_aload_n hx hb dX2_run_104 rfl (lv_at hl 0 rfl) ?_
                refine lv_iload_n hx hb dX2_run_105 rfl (lv_at hl 1 rfl) ?_
                refine lv_iload_n hx hb dX2_run_106 rfl (lv_at hl 3 rfl) ?_
                obtain ⟨r14, z14, hG14, hF⟩ := o_b hF
                refine cl_V (C := RX2) (rest := []) X hK hN hA hP hD hS (kX2_round l G cy cyO a z9 x1 x3 r14 z14 hG14) (cwV 2 hts gX2_run_X2_round rfl rfl rfl (by decide +kernel) ⟨Nat.le_of_ble_eq_true rfl, Nat.le_of_ble_eq_true rfl⟩) (va_recv hK hP (ci := 2) (q0 := 0) rfl rfl) rfl hl.1 rfl (Nat.le_of_ble_eq_true rfl) dX2_run_107 ⟨Nat.zero_le _, Nat.zero_le _⟩ (fun H locs hP hD hS => ?_)
                refine W.eq (g2 := F0 m 110 ls [.int r14]) rfl ?_
                exact jX2_run_110 X hr hlocks hK hN hA z14 r14 hF H locs hP hD hS ls (lv_sub hl [0] rfl)
              · have hF := o_t c13 hF
                refine lv_aload_n hx hb dX2_run_95 rfl (lv_at hl 0 rfl) ?_
                refine lv_iload_n hx hb dX2_run_96 rfl (lv_at hl 1 rfl) ?_
                refine lv_iload_n hx hb dX2_run_97 rfl (lv_at hl 3 rfl) ?_
                obtain ⟨r15, z15, hG15, hF⟩ := o_b hF
                refine cl_V (C := RX2) (rest := []) X hK hN hA hP hD hS (kX2_first l G cy cyO a z9 x1 x3 r15 z15 hG15) (cwV 2 hts gX2_run_X2_first rfl rfl rfl (by decide +kernel) ⟨Nat.le_of_ble_eq_true rfl, Nat.le_of_ble_eq_true rfl⟩) (va_recv hK hP (ci := 2) (q0 := 0) rfl rfl) rfl hl.1 rfl (Nat.le_of_ble_eq_true rfl) dX2_run_98 ⟨Nat.zero_le _, Nat.zero_le _⟩ (fun H locs hP hD hS => ?_)
                refine W.eq (g2 := F0 m 101 ls [.int r15]) rfl ?_
                refine lv_goto (tgt := 110) hx hb dX2_run_101 (by decide) ?_
                exact jX2_run_110 X hr hlocks hK hN hA z15 r15 hF H locs hP hD hS ls (lv_sub hl [0] rfl)
            · have hF := o_t c12 hF
              refine lv_aload_n hx hb dX2_run_81 rfl (lv_at hl 0 rfl) ?_
              refine lv_iload_n hx hb dX2_run_82 rfl (lv_at hl 1 rfl) ?_
              refine lv_iload_n hx hb dX2_run_83 rfl (lv_at hl 3 rfl) ?_
              obtain ⟨r16, z16, hG16, hF⟩ := o_b hF
              refine cl_V (C := RX2) (rest := []) X hK hN hA hP hD hS (kX2_all l G cy cyO a z9 x1 x3 r16 z16 hG16) (cwV 2 hts gX2_run_X2_all rfl rfl rfl (by decide +kernel) ⟨Nat.le_of_ble_eq_true rfl, Nat.le_of_ble_eq_true rfl⟩) (va_recv hK hP (ci := 2) (q0 := 0) rfl rfl) rfl hl.1 rfl (Nat.le_of_ble_eq_true rfl) dX2_run_84 ⟨Nat.zero_le _, Nat.zero_le _⟩ (fun H locs hP hD hS => ?_)
              refine W.eq (g2 := F0 m 87 ls [.int r16]) rfl ?_
              refine lv_goto (tgt := 110) hx hb dX2_run_87 (by decide) ?_
              exact jX2_run_110 X hr hlocks hK hN hA z16 r16 hF H locs hP hD hS ls (lv_sub hl [0] rfl)
          · have hF := o_t c11 hF
            refine lv_aload_n hx hb dX2_run_67 rfl (lv_at hl 0 rfl) ?_
            refine lv_iload_n hx hb dX2_run_68 rfl (lv_at hl 1 rfl) ?_
            refine lv_iload_n hx hb dX2_run_69 rfl (lv_at hl 3 rfl) ?_
            obtain ⟨r17, z17, hG17, hF⟩ := o_b hF
            refine cl_V (C := RX2) (rest := []) X hK hN hA hP hD hS (kX2_twoByTwo l G cy cyO a z9 x1 x3 r17 z17 hG17) (cwV 2 hts gX2_run_X2_twoByTwo rfl rfl rfl (by decide +kernel) ⟨Nat.le_of_ble_eq_true rfl, Nat.le_of_ble_eq_true rfl⟩) (va_recv hK hP (ci := 2) (q0 := 0) rfl rfl) rfl hl.1 rfl (Nat.le_of_ble_eq_true rfl) dX2_run_70 ⟨Nat.zero_le _, Nat.zero_le _⟩ (fun H locs hP hD hS => ?_)
            refine W.eq (g2 := F0 m 73 ls [.int r17]) rfl ?_
            refine lv_goto (tgt := 110) hx hb dX2_run_73 (by decide) ?_
            exact jX2_run_110 X hr hlocks hK hN hA z17 r17 hF H locs hP hD hS ls (lv_sub hl [0] rfl)
        · have hF := o_t c10 hF
          refine lv_aload_n hx hb dX2_run_53 rfl (lv_at hl 0 rfl) ?_
          refine lv_iload_n hx hb dX2_run_54 rfl (lv_at hl 1 rfl) ?_
          refine lv_iload_n hx hb dX2_run_55 rfl (lv_at hl 3 rfl) ?_
          obtain ⟨r18, z18, hG18, hF⟩ := o_b hF
          refine cl_V (C := RX2) (rest := []) X hK hN hA hP hD hS (kX2_alone l G cy cyO a z9 x1 x3 r18 z18 hG18) (cwV 2 hts gX2_run_X2_alone rfl rfl rfl (by decide +kernel) ⟨Nat.le_of_ble_eq_true rfl, Nat.le_of_ble_eq_true rfl⟩) (va_recv hK hP (ci := 2) (q0 := 0) rfl rfl) rfl hl.1 rfl (Nat.le_of_ble_eq_true rfl) dX2_run_56 ⟨Nat.zero_le _, Nat.zero_le _⟩ (fun H locs hP hD hS => ?_)
          refine W.eq (g2 := F0 m 59 ls [.int r18]) rfl ?_
          refine lv_goto (tgt := 110) hx hb dX2_run_59 (by decide) ?_
          exact jX2_run_110 X hr hlocks hK hN hA z18 r18 hF H locs hP hD hS ls (lv_sub hl [0] rfl)
      · have hF := o_t c6 hF
        refine lv_iconst (v := (-1)) hx hb dX2_run_27 (by decide) ?_
        obtain ⟨rfl, rfl⟩ := o_s hF
        exact rt_i X hr hlocks hP hD hS dX2_run_28
def fX2_shunt_j165 (z0 : SM) (y4 : Int32) (y5 : Int32) (y6 : Int32) (t0 : Int32) (t1 : Int32) (t2 : Int32) : Option (Int32 × SM) := if t2 < 0 ∨ 640 ≤ t2.toNatClampNeg then none else let_ ((setA z0.1 4 (upd (z0.1 4) t2.toNatClampNeg (t1 + t0)), z0.2) : SM) (fun z2 => bd_ (fX2_let z2 y5) (fun r3 z3 => bd_ (fX2_let z3 y4) (fun r4 z4 => some (y6, z4))))
set_option maxRecDepth 100000 in
set_option maxHeartbeats 4000000 in
theorem jX2_shunt_165 {p : Program} {l : Launch} {e : Env} {s : State} {m : MethodId} {args : Array Value} {below : List Frame} {meth : Method} {c : Code} {G : va_G} {cy cyO : ClassId} {a : Nat → Nat} {A : Nat → Prop} {r : Int32} {u : SM} (X : CallFix p m c cX2_shunt 7 s args wsX2_shunt RX2) (hr : meth.sig.returnType = (some .int)) (hlocks : meth.locks = false) (hK : va_K G vwCl (tys_ cy cyO) s) (hN : nw s) (hA : ∀ q, s.heap.size ≤ q → A q) : ∀ (z0 : SM) (y4 : Int32) (y5 : Int32) (y6 : Int32) (t0 : Int32) (t1 : Int32) (t2 : Int32), fX2_shunt_j165 z0 y4 y5 y6 t0 t1 t2 = some (r, u) → ∀ (H : Heap) (locs : List Loc), va_P G vwCl (mW a cy z0) H → va_D A (mW a cy z0) → va_S A s.heap H locs → ∀ (ls : Array Slot), lv_has ls 7 [(0, .ref (a 0)), (4, .int y4), (5, .int y5), (6, .int y6)] → W p l e ({ frames := 2, cells := 0, slots := 0, locals := 42 } : Room) s m args below meth c H locs 0 0 (MQ below (qg (some (.int r)) (fun t => wPost G A (mW a cy u) t) A) args s 0 0 A) (F0 m 165 ls [.int t0, .int t1, .int t2, .ref (a 4)]) := by
  obtain ⟨hx, hb, hml, hown, hts⟩ := id X
  have hin2 : ∀ w ∈ wsX20, w ∈ wsX2_shunt := by decide +kernel
  intro z0 y4 y5 y6 t0 t1 t2 hF H locs hP hD hS ls hl
  unfold fX2_shunt_j165 at hF
  refine lv_iadd hx hb dX2_shunt_165 ?_
  obtain ⟨h1, hF⟩ := o_n hF
  refine va_iast (n := 640) (f := (z0.1 4)) (cA := cy) hx hb hK hP hD hS 4 0 rfl rfl h1 dX2_shunt_166 (fun H locs hP hD hS => ?_)
  obtain ⟨z2, e2, hF⟩ := o_l hF
  have hP : va_P G vwCl (mW a cy z2) H := by rw [e2]; exact hP
  have hD : va_D A (mW a cy z2) := by rw [e2]; exact hD
  refine lv_aload_n hx hb dX2_shunt_167 rfl (lv_at hl 0 rfl) ?_
  refine lv_iload hx hb dX2_shunt_168 (lv_at hl 2 rfl) ?_
  obtain ⟨r3, z3, hG3, hF⟩ := o_b hF
  refine cl_V (C := RX2) (rest := []) X hK hN hA hP hD hS (kX2_let l G cy cyO a z2 y5 r3 z3 hG3) (cwV 1 hts gX2_shunt_X2_let rfl rfl rfl (by decide +kernel) ⟨Nat.le_of_ble_eq_true rfl, Nat.le_of_ble_eq_true rfl⟩) (va_recv hK hP (ci := 2) (q0 := 0) rfl rfl) rfl hl.1 rfl (Nat.le_of_ble_eq_true rfl) dX2_shunt_170 ⟨Nat.zero_le _, Nat.zero_le _⟩ (fun H locs hP hD hS => ?_)
  refine W.eq (g2 := F0 m 173 ls []) rfl ?_
  refine lv_aload_n hx hb dX2_shunt_173 rfl (lv_at hl 0 rfl) ?_
  refine lv_iload hx hb dX2_shunt_174 (lv_at hl 1 rfl) ?_
  obtain ⟨r4, z4, hG4, hF⟩ := o_b hF
  refine cl_V (C := RX2) (rest := []) X hK hN hA hP hD hS (kX2_let l G cy cyO a z3 y4 r4 z4 hG4) (cwV 1 hts gX2_shunt_X2_let rfl rfl rfl (by decide +kernel) ⟨Nat.le_of_ble_eq_true rfl, Nat.le_of_ble_eq_true rfl⟩) (va_recv hK hP (ci := 2) (q0 := 0) rfl rfl) rfl hl.1 rfl (Nat.le_of_ble_eq_true rfl) dX2_shunt_176 ⟨Nat.zero_le _, Nat.zero_le _⟩ (fun H locs hP hD hS => ?_)
  refine W.eq (g2 := F0 m 179 ls []) rfl ?_
  refine lv_iload hx hb dX2_shunt_179 (lv_at hl 3 rfl) ?_
  obtain ⟨rfl, rfl⟩ := o_s hF
  exact rt_i X hr hlocks hP hD hS dX2_shunt_181
def fX2_shunt_j144 (z0 : SM) (y3 : Int32) (y4 : Int32) (y5 : Int32) (y6 : Int32) (t0 : Int32) (t1 : Int32) (t2 : Int32) : Option (Int32 × SM) := if t2 < 0 ∨ 640 ≤ t2.toNatClampNeg then none else let_ ((setA z0.1 4 (upd (z0.1 4) t2.toNatClampNeg (t1 - t0)), z0.2) : SM) (fun z2 => if y5 < 0 ∨ 640 ≤ y5.toNatClampNeg then none else let_ ((z2.1 4) y5.toNatClampNeg) (fun v3 => (if y6 = 1 then (fX2_shunt_j165 z2 y4 y5 y6 y3 v3 y5) else (fX2_shunt_j165 z2 y4 y5 y6 0 v3 y5))))
set_option maxRecDepth 100000 in
set_option maxHeartbeats 4000000 in
theorem jX2_shunt_144 {p : Program} {l : Launch} {e : Env} {s : State} {m : MethodId} {args : Array Value} {below : List Frame} {meth : Method} {c : Code} {G : va_G} {cy cyO : ClassId} {a : Nat → Nat} {A : Nat → Prop} {r : Int32} {u : SM} (X : CallFix p m c cX2_shunt 7 s args wsX2_shunt RX2) (hr : meth.sig.returnType = (some .int)) (hlocks : meth.locks = false) (hK : va_K G vwCl (tys_ cy cyO) s) (hN : nw s) (hA : ∀ q, s.heap.size ≤ q → A q) : ∀ (z0 : SM) (y3 : Int32) (y4 : Int32) (y5 : Int32) (y6 : Int32) (t0 : Int32) (t1 : Int32) (t2 : Int32), fX2_shunt_j144 z0 y3 y4 y5 y6 t0 t1 t2 = some (r, u) → ∀ (H : Heap) (locs : List Loc), va_P G vwCl (mW a cy z0) H → va_D A (mW a cy z0) → va_S A s.heap H locs → ∀ (ls : Array Slot), lv_has ls 7 [(0, .ref (a 0)), (3, .int y3), (4, .int y4), (5, .int y5), (6, .int y6)] → W p l e ({ frames := 2, cells := 0, slots := 0, locals := 42 } : Room) s m args below meth c H locs 0 0 (MQ below (qg (some (.int r)) (fun t => wPost G A (mW a cy u) t) A) args s 0 0 A) (F0 m 144 ls [.int t0, .int t1, .int t2, .ref (a 4)]) := by
  obtain ⟨hx, hb, hml, hown, hts⟩ := id X
  have hin2 : ∀ w ∈ wsX20, w ∈ wsX2_shunt := by decide +kernel
  intro z0 y3 y4 y5 y6 t0 t1 t2 hF H locs hP hD hS ls hl
  unfold fX2_shunt_j144 at hF
  refine lv_isub hx hb dX2_shunt_144 ?_
  obtain ⟨h1, hF⟩ := o_n hF
  refine va_iast (n := 640) (f := (z0.1 4)) (cA := cy) hx hb hK hP hD hS 4 0 rfl rfl h1 dX2_shunt_145 (fun H locs hP hD hS => ?_)
  obtain ⟨z2, e2, hF⟩ := o_l hF
  have hP : va_P G vwCl (mW a cy z2) H := by rw [e2]; exact hP
  have hD : va_D A (mW a cy z2) := by rw [e2]; exact hD
  refine lv_aload_n hx hb dX2_shunt_146 rfl (lv_at hl 0 rfl) ?_
  refine va_get (D := G) (ci := 2) (v := .ref (a 4)) (C := RX2) (T := TX2) (N := 18) hx hb hts hin2 hown hK hP 0 rfl rfl 4 (by decide) (hts (.fieldLink RX2 19 "SignalBoxModel" "axles" "[I") (by decide +kernel)) (fun _ h9 => h9) rfl dX2_shunt_147 ?_
  refine lv_iload hx hb dX2_shunt_150 (lv_at hl 3 rfl) ?_
  refine lv_dup2_11 hx hb dX2_shunt_152 rfl rfl ?_
  obtain ⟨h3, hF⟩ := o_n hF
  refine va_iald (n := 640) (f := (z2.1 4)) (cA := cy) hx hb hK hP 4 0 rfl rfl h3 dX2_shunt_153 ?_
  obtain ⟨v3, e3, hF⟩ := o_l hF
  refine w_top e3 ?_
  refine lv_iload hx hb dX2_shunt_154 (lv_at hl 4 rfl) ?_
  refine lv_iconst (v := 1) hx hb dX2_shunt_156 (by decide) ?_
  refine lv_icmp_ne (tgt := 164) hx hb dX2_shunt_157 (by decide) (fun c4 => ?_) (fun c4 => ?_)
  · have hF := o_f c4 hF
    refine lv_iconst (v := 0) hx hb dX2_shunt_164 (by decide) ?_
    exact jX2_shunt_165 X hr hlocks hK hN hA z2 y4 y5 y6 0 v3 y5 hF H locs hP hD hS ls (lv_sub hl [0, 2, 3, 4] rfl)
  · have hF := o_t c4 hF
    refine lv_iload_n hx hb dX2_shunt_160 rfl (lv_at hl 1 rfl) ?_
    refine lv_goto (tgt := 165) hx hb dX2_shunt_161 (by decide) ?_
    exact jX2_shunt_165 X hr hlocks hK hN hA z2 y4 y5 y6 y3 v3 y5 hF H locs hP hD hS ls (lv_sub hl [0, 2, 3, 4] rfl)
def fX2_shunt_j123 (z0 : SM) (y3 : Int32) (y4 : Int32) (y5 : Int32) (t0 : Int32) : Option (Int32 × SM) := if y4 < 0 ∨ 640 ≤ y4.toNatClampNeg then none else let_ ((z0.1 4) y4.toNatClampNeg) (fun v1 => (if t0 = 1 then (fX2_shunt_j144 z0 y3 y4 y5 t0 y3 v1 y4) else (fX2_shunt_j144 z0 y3 y4 y5 t0 0 v1 y4)))
set_option maxRecDepth 100000 in
set_option maxHeartbeats 4000000 in
theorem jX2_shunt_123 {p : Program} {l : Launch} {e : Env} {s : State} {m : MethodId} {args : Array Value} {below : List Frame} {meth : Method} {c : Code} {G : va_G} {cy cyO : ClassId} {a : Nat → Nat} {A : Nat → Prop} {r : Int32} {u : SM} (X : CallFix p m c cX2_shunt 7 s args wsX2_shunt RX2) (hr : meth.sig.returnType = (some .int)) (hlocks : meth.locks = false) (hK : va_K G vwCl (tys_ cy cyO) s) (hN : nw s) (hA : ∀ q, s.heap.size ≤ q → A q) : ∀ (z0 : SM) (y3 : Int32) (y4 : Int32) (y5 : Int32) (t0 : Int32), fX2_shunt_j123 z0 y3 y4 y5 t0 = some (r, u) → ∀ (H : Heap) (locs : List Loc), va_P G vwCl (mW a cy z0) H → va_D A (mW a cy z0) → va_S A s.heap H locs → ∀ (ls : Array Slot), lv_has ls 7 [(0, .ref (a 0)), (3, .int y3), (4, .int y4), (5, .int y5)] → W p l e ({ frames := 2, cells := 0, slots := 0, locals := 42 } : Room) s m args below meth c H locs 0 0 (MQ below (qg (some (.int r)) (fun t => wPost G A (mW a cy u) t) A) args s 0 0 A) (F0 m 123 ls [.int t0]) := by
  obtain ⟨hx, hb, hml, hown, hts⟩ := id X
  have hin2 : ∀ w ∈ wsX20, w ∈ wsX2_shunt := by decide +kernel
  intro z0 y3 y4 y5 t0 hF H locs hP hD hS ls hl
  unfold fX2_shunt_j123 at hF
  refine lv_istore (lv' := [(6, .int t0), (0, .ref (a 0)), (3, .int y3), (4, .int y4), (5, .int y5)]) hx hb dX2_shunt_123 hl (by decide) rfl (fun ls hl => ?_)
  refine lv_aload_n hx hb dX2_shunt_125 rfl (lv_at hl 1 rfl) ?_
  refine va_get (D := G) (ci := 2) (v := .ref (a 4)) (C := RX2) (T := TX2) (N := 18) hx hb hts hin2 hown hK hP 0 rfl rfl 4 (by decide) (hts (.fieldLink RX2 19 "SignalBoxModel" "axles" "[I") (by decide +kernel)) (fun _ h9 => h9) rfl dX2_shunt_126 ?_
  refine lv_iload hx hb dX2_shunt_129 (lv_at hl 3 rfl) ?_
  refine lv_dup2_11 hx hb dX2_shunt_131 rfl rfl ?_
  obtain ⟨h1, hF⟩ := o_n hF
  refine va_iald (n := 640) (f := (z0.1 4)) (cA := cy) hx hb hK hP 4 0 rfl rfl h1 dX2_shunt_132 ?_
  obtain ⟨v1, e1, hF⟩ := o_l hF
  refine w_top e1 ?_
  refine lv_iload hx hb dX2_shunt_133 (lv_at hl 0 rfl) ?_
  refine lv_iconst (v := 1) hx hb dX2_shunt_135 (by decide) ?_
  refine lv_icmp_ne (tgt := 143) hx hb dX2_shunt_136 (by decide) (fun c2 => ?_) (fun c2 => ?_)
  · have hF := o_f c2 hF
    refine lv_iconst (v := 0) hx hb dX2_shunt_143 (by decide) ?_
    exact jX2_shunt_144 X hr hlocks hK hN hA z0 y3 y4 y5 t0 0 v1 y4 hF H locs hP hD hS ls (lv_sub hl [1, 2, 3, 4, 0] rfl)
  · have hF := o_t c2 hF
    refine lv_iload_n hx hb dX2_shunt_139 rfl (lv_at hl 2 rfl) ?_
    refine lv_goto (tgt := 144) hx hb dX2_shunt_140 (by decide) ?_
    exact jX2_shunt_144 X hr hlocks hK hN hA z0 y3 y4 y5 t0 y3 v1 y4 hF H locs hP hD hS ls (lv_sub hl [1, 2, 3, 4, 0] rfl)
def fX2_shunt_j122 (z0 : SM) (y3 : Int32) (y4 : Int32) (y5 : Int32) : Option (Int32 × SM) := (fX2_shunt_j123 z0 y3 y4 y5 0)
set_option maxRecDepth 100000 in
set_option maxHeartbeats 4000000 in
theorem jX2_shunt_122 {p : Program} {l : Launch} {e : Env} {s : State} {m : MethodId} {args : Array Value} {below : List Frame} {meth : Method} {c : Code} {G : va_G} {cy cyO : ClassId} {a : Nat → Nat} {A : Nat → Prop} {r : Int32} {u : SM} (X : CallFix p m c cX2_shunt 7 s args wsX2_shunt RX2) (hr : meth.sig.returnType = (some .int)) (hlocks : meth.locks = false) (hK : va_K G vwCl (tys_ cy cyO) s) (hN : nw s) (hA : ∀ q, s.heap.size ≤ q → A q) : ∀ (z0 : SM) (y3 : Int32) (y4 : Int32) (y5 : Int32), fX2_shunt_j122 z0 y3 y4 y5 = some (r, u) → ∀ (H : Heap) (locs : List Loc), va_P G vwCl (mW a cy z0) H → va_D A (mW a cy z0) → va_S A s.heap H locs → ∀ (ls : Array Slot), lv_has ls 7 [(0, .ref (a 0)), (3, .int y3), (4, .int y4), (5, .int y5)] → W p l e ({ frames := 2, cells := 0, slots := 0, locals := 42 } : Room) s m args below meth c H locs 0 0 (MQ below (qg (some (.int r)) (fun t => wPost G A (mW a cy u) t) A) args s 0 0 A) (F0 m 122 ls []) := by
  obtain ⟨hx, hb, hml, hown, hts⟩ := id X
  have hin2 : ∀ w ∈ wsX20, w ∈ wsX2_shunt := by decide +kernel
  intro z0 y3 y4 y5 hF H locs hP hD hS ls hl
  unfold fX2_shunt_j122 at hF
  refine lv_iconst (v := 0) hx hb dX2_shunt_122 (by decide) ?_
  exact jX2_shunt_123 X hr hlocks hK hN hA z0 y3 y4 y5 0 hF H locs hP hD hS ls (lv_sub hl [0, 1, 2, 3] rfl)
def fX2_shunt_j118 (z0 : SM) (y3 : Int32) (y4 : Int32) (y5 : Int32) : Option (Int32 × SM) := (fX2_shunt_j123 z0 y3 y4 y5 1)
set_option maxRecDepth 100000 in
set_option maxHeartbeats 4000000 in
theorem jX2_shunt_118 {p : Program} {l : Launch} {e : Env} {s : State} {m : MethodId} {args : Array Value} {below : List Frame} {meth : Method} {c : Code} {G : va_G} {cy cyO : ClassId} {a : Nat → Nat} {A : Nat → Prop} {r : Int32} {u : SM} (X : CallFix p m c cX2_shunt 7 s args wsX2_shunt RX2) (hr : meth.sig.returnType = (some .int)) (hlocks : meth.locks = false) (hK : va_K G vwCl (tys_ cy cyO) s) (hN : nw s) (hA : ∀ q, s.heap.size ≤ q → A q) : ∀ (z0 : SM) (y3 : Int32) (y4 : Int32) (y5 : Int32), fX2_shunt_j118 z0 y3 y4 y5 = some (r, u) → ∀ (H : Heap) (locs : List Loc), va_P G vwCl (mW a cy z0) H → va_D A (mW a cy z0) → va_S A s.heap H locs → ∀ (ls : Array Slot), lv_has ls 7 [(0, .ref (a 0)), (3, .int y3), (4, .int y4), (5, .int y5)] → W p l e ({ frames := 2, cells := 0, slots := 0, locals := 42 } : Room) s m args below meth c H locs 0 0 (MQ below (qg (some (.int r)) (fun t => wPost G A (mW a cy u) t) A) args s 0 0 A) (F0 m 118 ls []) := by
  obtain ⟨hx, hb, hml, hown, hts⟩ := id X
  have hin2 : ∀ w ∈ wsX20, w ∈ wsX2_shunt := by decide +kernel
  intro z0 y3 y4 y5 hF H locs hP hD hS ls hl
  unfold fX2_shunt_j118 at hF
  refine lv_iconst (v := 1) hx hb dX2_shunt_118 (by decide) ?_
  refine lv_goto (tgt := 123) hx hb dX2_shunt_119 (by decide) ?_
  exact jX2_shunt_123 X hr hlocks hK hN hA z0 y3 y4 y5 1 hF H locs hP hD hS ls (lv_sub hl [0, 1, 2, 3] rfl)
def fX2_shunt (z0 : SM) (x1 : Int32) (x2 : Int32) (x3 : Int32) : Option (Int32 × SM) := bd_ (fX2_isPlace z0 x1) (fun r1 z1 => (if r1 = 0 then some ((-1), z1) else bd_ (fX2_isPlace z1 x2) (fun r3 z3 => (if r3 = 0 then some ((-1), z3) else bd_ (fX2_in z3 x3 0 1000) (fun r5 z5 => (if r5 = 0 then some ((-1), z5) else let_ ((z5.1, z5.2.1, z5.2.2.1, z5.2.2.2.1, z5.2.2.2.2.1, 0, z5.2.2.2.2.2.2) : SM) (fun z7 => if x1 < 0 ∨ 12 ≤ x1.toNatClampNeg then none else let_ (z7.2.1 x1.toNatClampNeg) (fun v8 => if x2 < 0 ∨ 12 ≤ x2.toNatClampNeg then none else let_ (z7.2.1 x2.toNatClampNeg) (fun v9 => (if 0 ≤ v8 then bd_ (fX2_claim z7 v8) (fun r11 z11 => (if v9 < 0 then bd_ (fX2_let z11 v8) (fun r13 z13 => some ((-11), z13)) else bd_ (fX2_claim z11 v9) (fun r14 z14 => if v8 < 0 ∨ 640 ≤ v8.toNatClampNeg then none else let_ ((z14.1 4) v8.toNatClampNeg) (fun v15 => (if v15 < x3 then (fX2_shunt_j122 z14 x3 v8 v9) else (if v8 = v9 then (fX2_shunt_j118 z14 x3 v8 v9) else if v9 < 0 ∨ 640 ≤ v9.toNatClampNeg then none else let_ ((z14.1 4) v9.toNatClampNeg) (fun v18 => if v9 < 0 ∨ 640 ≤ v9.toNatClampNeg then none else let_ ((z14.1 2) v9.toNatClampNeg) (fun v19 => (if 0 < (lg_cmp (v18.toInt64 + x3.toInt64) v19.toInt64) then (fX2_shunt_j122 z14 x3 v8 v9) else (fX2_shunt_j118 z14 x3 v8 v9)))))))))) else some ((-11), z7)))))))))))
set_option maxRecDepth 100000 in
set_option maxHeartbeats 4000000 in
theorem kX2_shunt (l : Launch) (G : va_G) (cy cyO : ClassId) (a : Nat → Nat) (z0 : SM) (x1 : Int32) (x2 : Int32) (x3 : Int32) (r : Int32) (u : SM) (hF : fX2_shunt z0 x1 x2 x3 = some (r, u)) : Ct l G (tys_ cy cyO) yX2_shunt wsX2_shunt ({ frames := 2, cells := 0, slots := 0, locals := 42 } : Room) [.ref (a 0), .int x1, .int x2, .int x3] (mW a cy z0) (some (.int r)) (mW a cy u) := by
  unfold fX2_shunt at hF
  refine ct_of (cc := cX2_shunt) (maxL := 7) (ret := (some .int)) (own := RX2) (by decide) rfl (Nat.le_of_ble_eq_true rfl) rfl ?_
  intro p e s m below meth c A ls X hr hlocks _ hK hN hA hP hD hl
  have hS : va_S A s.heap s.heap [] := va_S.rf
  have hl : lv_has ls 7 [(0, .ref (a 0)), (1, .int x1), (2, .int x2), (3, .int x3)] := hl
  obtain ⟨hx, hb, hml, hown, hts⟩ := id X
  have hin2 : ∀ w ∈ wsX20, w ∈ wsX2_shunt := by decide +kernel
  refine lv_iload_n hx hb dX2_shunt_0 rfl (lv_at hl 1 rfl) ?_
  obtain ⟨r1, z1, hG1, hF⟩ := o_b hF
  refine cl_S (rest := []) X hK hN hA hP hD hS (kX2_isPlace l G cy cyO a z0 x1 r1 z1 hG1) (va_cwS 1 hts gX2_shunt_X2_isPlace rfl rfl rfl (by decide +kernel) ⟨Nat.le_of_ble_eq_true rfl, Nat.le_of_ble_eq_true rfl⟩) rfl hl.1 rfl (Nat.le_of_ble_eq_true rfl) dX2_shunt_1 ⟨Nat.zero_le _, Nat.zero_le _⟩ (fun H locs hP hD hS => ?_)
  refine W.eq (g2 := F0 m 4 ls [.int r1]) rfl ?_
  refine lv_if_eq (tgt := 25) hx hb dX2_shunt_4 (by decide) (fun c2 => ?_) (fun c2 => ?_)
  · have hF := o_t c2 hF
    refine lv_iconst (v := (-1)) hx hb dX2_shunt_25 (by decide) ?_
    obtain ⟨rfl, rfl⟩ := o_s hF
    exact rt_i X hr hlocks hP hD hS dX2_shunt_26
  · have hF := o_f c2 hF
    refine lv_iload_n hx hb dX2_shunt_7 rfl (lv_at hl 2 rfl) ?_
    obtain ⟨r3, z3, hG3, hF⟩ := o_b hF
    refine cl_S (rest := []) X hK hN hA hP hD hS (kX2_isPlace l G cy cyO a z1 x2 r3 z3 hG3) (va_cwS 1 hts gX2_shunt_X2_isPlace rfl rfl rfl (by decide +kernel) ⟨Nat.le_of_ble_eq_true rfl, Nat.le_of_ble_eq_true rfl⟩) rfl hl.1 rfl (Nat.le_of_ble_eq_true rfl) dX2_shunt_8 ⟨Nat.zero_le _, Nat.zero_le _⟩ (fun H locs hP hD hS => ?_)
    refine W.eq (g2 := F0 m 11 ls [.int r3]) rfl ?_
    refine lv_if_eq (tgt := 25) hx hb dX2_shunt_11 (by decide) (fun c4 => ?_) (fun c4 => ?_)
    · have hF := o_t c4 hF
      refine lv_iconst (v := (-1)) hx hb dX2_shunt_25 (by decide) ?_
      obtain ⟨rfl, rfl⟩ := o_s hF
      exact rt_i X hr hlocks hP hD hS dX2_shunt_26
    · have hF := o_f c4 hF
      refine lv_iload_n hx hb dX2_shunt_14 rfl (lv_at hl 3 rfl) ?_
      refine lv_iconst (v := 0) hx hb dX2_shunt_15 (by decide) ?_
      refine lv_sipush (v := 1000) hx hb dX2_shunt_16 (by decide) ?_
      obtain ⟨r5, z5, hG5, hF⟩ := o_b hF
      refine cl_S (rest := []) X hK hN hA hP hD hS (kX2_in l G cy cyO a z3 x3 0 1000 r5 z5 hG5) (va_cwS 3 hts gX2_shunt_X2_in rfl rfl rfl (by decide +kernel) ⟨Nat.le_of_ble_eq_true rfl, Nat.le_of_ble_eq_true rfl⟩) rfl hl.1 rfl (Nat.le_of_ble_eq_true rfl) dX2_shunt_19 ⟨Nat.zero_le _, Nat.zero_le _⟩ (fun H locs hP hD hS => ?_)
      refine W.eq (g2 := F0 m 22 ls [.int r5]) rfl ?_
      refine lv_if_ne (tgt := 27) hx hb dX2_shunt_22 (by decide) (fun c6 => ?_) (fun c6 => ?_)
      · have hF := o_f c6 hF
        refine lv_aload_n hx hb dX2_shunt_27 rfl (lv_at hl 0 rfl) ?_
        refine lv_iconst (v := 0) hx hb dX2_shunt_28 (by decide) ?_
        refine va_put (D := G) (ci := 2) (v := .int 0) (ty := .int) (C := RX2) (T := TX2) (N := 18) hx hb hts hin2 tyX2 tyX2_ok nmX2 hown hK hP hD hS 0 rfl rfl 13 (by decide) (hts (.fieldLink RX2 62 "SignalBoxModel" "traced" "I") (by decide +kernel)) (fun _ h9 => h9) rfl (by decide +kernel) rfl rfl (Nat.le_of_ble_eq_true rfl) dX2_shunt_29 (fun H locs hP hD hS => ?_)
        obtain ⟨z7, e7, hF⟩ := o_l hF
        have hP : va_P G vwCl (mW a cy z7) H := by rw [e7]; exact hP
        have hD : va_D A (mW a cy z7) := by rw [e7]; exact hD
        refine lv_aload_n hx hb dX2_shunt_32 rfl (lv_at hl 0 rfl) ?_
        refine va_get (D := G) (ci := 2) (v := .ref (a 9)) (C := RX2) (T := TX2) (N := 18) hx hb hts hin2 hown hK hP 0 rfl rfl 9 (by decide) (hts (.fieldLink RX2 34 "SignalBoxModel" "at" "[I") (by decide +kernel)) (fun _ h9 => h9) rfl dX2_shunt_33 ?_
        refine lv_iload_n hx hb dX2_shunt_36 rfl (lv_at hl 1 rfl) ?_
        obtain ⟨h8, hF⟩ := o_n hF
        refine va_iald (n := 12) (f := z7.2.1) (cA := cy) hx hb hK hP 9 0 rfl rfl h8 dX2_shunt_37 ?_
        obtain ⟨v8, e8, hF⟩ := o_l hF
        refine w_top e8 ?_
        refine lv_istore (lv' := [(4, .int v8), (0, .ref (a 0)), (1, .int x1), (2, .int x2), (3, .int x3)]) hx hb dX2_shunt_38 hl (by decide) rfl (fun ls hl => ?_)
        refine lv_aload_n hx hb dX2_shunt_40 rfl (lv_at hl 1 rfl) ?_
        refine va_get (D := G) (ci := 2) (v := .ref (a 9)) (C := RX2) (T := TX2) (N := 18) hx hb hts hin2 hown hK hP 0 rfl rfl 9 (by decide) (hts (.fieldLink RX2 34 "SignalBoxModel" "at" "[I") (by decide +kernel)) (fun _ h9 => h9) rfl dX2_shunt_41 ?_
        refine lv_iload_n hx hb dX2_shunt_44 rfl (lv_at hl 3 rfl) ?_
        obtain ⟨h9, hF⟩ := o_n hF
        refine va_iald (n := 12) (f := z7.2.1) (cA := cy) hx hb hK hP 9 0 rfl rfl h9 dX2_shunt_45 ?_
        obtain ⟨v9, e9, hF⟩ := o_l hF
        refine w_top e9 ?_
        refine lv_istore (lv' := [(5, .int v9), (4, .int v8), (0, .ref (a 0)), (1, .int x1), (2, .int x2), (3, .int x3)]) hx hb dX2_shunt_46 hl (by decide) rfl (fun ls hl => ?_)
        refine lv_iload hx hb dX2_shunt_48 (lv_at hl 1 rfl) ?_
        refine lv_if_ge (tgt := 56) hx hb dX2_shunt_50 (by decide) (fun c10 => ?_) (fun c10 => ?_)
        · have hF := o_t c10 hF
          refine lv_aload_n hx hb dX2_shunt_56 rfl (lv_at hl 2 rfl) ?_
          refine lv_iload hx hb dX2_shunt_57 (lv_at hl 1 rfl) ?_
          obtain ⟨r11, z11, hG11, hF⟩ := o_b hF
          refine cl_V (C := RX2) (rest := []) X hK hN hA hP hD hS (kX2_claim l G cy cyO a z7 v8 r11 z11 hG11) (cwV 1 hts gX2_shunt_X2_claim rfl rfl rfl (by decide +kernel) ⟨Nat.le_of_ble_eq_true rfl, Nat.le_of_ble_eq_true rfl⟩) (va_recv hK hP (ci := 2) (q0 := 0) rfl rfl) rfl hl.1 rfl (Nat.le_of_ble_eq_true rfl) dX2_shunt_59 ⟨Nat.zero_le _, Nat.zero_le _⟩ (fun H locs hP hD hS => ?_)
          refine W.eq (g2 := F0 m 62 ls []) rfl ?_
          refine lv_bipush (v := (-11)) hx hb dX2_shunt_62 (by decide) ?_
          refine lv_istore (lv' := [(6, .int (-11)), (5, .int v9), (4, .int v8), (0, .ref (a 0)), (1, .int x1), (2, .int x2), (3, .int x3)]) hx hb dX2_shunt_64 hl (by decide) rfl (fun ls hl => ?_)
          refine lv_iload hx hb dX2_shunt_66 (lv_at hl 1 rfl) ?_
          refine lv_if_lt (tgt := 173) hx hb dX2_shunt_68 (by decide) (fun c12 => ?_) (fun c12 => ?_)
          · have hF := o_t c12 hF
            refine lv_aload_n hx hb dX2_shunt_173 rfl (lv_at hl 3 rfl) ?_
            refine lv_iload hx hb dX2_shunt_174 (lv_at hl 2 rfl) ?_
            obtain ⟨r13, z13, hG13, hF⟩ := o_b hF
            refine cl_V (C := RX2) (rest := []) X hK hN hA hP hD hS (kX2_let l G cy cyO a z11 v8 r13 z13 hG13) (cwV 1 hts gX2_shunt_X2_let rfl rfl rfl (by decide +kernel) ⟨Nat.le_of_ble_eq_true rfl, Nat.le_of_ble_eq_true rfl⟩) (va_recv hK hP (ci := 2) (q0 := 0) rfl rfl) rfl hl.1 rfl (Nat.le_of_ble_eq_true rfl) dX2_shunt_176 ⟨Nat.zero_le _, Nat.zero_le _⟩ (fun H locs hP hD hS => ?_)
            refine W.eq (g2 := F0 m 179 ls []) rfl ?_
            refine lv_iload hx hb dX2_shunt_179 (lv_at hl 0 rfl) ?_
            obtain ⟨rfl, rfl⟩ := o_s hF
            exact rt_i X hr hlocks hP hD hS dX2_shunt_181
          · have hF := o_f c12 hF
            refine lv_aload_n hx hb dX2_shunt_71 rfl (lv_at hl 3 rfl) ?_
            refine lv_iload hx hb dX2_shunt_72 (lv_at hl 1 rfl) ?_
            obtain ⟨r14, z14, hG14, hF⟩ := o_b hF
            refine cl_V (C := RX2) (rest := []) X hK hN hA hP hD hS (kX2_claim l G cy cyO a z11 v9 r14 z14 hG14) (cwV 1 hts gX2_shunt_X2_claim rfl rfl rfl (by decide +kernel) ⟨Nat.le_of_ble_eq_true rfl, Nat.le_of_ble_eq_true rfl⟩) (va_recv hK hP (ci := 2) (q0 := 0) rfl rfl) rfl hl.1 rfl (Nat.le_of_ble_eq_true rfl) dX2_shunt_74 ⟨Nat.zero_le _, Nat.zero_le _⟩ (fun H locs hP hD hS => ?_)
            refine W.eq (g2 := F0 m 77 ls []) rfl ?_
            refine lv_aload_n hx hb dX2_shunt_77 rfl (lv_at hl 3 rfl) ?_
            refine va_get (D := G) (ci := 2) (v := .ref (a 4)) (C := RX2) (T := TX2) (N := 18) hx hb hts hin2 hown hK hP 0 rfl rfl 4 (by decide) (hts (.fieldLink RX2 19 "SignalBoxModel" "axles" "[I") (by decide +kernel)) (fun _ h9 => h9) rfl dX2_shunt_78 ?_
            refine lv_iload hx hb dX2_shunt_81 (lv_at hl 2 rfl) ?_
            obtain ⟨h15, hF⟩ := o_n hF
            refine va_iald (n := 640) (f := (z14.1 4)) (cA := cy) hx hb hK hP 4 0 rfl rfl h15 dX2_shunt_83 ?_
            obtain ⟨v15, e15, hF⟩ := o_l hF
            refine w_top e15 ?_
            refine lv_iload_n hx hb dX2_shunt_84 rfl (lv_at hl 6 rfl) ?_
            refine lv_icmp_lt (tgt := 122) hx hb dX2_shunt_85 (by decide) (fun c16 => ?_) (fun c16 => ?_)
            · have hF := o_t c16 hF
              exact jX2_shunt_122 X hr hlocks hK hN hA z14 x3 v8 v9 hF H locs hP hD hS ls (lv_sub hl [3, 6, 2, 1] rfl)
            · have hF := o_f c16 hF
              refine lv_iload hx hb dX2_shunt_88 (lv_at hl 2 rfl) ?_
              refine lv_iload hx hb dX2_shunt_90 (lv_at hl 1 rfl) ?_
              refine lv_icmp_eq (tgt := 118) hx hb dX2_shunt_92 (by decide) (fun c17 => ?_) (fun c17 => ?_)
              · have hF := o_t c17 hF
                exact jX2_shunt_118 X hr hlocks hK hN hA z14 x3 v8 v9 hF H locs hP hD hS ls (lv_sub hl [3, 6, 2, 1] rfl)
              · have hF := o_f c17 hF
                refine lv_aload_n hx hb dX2_shunt_95 rfl (lv_at hl 3 rfl) ?_
                refine va_get (D := G) (ci := 2) (v := .ref (a 4)) (C := RX2) (T := TX2) (N := 18) hx hb hts hin2 hown hK hP 0 rfl rfl 4 (by decide) (hts (.fieldLink RX2 19 "SignalBoxModel" "axles" "[I") (by decide +kernel)) (fun _ h9 => h9) rfl dX2_shunt_96 ?_
                refine lv_iload hx hb dX2_shunt_99 (lv_at hl 1 rfl) ?_
                obtain ⟨h18, hF⟩ := o_n hF
                refine va_iald (n := 640) (f := (z14.1 4)) (cA := cy) hx hb hK hP 4 0 rfl rfl h18 dX2_shunt_101 ?_
                obtain ⟨v18, e18, hF⟩ := o_l hF
                refine w_top e18 ?_
                refine lv_i2l hx hb dX2_shunt_102 rfl ?_
                refine lv_iload_n hx hb dX2_shunt_103 rfl (lv_at hl 6 rfl) ?_
                refine lv_i2l hx hb dX2_shunt_104 rfl ?_
                refine lv_ladd hx hb dX2_shunt_105 ?_
                refine lv_aload_n hx hb dX2_shunt_106 rfl (lv_at hl 3 rfl) ?_
                refine va_get (D := G) (ci := 2) (v := .ref (a 2)) (C := RX2) (T := TX2) (N := 18) hx hb hts hin2 hown hK hP 0 rfl rfl 2 (by decide) (hts (.fieldLink RX2 13 "SignalBoxModel" "limits" "[I") (by decide +kernel)) (fun _ h9 => h9) rfl dX2_shunt_107 ?_
                refine lv_iload hx hb dX2_shunt_110 (lv_at hl 1 rfl) ?_
                obtain ⟨h19, hF⟩ := o_n hF
                refine va_iald (n := 640) (f := (z14.1 2)) (cA := cy) hx hb hK hP 2 0 rfl rfl h19 dX2_shunt_112 ?_
                obtain ⟨v19, e19, hF⟩ := o_l hF
                refine w_top e19 ?_
                refine lv_i2l hx hb dX2_shunt_113 rfl ?_
                refine W.lcmp hx hb dX2_shunt_114 ?_
                refine lv_if_gt (tgt := 122) hx hb dX2_shunt_115 (by decide) (fun c20 => ?_) (fun c20 => ?_)
                · have hF := o_t c20 hF
                  exact jX2_shunt_122 X hr hlocks hK hN hA z14 x3 v8 v9 hF H locs hP hD hS ls (lv_sub hl [3, 6, 2, 1] rfl)
                · have hF := o_f c20 hF
                  exact jX2_shunt_118 X hr hlocks hK hN hA z14 x3 v8 v9 hF H locs hP hD hS ls (lv_sub hl [3, 6, 2, 1] rfl)
        · have hF := o_f c10 hF
          refine lv_bipush (v := (-11)) hx hb dX2_shunt_53 (by decide) ?_
          obtain ⟨rfl, rfl⟩ := o_s hF
          exact rt_i X hr hlocks hP hD hS dX2_shunt_55
      · have hF := o_t c6 hF
        refine lv_iconst (v := (-1)) hx hb dX2_shunt_25 (by decide) ?_
        obtain ⟨rfl, rfl⟩ := o_s hF
        exact rt_i X hr hlocks hP hD hS dX2_shunt_26
