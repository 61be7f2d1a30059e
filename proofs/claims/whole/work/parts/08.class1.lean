section SEC0
variable {p : Program} {l : Launch} {e : Env} {R : Room} {s : State} {m : MethodId} {args : Array Value} {below : List Frame} {meth : Method} {c : Code} {H : Heap} {locs : List Loc} {cells slots : Nat} {Q : State → Prop}
variable {cc : ByteArray} {nL pc index : Nat} {Ts : List Cond} {G : va_G} {cy cyO : ClassId} {A : Nat → Prop} {ls : Array Slot} {rest : List Value} {a : Nat → Nat} {σ : SC} {x : Nat}
/-- a section's field is read, out of Section itself -/
theorem cs_get0 (X : CallFix p m c cc nL s args Ts RX0) (hin : ∀ w ∈ wsX00, w ∈ Ts) (hK : va_K G vwCl (tys_ cy cyO) s) (hP : va_P G vwCl (cW a cy cyO σ) H) (hx : x ∈ σ.2.1) (k : Nat) (hk : k < 9) (hlink : (Cond.fieldLink RX0 index RX0 (TX0 k).2.1 (TX0 k).2.2.1).before args s = true) (hd : (TX0 k).1 = RX0) {v : Value} (hv : ([.int (σ.1 x 0), .int (σ.1 x 1), .int (σ.1 x 2), .int (σ.1 x 3), .int (σ.1 x 4), .int (σ.1 x 5), .int (σ.1 x 6), .int (σ.1 x 7), .int (σ.1 x 8)] : List Value)[k]? = some v) (hdg : decode cc pc = .ok (.getfield index, 3))
    (kk : W p l e R s m args below meth c H locs cells slots Q (F0 m (pc + 3) ls (v :: rest))) : W p l e R s m args below meth c H locs cells slots Q (F0 m pc ls (.ref x :: rest)) := by
  obtain ⟨q, hq⟩ := cW_at (a := a) (cy := cy) (cyO := cyO) hx
  exact va_get (ref := RX0) X.1 X.2.1 X.2.2.2.2 hin X.2.2.2.1 hK hP q hq (ci := 0) (C := RX0) (T := TX0) (N := 9) rfl k hk hlink (fun z h => by rw [hd] at h; exact h) hv hdg kk
end SEC0
def fX0_hasRoomFor (z0 : SC) (x0 : Nat) (x1 : Int32) : Option (Int32 × SC) := if x0 ∈ z0.2.1 then if x0 ∈ z0.2.1 then (if 0 < (lg_cmp ((z0.1 x0 4).toInt64 + x1.toInt64) ((z0.1 x0 2).toInt64)) then some (0, z0) else some (1, z0)) else none else none
set_option maxRecDepth 100000 in
set_option maxHeartbeats 4000000 in
theorem kX0_hasRoomFor (l : Launch) (G : va_G) (cy cyO : ClassId) (a : Nat → Nat) (z0 : SC) (x0 : Nat) (x1 : Int32) (r : Int32) (u : SC) (hF : fX0_hasRoomFor z0 x0 x1 = some (r, u)) : Ct l G (tys_ cy cyO) yX0_hasRoomFor wsX0_hasRoomFor ({ frames := 0, cells := 0, slots := 0, locals := 0 } : Room) [.ref x0, .int x1] (cW a cy cyO z0) (some (.int r)) (cW a cy cyO u) := by
  unfold fX0_hasRoomFor at hF
  refine ct_of (cc := cX0_hasRoomFor) (maxL := 2) (ret := (some .boolean)) (own := RX0) (by decide) rfl (Nat.le_of_ble_eq_true rfl) rfl ?_
  intro p e s m below meth c A ls X hr hlocks _ hK hN hA hP hD hl
  have hS : va_S A s.heap s.heap [] := va_S.rf
  have hl : lv_has ls 2 [(0, .ref x0), (1, .int x1)] := hl
  obtain ⟨hx, hb, hml, hown, hts⟩ := id X
  have hin0 : ∀ w ∈ wsX00, w ∈ wsX0_hasRoomFor := by decide +kernel
  refine lv_aload_n hx hb dX0_hasRoomFor_0 rfl (lv_at hl 0 rfl) ?_
  obtain ⟨h1, hF⟩ := o_i hF
  refine cs_get0 X hin0 hK hP h1 4 (by decide) (hts (.fieldLink RX0 22 RX0 (TX0 4).2.1 (TX0 4).2.2.1) (by decide +kernel)) (by decide) (v := .int (z0.1 x0 4)) rfl dX0_hasRoomFor_1 ?_
  refine lv_i2l hx hb dX0_hasRoomFor_4 rfl ?_
  refine lv_iload_n hx hb dX0_hasRoomFor_5 rfl (lv_at hl 1 rfl) ?_
  refine lv_i2l hx hb dX0_hasRoomFor_6 rfl ?_
  refine lv_ladd hx hb dX0_hasRoomFor_7 ?_
  refine lv_aload_n hx hb dX0_hasRoomFor_8 rfl (lv_at hl 0 rfl) ?_
  obtain ⟨h2, hF⟩ := o_i hF
  refine cs_get0 X hin0 hK hP h2 2 (by decide) (hts (.fieldLink RX0 16 RX0 (TX0 2).2.1 (TX0 2).2.2.1) (by decide +kernel)) (by decide) (v := .int (z0.1 x0 2)) rfl dX0_hasRoomFor_9 ?_
  refine lv_i2l hx hb dX0_hasRoomFor_12 rfl ?_
  refine W.lcmp hx hb dX0_hasRoomFor_13 ?_
  refine lv_if_gt (tgt := 21) hx hb dX0_hasRoomFor_14 (by decide) (fun c3 => ?_) (fun c3 => ?_)
  · have hF := o_t c3 hF
    refine lv_iconst (v := 0) hx hb dX0_hasRoomFor_21 (by decide) ?_
    obtain ⟨rfl, rfl⟩ := o_s hF
    exact rt_z X hr hlocks hP hD hS rfl dX0_hasRoomFor_22
  · have hF := o_f c3 hF
    refine lv_iconst (v := 1) hx hb dX0_hasRoomFor_17 (by decide) ?_
    refine lv_goto (tgt := 22) hx hb dX0_hasRoomFor_18 (by decide) ?_
    obtain ⟨rfl, rfl⟩ := o_s hF
    exact rt_z X hr hlocks hP hD hS rfl dX0_hasRoomFor_22
def fX1_isPlace (z0 : SC) (x0 : Int32) : Option (Int32 × SC) := (if x0 < 0 then some (0, z0) else (if 12 ≤ x0 then some (0, z0) else some (1, z0)))
set_option maxRecDepth 100000 in
set_option maxHeartbeats 4000000 in
theorem kX1_isPlace (l : Launch) (G : va_G) (cy cyO : ClassId) (a : Nat → Nat) (z0 : SC) (x0 : Int32) (r : Int32) (u : SC) (hF : fX1_isPlace z0 x0 = some (r, u)) : Ct l G (tys_ cy cyO) yX1_isPlace wsX1_isPlace ({ frames := 0, cells := 0, slots := 0, locals := 0 } : Room) [.int x0] (cW a cy cyO z0) (some (.int r)) (cW a cy cyO u) := by
  unfold fX1_isPlace at hF
  refine ct_of (cc := cX1_isPlace) (maxL := 1) (ret := (some .boolean)) (own := RX1) (by decide) rfl (Nat.le_of_ble_eq_true rfl) rfl ?_
  intro p e s m below meth c A ls X hr hlocks _ hK hN hA hP hD hl
  have hS : va_S A s.heap s.heap [] := va_S.rf
  have hl : lv_has ls 1 [(0, .int x0)] := hl
  obtain ⟨hx, hb, hml, hown, hts⟩ := id X
  refine lv_iload_n hx hb dX1_isPlace_0 rfl (lv_at hl 0 rfl) ?_
  refine lv_if_lt (tgt := 14) hx hb dX1_isPlace_1 (by decide) (fun c1 => ?_) (fun c1 => ?_)
  · have hF := o_t c1 hF
    refine lv_iconst (v := 0) hx hb dX1_isPlace_14 (by decide) ?_
    obtain ⟨rfl, rfl⟩ := o_s hF
    exact rt_z X hr hlocks hP hD hS rfl dX1_isPlace_15
  · have hF := o_f c1 hF
    refine lv_iload_n hx hb dX1_isPlace_4 rfl (lv_at hl 0 rfl) ?_
    refine lv_bipush (v := 12) hx hb dX1_isPlace_5 (by decide) ?_
    refine lv_icmp_ge (tgt := 14) hx hb dX1_isPlace_7 (by decide) (fun c2 => ?_) (fun c2 => ?_)
    · have hF := o_t c2 hF
      refine lv_iconst (v := 0) hx hb dX1_isPlace_14 (by decide) ?_
      obtain ⟨rfl, rfl⟩ := o_s hF
      exact rt_z X hr hlocks hP hD hS rfl dX1_isPlace_15
    · have hF := o_f c2 hF
      refine lv_iconst (v := 1) hx hb dX1_isPlace_10 (by decide) ?_
      refine lv_goto (tgt := 15) hx hb dX1_isPlace_11 (by decide) ?_
      obtain ⟨rfl, rfl⟩ := o_s hF
      exact rt_z X hr hlocks hP hD hS rfl dX1_isPlace_15
def fX1_isRoute (z0 : SC) (x0 : Int32) : Option (Int32 × SC) := (if x0 < 0 then some (0, z0) else (if 6 ≤ x0 then some (0, z0) else some (1, z0)))
set_option maxRecDepth 100000 in
set_option maxHeartbeats 4000000 in
theorem kX1_isRoute (l : Launch) (G : va_G) (cy cyO : ClassId) (a : Nat → Nat) (z0 : SC) (x0 : Int32) (r : Int32) (u : SC) (hF : fX1_isRoute z0 x0 = some (r, u)) : Ct l G (tys_ cy cyO) yX1_isRoute wsX1_isRoute ({ frames := 0, cells := 0, slots := 0, locals := 0 } : Room) [.int x0] (cW a cy cyO z0) (some (.int r)) (cW a cy cyO u) := by
  unfold fX1_isRoute at hF
  refine ct_of (cc := cX1_isRoute) (maxL := 1) (ret := (some .boolean)) (own := RX1) (by decide) rfl (Nat.le_of_ble_eq_true rfl) rfl ?_
  intro p e s m below meth c A ls X hr hlocks _ hK hN hA hP hD hl
  have hS : va_S A s.heap s.heap [] := va_S.rf
  have hl : lv_has ls 1 [(0, .int x0)] := hl
  obtain ⟨hx, hb, hml, hown, hts⟩ := id X
  refine lv_iload_n hx hb dX1_isRoute_0 rfl (lv_at hl 0 rfl) ?_
  refine lv_if_lt (tgt := 14) hx hb dX1_isRoute_1 (by decide) (fun c1 => ?_) (fun c1 => ?_)
  · have hF := o_t c1 hF
    refine lv_iconst (v := 0) hx hb dX1_isRoute_14 (by decide) ?_
    obtain ⟨rfl, rfl⟩ := o_s hF
    exact rt_z X hr hlocks hP hD hS rfl dX1_isRoute_15
  · have hF := o_f c1 hF
    refine lv_iload_n hx hb dX1_isRoute_4 rfl (lv_at hl 0 rfl) ?_
    refine lv_bipush (v := 6) hx hb dX1_isRoute_5 (by decide) ?_
    refine lv_icmp_ge (tgt := 14) hx hb dX1_isRoute_7 (by decide) (fun c2 => ?_) (fun c2 => ?_)
    · have hF := o_t c2 hF
      refine lv_iconst (v := 0) hx hb dX1_isRoute_14 (by decide) ?_
      obtain ⟨rfl, rfl⟩ := o_s hF
      exact rt_z X hr hlocks hP hD hS rfl dX1_isRoute_15
    · have hF := o_f c2 hF
      refine lv_iconst (v := 1) hx hb dX1_isRoute_10 (by decide) ?_
      refine lv_goto (tgt := 15) hx hb dX1_isRoute_11 (by decide) ?_
      obtain ⟨rfl, rfl⟩ := o_s hF
      exact rt_z X hr hlocks hP hD hS rfl dX1_isRoute_15
def fX1_isAxles (z0 : SC) (x0 : Int32) : Option (Int32 × SC) := (if x0 < 0 then some (0, z0) else (if 1000 < x0 then some (0, z0) else some (1, z0)))
set_option maxRecDepth 100000 in
set_option maxHeartbeats 4000000 in
theorem kX1_isAxles (l : Launch) (G : va_G) (cy cyO : ClassId) (a : Nat → Nat) (z0 : SC) (x0 : Int32) (r : Int32) (u : SC) (hF : fX1_isAxles z0 x0 = some (r, u)) : Ct l G (tys_ cy cyO) yX1_isAxles wsX1_isAxles ({ frames := 0, cells := 0, slots := 0, locals := 0 } : Room) [.int x0] (cW a cy cyO z0) (some (.int r)) (cW a cy cyO u) := by
  unfold fX1_isAxles at hF
  refine ct_of (cc := cX1_isAxles) (maxL := 1) (ret := (some .boolean)) (own := RX1) (by decide) rfl (Nat.le_of_ble_eq_true rfl) rfl ?_
  intro p e s m below meth c A ls X hr hlocks _ hK hN hA hP hD hl
  have hS : va_S A s.heap s.heap [] := va_S.rf
  have hl : lv_has ls 1 [(0, .int x0)] := hl
  obtain ⟨hx, hb, hml, hown, hts⟩ := id X
  refine lv_iload_n hx hb dX1_isAxles_0 rfl (lv_at hl 0 rfl) ?_
  refine lv_if_lt (tgt := 15) hx hb dX1_isAxles_1 (by decide) (fun c1 => ?_) (fun c1 => ?_)
  · have hF := o_t c1 hF
    refine lv_iconst (v := 0) hx hb dX1_isAxles_15 (by decide) ?_
    obtain ⟨rfl, rfl⟩ := o_s hF
    exact rt_z X hr hlocks hP hD hS rfl dX1_isAxles_16
  · have hF := o_f c1 hF
    refine lv_iload_n hx hb dX1_isAxles_4 rfl (lv_at hl 0 rfl) ?_
    refine lv_sipush (v := 1000) hx hb dX1_isAxles_5 (by decide) ?_
    refine lv_icmp_gt (tgt := 15) hx hb dX1_isAxles_8 (by decide) (fun c2 => ?_) (fun c2 => ?_)
    · have hF := o_t c2 hF
      refine lv_iconst (v := 0) hx hb dX1_isAxles_15 (by decide) ?_
      obtain ⟨rfl, rfl⟩ := o_s hF
      exact rt_z X hr hlocks hP hD hS rfl dX1_isAxles_16
    · have hF := o_f c2 hF
      refine lv_iconst (v := 1) hx hb dX1_isAxles_11 (by decide) ?_
      refine lv_goto (tgt := 16) hx hb dX1_isAxles_12 (by decide) ?_
      obtain ⟨rfl, rfl⟩ := o_s hF
      exact rt_z X hr hlocks hP hD hS rfl dX1_isAxles_16
def fX1_isLimit (z0 : SC) (x0 : Int32) : Option (Int32 × SC) := (if x0 < 0 then some (0, z0) else (if 100000 < x0 then some (0, z0) else some (1, z0)))
set_option maxRecDepth 100000 in
set_option maxHeartbeats 4000000 in
theorem kX1_isLimit (l : Launch) (G : va_G) (cy cyO : ClassId) (a : Nat → Nat) (z0 : SC) (x0 : Int32) (r : Int32) (u : SC) (hF : fX1_isLimit z0 x0 = some (r, u)) : Ct l G (tys_ cy cyO) yX1_isLimit wsX1_isLimit ({ frames := 0, cells := 0, slots := 0, locals := 0 } : Room) [.int x0] (cW a cy cyO z0) (some (.int r)) (cW a cy cyO u) := by
  unfold fX1_isLimit at hF
  refine ct_of (cc := cX1_isLimit) (maxL := 1) (ret := (some .boolean)) (own := RX1) (by decide) rfl (Nat.le_of_ble_eq_true rfl) rfl ?_
  intro p e s m below meth c A ls X hr hlocks _ hK hN hA hP hD hl
  have hS : va_S A s.heap s.heap [] := va_S.rf
  have hl : lv_has ls 1 [(0, .int x0)] := hl
  obtain ⟨hx, hb, hml, hown, hts⟩ := id X
  refine lv_iload_n hx hb dX1_isLimit_0 rfl (lv_at hl 0 rfl) ?_
  refine lv_if_lt (tgt := 14) hx hb dX1_isLimit_1 (by decide) (fun c1 => ?_) (fun c1 => ?_)
  · have hF := o_t c1 hF
    refine lv_iconst (v := 0) hx hb dX1_isLimit_14 (by decide) ?_
    obtain ⟨rfl, rfl⟩ := o_s hF
    exact rt_z X hr hlocks hP hD hS rfl dX1_isLimit_15
  · have hF := o_f c1 hF
    refine lv_iload_n hx hb dX1_isLimit_4 rfl (lv_at hl 0 rfl) ?_
    refine lv_ldc (v := 100000) hx hb hown (hts (.constant RX1 120 (100000)) (by decide +kernel)) dX1_isLimit_5 ?_
    refine lv_icmp_gt (tgt := 14) hx hb dX1_isLimit_7 (by decide) (fun c2 => ?_) (fun c2 => ?_)
    · have hF := o_t c2 hF
      refine lv_iconst (v := 0) hx hb dX1_isLimit_14 (by decide) ?_
      obtain ⟨rfl, rfl⟩ := o_s hF
      exact rt_z X hr hlocks hP hD hS rfl dX1_isLimit_15
    · have hF := o_f c2 hF
      refine lv_iconst (v := 1) hx hb dX1_isLimit_10 (by decide) ?_
      refine lv_goto (tgt := 15) hx hb dX1_isLimit_11 (by decide) ?_
      obtain ⟨rfl, rfl⟩ := o_s hF
      exact rt_z X hr hlocks hP hD hS rfl dX1_isLimit_15
def fX1_claim_j39 (z0 : SC) (w1 : Nat) : Option (Int32 × SC) := (if 150 ≤ z0.2.2.2.2.2.2.1 then some (0, z0) else let_ ((z0.1, z0.2.1, z0.2.2.1, z0.2.2.2.1, z0.2.2.2.2.1, z0.2.2.2.2.2.1, (z0.2.2.2.2.2.2.1 + 1), z0.2.2.2.2.2.2.2) : SC) (fun z2 => if w1 ∈ z2.2.1 then if z0.2.2.2.2.2.2.1 < 0 ∨ 150 ≤ z0.2.2.2.2.2.2.1.toNatClampNeg then none else let_ ((z2.1, z2.2.1, z2.2.2.1, z2.2.2.2.1, z2.2.2.2.2.1, (upd z2.2.2.2.2.2.1 z0.2.2.2.2.2.2.1.toNatClampNeg (1000 + (z2.1 w1 0))), z2.2.2.2.2.2.2) : SC) (fun z5 => some (0, z5)) else none))
set_option maxRecDepth 100000 in
set_option maxHeartbeats 4000000 in
theorem jX1_claim_39 {p : Program} {l : Launch} {e : Env} {s : State} {m : MethodId} {args : Array Value} {below : List Frame} {meth : Method} {c : Code} {G : va_G} {cy cyO : ClassId} {a : Nat → Nat} {A : Nat → Prop} {r : Int32} {u : SC} (X : CallFix p m c cX1_claim 2 s args wsX1_claim RX1) (hr : meth.sig.returnType = none) (hlocks : meth.locks = false) (hK : va_K G vwCl (tys_ cy cyO) s) (hN : nw s) (hA : ∀ q, s.heap.size ≤ q → A q) : ∀ (z0 : SC) (w1 : Nat), fX1_claim_j39 z0 w1 = some (r, u) → ∀ (H : Heap) (locs : List Loc), va_P G vwCl (cW a cy cyO z0) H → va_D A (cW a cy cyO z0) → va_S A s.heap H locs → ∀ (ls : Array Slot), lv_has ls 2 [(0, .ref (a 0)), (1, .ref w1)] → W p l e ({ frames := 0, cells := 0, slots := 0, locals := 0 } : Room) s m args below meth c H locs 0 0 (MQ below (qg none (fun t => wPost G A (cW a cy cyO u) t) A) args s 0 0 A) (F0 m 39 ls []) := by
  obtain ⟨hx, hb, hml, hown, hts⟩ := id X
  have hin1 : ∀ w ∈ wsX10, w ∈ wsX1_claim := by decide +kernel
  have hin0 : ∀ w ∈ wsX00, w ∈ wsX1_claim := by decide +kernel
  intro z0 w1 hF H locs hP hD hS ls hl
  unfold fX1_claim_j39 at hF
  refine lv_aload_n hx hb dX1_claim_39 rfl (lv_at hl 0 rfl) ?_
  refine va_get (D := G) (ci := 1) (v := .int z0.2.2.2.2.2.2.1) (C := RX1) (T := TX1) (N := 10) hx hb hts hin1 hown hK hP 0 rfl rfl 4 (by decide) (hts (.fieldLink RX1 54 "SignalBox" "traceLength" "I") (by decide +kernel)) (fun _ h9 => h9) rfl dX1_claim_40 ?_
  refine lv_sipush (v := 150) hx hb dX1_claim_43 (by decide) ?_
  refine lv_icmp_ge (tgt := 73) hx hb dX1_claim_46 (by decide) (fun c1 => ?_) (fun c1 => ?_)
  · have hF := o_t c1 hF
    obtain ⟨rfl, rfl⟩ := o_s hF
    exact rt_v X hr hlocks hP hD hS dX1_claim_73
  · have hF := o_f c1 hF
    refine lv_aload_n hx hb dX1_claim_49 rfl (lv_at hl 0 rfl) ?_
    refine va_get (D := G) (ci := 1) (v := .ref (a 4)) (C := RX1) (T := TX1) (N := 10) hx hb hts hin1 hown hK hP 0 rfl rfl 3 (by decide) (hts (.fieldLink RX1 22 "SignalBox" "trace" "[I") (by decide +kernel)) (fun _ h9 => h9) rfl dX1_claim_50 ?_
    refine lv_aload_n hx hb dX1_claim_53 rfl (lv_at hl 0 rfl) ?_
    refine lv_dup hx hb dX1_claim_54 rfl ?_
    refine va_get (D := G) (ci := 1) (v := .int z0.2.2.2.2.2.2.1) (C := RX1) (T := TX1) (N := 10) hx hb hts hin1 hown hK hP 0 rfl rfl 4 (by decide) (hts (.fieldLink RX1 54 "SignalBox" "traceLength" "I") (by decide +kernel)) (fun _ h9 => h9) rfl dX1_claim_55 ?_
    refine lv_dup_x1 hx hb dX1_claim_58 rfl rfl ?_
    refine lv_iconst (v := 1) hx hb dX1_claim_59 (by decide) ?_
    refine lv_iadd hx hb dX1_claim_60 ?_
    refine va_put (D := G) (ci := 1) (v := .int (z0.2.2.2.2.2.2.1 + 1)) (ty := .int) (C := RX1) (T := TX1) (N := 10) hx hb hts hin1 tyX1 tyX1_ok nmX1 hown hK hP hD hS 0 rfl rfl 4 (by decide) (hts (.fieldLink RX1 54 "SignalBox" "traceLength" "I") (by decide +kernel)) (fun _ h9 => h9) rfl (by decide +kernel) rfl rfl (Nat.le_of_ble_eq_true rfl) dX1_claim_61 (fun H locs hP hD hS => ?_)
    obtain ⟨z2, e2, hF⟩ := o_l hF
    have hP : va_P G vwCl (cW a cy cyO z2) H := by rw [e2]; exact hP
    have hD : va_D A (cW a cy cyO z2) := by rw [e2]; exact hD
    refine lv_sipush (v := 1000) hx hb dX1_claim_64 (by decide) ?_
    refine lv_aload_n hx hb dX1_claim_67 rfl (lv_at hl 1 rfl) ?_
    obtain ⟨h3, hF⟩ := o_i hF
    refine cs_get X hin0 hK hN hP h3 0 (by decide) (by decide) (by decide) (v := .int (z2.1 w1 0)) rfl dX1_claim_68 ?_
    refine lv_iadd hx hb dX1_claim_71 ?_
    obtain ⟨h4, hF⟩ := o_n hF
    refine va_iast (n := 150) (f := z2.2.2.2.2.2.1) (cA := cy) hx hb hK hP hD hS 4 0 rfl rfl h4 dX1_claim_72 (fun H locs hP hD hS => ?_)
    obtain ⟨z5, e5, hF⟩ := o_l hF
    have hP : va_P G vwCl (cW a cy cyO z5) H := by rw [e5]; exact hP
    have hD : va_D A (cW a cy cyO z5) := by rw [e5]; exact hD
    obtain ⟨rfl, rfl⟩ := o_s hF
    exact rt_v X hr hlocks hP hD hS dX1_claim_73
def fX1_claim (z0 : SC) (x1 : Nat) : Option (Int32 × SC) := if x1 ∈ z0.2.1 then if x1 ∈ z0.2.1 then let_ ((setS z0.1 x1 7 ((z0.1 x1 7) + 1), z0.2) : SC) (fun z2 => if x1 ∈ z2.2.1 then if x1 ∈ z2.2.1 then let_ ((setS z2.1 x1 6 ((z2.1 x1 6) + 1), z2.2) : SC) (fun z4 => if x1 ∈ z4.2.1 then if x1 ∈ z4.2.1 then (if (z4.1 x1 7) ≤ (z4.1 x1 8) then (fX1_claim_j39 z4 x1) else if x1 ∈ z4.2.1 then if x1 ∈ z4.2.1 then let_ ((setS z4.1 x1 8 (z4.1 x1 7), z4.2) : SC) (fun z9 => (fX1_claim_j39 z9 x1)) else none else none) else none else none) else none else none) else none else none
set_option maxRecDepth 100000 in
set_option maxHeartbeats 4000000 in
theorem kX1_claim (l : Launch) (G : va_G) (cy cyO : ClassId) (a : Nat → Nat) (z0 : SC) (x1 : Nat) (r : Int32) (u : SC) (hF : fX1_claim z0 x1 = some (r, u)) : Ct l G (tys_ cy cyO) yX1_claim wsX1_claim ({ frames := 0, cells := 0, slots := 0, locals := 0 } : Room) [.ref (a 0), .ref x1] (cW a cy cyO z0) none (cW a cy cyO u) := by
  unfold fX1_claim at hF
  refine ct_of (cc := cX1_claim) (maxL := 2) (ret := none) (own := RX1) (by decide) rfl (Nat.le_of_ble_eq_true rfl) rfl ?_
  intro p e s m below meth c A ls X hr hlocks _ hK hN hA hP hD hl
  have hS : va_S A s.heap s.heap [] := va_S.rf
  have hl : lv_has ls 2 [(0, .ref (a 0)), (1, .ref x1)] := hl
  obtain ⟨hx, hb, hml, hown, hts⟩ := id X
  have hin1 : ∀ w ∈ wsX10, w ∈ wsX1_claim := by decide +kernel
  have hin0 : ∀ w ∈ wsX00, w ∈ wsX1_claim := by decide +kernel
  refine lv_aload_n hx hb dX1_claim_0 rfl (lv_at hl 1 rfl) ?_
  refine lv_dup hx hb dX1_claim_1 rfl ?_
  obtain ⟨h1, hF⟩ := o_i hF
  refine cs_get X hin0 hK hN hP h1 7 (by decide) (by decide) (by decide) (v := .int (z0.1 x1 7)) rfl dX1_claim_2 ?_
  refine lv_iconst (v := 1) hx hb dX1_claim_5 (by decide) ?_
  refine lv_iadd hx hb dX1_claim_6 ?_
  obtain ⟨h2, hF⟩ := o_i hF
  refine cs_put X hin0 hK hN hP hD hS h2 7 (by decide) (by decide) (by decide) rfl dX1_claim_7 (fun H locs hP hD hS => ?_)
  obtain ⟨z2, e2, hF⟩ := o_l hF
  have hP : va_P G vwCl (cW a cy cyO z2) H := by rw [e2]; exact hP
  have hD : va_D A (cW a cy cyO z2) := by rw [e2]; exact hD
  refine lv_aload_n hx hb dX1_claim_10 rfl (lv_at hl 1 rfl) ?_
  refine lv_dup hx hb dX1_claim_11 rfl ?_
  obtain ⟨h3, hF⟩ := o_i hF
  refine cs_get X hin0 hK hN hP h3 6 (by decide) (by decide) (by decide) (v := .int (z2.1 x1 6)) rfl dX1_claim_12 ?_
  refine lv_iconst (v := 1) hx hb dX1_claim_15 (by decide) ?_
  refine lv_iadd hx hb dX1_claim_16 ?_
  obtain ⟨h4, hF⟩ := o_i hF
  refine cs_put X hin0 hK hN hP hD hS h4 6 (by decide) (by decide) (by decide) rfl dX1_claim_17 (fun H locs hP hD hS => ?_)
  obtain ⟨z4, e4, hF⟩ := o_l hF
  have hP : va_P G vwCl (cW a cy cyO z4) H := by rw [e4]; exact hP
  have hD : va_D A (cW a cy cyO z4) := by rw [e4]; exact hD
  refine lv_aload_n hx hb dX1_claim_20 rfl (lv_at hl 1 rfl) ?_
  obtain ⟨h5, hF⟩ := o_i hF
  refine cs_get X hin0 hK hN hP h5 7 (by decide) (by decide) (by decide) (v := .int (z4.1 x1 7)) rfl dX1_claim_21 ?_
  refine lv_aload_n hx hb dX1_claim_24 rfl (lv_at hl 1 rfl) ?_
  obtain ⟨h6, hF⟩ := o_i hF
  refine cs_get X hin0 hK hN hP h6 8 (by decide) (by decide) (by decide) (v := .int (z4.1 x1 8)) rfl dX1_claim_25 ?_
  refine lv_icmp_le (tgt := 39) hx hb dX1_claim_28 (by decide) (fun c7 => ?_) (fun c7 => ?_)
  · have hF := o_t c7 hF
    exact jX1_claim_39 X hr hlocks hK hN hA z4 x1 hF H locs hP hD hS ls (lv_sub hl [0, 1] rfl)
  · have hF := o_f c7 hF
    refine lv_aload_n hx hb dX1_claim_31 rfl (lv_at hl 1 rfl) ?_
    refine lv_aload_n hx hb dX1_claim_32 rfl (lv_at hl 1 rfl) ?_
    obtain ⟨h8, hF⟩ := o_i hF
    refine cs_get X hin0 hK hN hP h8 7 (by decide) (by decide) (by decide) (v := .int (z4.1 x1 7)) rfl dX1_claim_33 ?_
    obtain ⟨h9, hF⟩ := o_i hF
    refine cs_put X hin0 hK hN hP hD hS h9 8 (by decide) (by decide) (by decide) rfl dX1_claim_36 (fun H locs hP hD hS => ?_)
    obtain ⟨z9, e9, hF⟩ := o_l hF
    have hP : va_P G vwCl (cW a cy cyO z9) H := by rw [e9]; exact hP
    have hD : va_D A (cW a cy cyO z9) := by rw [e9]; exact hD
    exact jX1_claim_39 X hr hlocks hK hN hA z9 x1 hF H locs hP hD hS ls (lv_sub hl [0, 1] rfl)
def fX1_let (z0 : SC) (x1 : Nat) : Option (Int32 × SC) := if x1 ∈ z0.2.1 then if x1 ∈ z0.2.1 then let_ ((setS z0.1 x1 7 ((z0.1 x1 7) - 1), z0.2) : SC) (fun z2 => (if 150 ≤ z2.2.2.2.2.2.2.1 then some (0, z2) else let_ ((z2.1, z2.2.1, z2.2.2.1, z2.2.2.2.1, z2.2.2.2.2.1, z2.2.2.2.2.2.1, (z2.2.2.2.2.2.2.1 + 1), z2.2.2.2.2.2.2.2) : SC) (fun z4 => if x1 ∈ z4.2.1 then if z2.2.2.2.2.2.2.1 < 0 ∨ 150 ≤ z2.2.2.2.2.2.2.1.toNatClampNeg then none else let_ ((z4.1, z4.2.1, z4.2.2.1, z4.2.2.2.1, z4.2.2.2.2.1, (upd z4.2.2.2.2.2.1 z2.2.2.2.2.2.2.1.toNatClampNeg (2000 + (z4.1 x1 0))), z4.2.2.2.2.2.2) : SC) (fun z7 => some (0, z7)) else none))) else none else none
set_option maxRecDepth 100000 in
set_option maxHeartbeats 4000000 in
theorem kX1_let (l : Launch) (G : va_G) (cy cyO : ClassId) (a : Nat → Nat) (z0 : SC) (x1 : Nat) (r : Int32) (u : SC) (hF : fX1_let z0 x1 = some (r, u)) : Ct l G (tys_ cy cyO) yX1_let wsX1_let ({ frames := 0, cells := 0, slots := 0, locals := 0 } : Room) [.ref (a 0), .ref x1] (cW a cy cyO z0) none (cW a cy cyO u) := by
  unfold fX1_let at hF
  refine ct_of (cc := cX1_let) (maxL := 2) (ret := none) (own := RX1) (by decide) rfl (Nat.le_of_ble_eq_true rfl) rfl ?_
  intro p e s m below meth c A ls X hr hlocks _ hK hN hA hP hD hl
  have hS : va_S A s.heap s.heap [] := va_S.rf
  have hl : lv_has ls 2 [(0, .ref (a 0)), (1, .ref x1)] := hl
  obtain ⟨hx, hb, hml, hown, hts⟩ := id X
  have hin1 : ∀ w ∈ wsX10, w ∈ wsX1_let := by decide +kernel
  have hin0 : ∀ w ∈ wsX00, w ∈ wsX1_let := by decide +kernel
  refine lv_aload_n hx hb dX1_let_0 rfl (lv_at hl 1 rfl) ?_
  refine lv_dup hx hb dX1_let_1 rfl ?_
  obtain ⟨h1, hF⟩ := o_i hF
  refine cs_get X hin0 hK hN hP h1 7 (by decide) (by decide) (by decide) (v := .int (z0.1 x1 7)) rfl dX1_let_2 ?_
  refine lv_iconst (v := 1) hx hb dX1_let_5 (by decide) ?_
  refine lv_isub hx hb dX1_let_6 ?_
  obtain ⟨h2, hF⟩ := o_i hF
  refine cs_put X hin0 hK hN hP hD hS h2 7 (by decide) (by decide) (by decide) rfl dX1_let_7 (fun H locs hP hD hS => ?_)
  obtain ⟨z2, e2, hF⟩ := o_l hF
  have hP : va_P G vwCl (cW a cy cyO z2) H := by rw [e2]; exact hP
  have hD : va_D A (cW a cy cyO z2) := by rw [e2]; exact hD
  refine lv_aload_n hx hb dX1_let_10 rfl (lv_at hl 0 rfl) ?_
  refine va_get (D := G) (ci := 1) (v := .int z2.2.2.2.2.2.2.1) (C := RX1) (T := TX1) (N := 10) hx hb hts hin1 hown hK hP 0 rfl rfl 4 (by decide) (hts (.fieldLink RX1 54 "SignalBox" "traceLength" "I") (by decide +kernel)) (fun _ h9 => h9) rfl dX1_let_11 ?_
  refine lv_sipush (v := 150) hx hb dX1_let_14 (by decide) ?_
  refine lv_icmp_ge (tgt := 44) hx hb dX1_let_17 (by decide) (fun c3 => ?_) (fun c3 => ?_)
  · have hF := o_t c3 hF
    obtain ⟨rfl, rfl⟩ := o_s hF
    exact rt_v X hr hlocks hP hD hS dX1_let_44
  · have hF := o_f c3 hF
    refine lv_aload_n hx hb dX1_let_20 rfl (lv_at hl 0 rfl) ?_
    refine va_get (D := G) (ci := 1) (v := .ref (a 4)) (C := RX1) (T := TX1) (N := 10) hx hb hts hin1 hown hK hP 0 rfl rfl 3 (by decide) (hts (.fieldLink RX1 22 "SignalBox" "trace" "[I") (by decide +kernel)) (fun _ h9 => h9) rfl dX1_let_21 ?_
    refine lv_aload_n hx hb dX1_let_24 rfl (lv_at hl 0 rfl) ?_
    refine lv_dup hx hb dX1_let_25 rfl ?_
    refine va_get (D := G) (ci := 1) (v := .int z2.2.2.2.2.2.2.1) (C := RX1) (T := TX1) (N := 10) hx hb hts hin1 hown hK hP 0 rfl rfl 4 (by decide) (hts (.fieldLink RX1 54 "SignalBox" "traceLength" "I") (by decide +kernel)) (fun _ h9 => h9) rfl dX1_let_26 ?_
    refine lv_dup_x1 hx hb dX1_let_29 rfl rfl ?_
    refine lv_iconst (v := 1) hx hb dX1_let_30 (by decide) ?_
    refine lv_iadd hx hb dX1_let_31 ?_
    refine va_put (D := G) (ci := 1) (v := .int (z2.2.2.2.2.2.2.1 + 1)) (ty := .int) (C := RX1) (T := TX1) (N := 10) hx hb hts hin1 tyX1 tyX1_ok nmX1 hown hK hP hD hS 0 rfl rfl 4 (by decide) (hts (.fieldLink RX1 54 "SignalBox" "traceLength" "I") (by decide +kernel)) (fun _ h9 => h9) rfl (by decide +kernel) rfl rfl (Nat.le_of_ble_eq_true rfl) dX1_let_32 (fun H locs hP hD hS => ?_)
    obtain ⟨z4, e4, hF⟩ := o_l hF
    have hP : va_P G vwCl (cW a cy cyO z4) H := by rw [e4]; exact hP
    have hD : va_D A (cW a cy cyO z4) := by rw [e4]; exact hD
    refine lv_sipush (v := 2000) hx hb dX1_let_35 (by decide) ?_
    refine lv_aload_n hx hb dX1_let_38 rfl (lv_at hl 1 rfl) ?_
    obtain ⟨h5, hF⟩ := o_i hF
    refine cs_get X hin0 hK hN hP h5 0 (by decide) (by decide) (by decide) (v := .int (z4.1 x1 0)) rfl dX1_let_39 ?_
    refine lv_iadd hx hb dX1_let_42 ?_
    obtain ⟨h6, hF⟩ := o_n hF
    refine va_iast (n := 150) (f := z4.2.2.2.2.2.1) (cA := cy) hx hb hK hP hD hS 4 0 rfl rfl h6 dX1_let_43 (fun H locs hP hD hS => ?_)
    obtain ⟨z7, e7, hF⟩ := o_l hF
    have hP : va_P G vwCl (cW a cy cyO z7) H := by rw [e7]; exact hP
    have hD : va_D A (cW a cy cyO z7) := by rw [e7]; exact hD
    obtain ⟨rfl, rfl⟩ := o_s hF
    exact rt_v X hr hlocks hP hD hS dX1_let_44
def fX1_passPlain (z0 : SC) (x1 : Nat) (x2 : Int32) : Option (Int32 × SC) := bd_ (fX1_claim z0 x1) (fun r1 z1 => if x1 ∈ z1.2.1 then bd_ (fX0_hasRoomFor z1 x1 x2) (fun r2 z2 => (if r2 = 0 then bd_ (fX1_let z2 x1) (fun r5 z5 => some ((-30), z5)) else if x1 ∈ z2.2.1 then if x1 ∈ z2.2.1 then let_ ((setS z2.1 x1 4 ((z2.1 x1 4) + x2), z2.2) : SC) (fun z7 => bd_ (fX1_let z7 x1) (fun r8 z8 => some (0, z8))) else none else none)) else none)
set_option maxRecDepth 100000 in
set_option maxHeartbeats 4000000 in
theorem kX1_passPlain (l : Launch) (G : va_G) (cy cyO : ClassId) (a : Nat → Nat) (z0 : SC) (x1 : Nat) (x2 : Int32) (r : Int32) (u : SC) (hF : fX1_passPlain z0 x1 x2 = some (r, u)) : Ct l G (tys_ cy cyO) yX1_passPlain wsX1_passPlain ({ frames := 1, cells := 0, slots := 0, locals := 21 } : Room) [.ref (a 0), .ref x1, .int x2] (cW a cy cyO z0) (some (.int r)) (cW a cy cyO u) := by
  unfold fX1_passPlain at hF
  refine ct_of (cc := cX1_passPlain) (maxL := 4) (ret := (some .int)) (own := RX1) (by decide) rfl (Nat.le_of_ble_eq_true rfl) rfl ?_
  intro p e s m below meth c A ls X hr hlocks _ hK hN hA hP hD hl
  have hS : va_S A s.heap s.heap [] := va_S.rf
  have hl : lv_has ls 4 [(0, .ref (a 0)), (1, .ref x1), (2, .int x2)] := hl
  obtain ⟨hx, hb, hml, hown, hts⟩ := id X
  have hin1 : ∀ w ∈ wsX10, w ∈ wsX1_passPlain := by decide +kernel
  have hin0 : ∀ w ∈ wsX00, w ∈ wsX1_passPlain := by decide +kernel
  refine lv_aload_n hx hb dX1_passPlain_0 rfl (lv_at hl 0 rfl) ?_
  refine lv_aload_n hx hb dX1_passPlain_1 rfl (lv_at hl 1 rfl) ?_
  obtain ⟨r1, z1, hG1, hF⟩ := o_b hF
  refine cl_V (C := RX1) (rest := []) X hK hN hA hP hD hS (kX1_claim l G cy cyO a z0 x1 r1 z1 hG1) (cwV 1 hts gX1_passPlain_X1_claim rfl rfl rfl (by decide +kernel) ⟨Nat.le_of_ble_eq_true rfl, Nat.le_of_ble_eq_true rfl⟩) (va_recv hK hP (ci := 1) (q0 := 0) rfl rfl) rfl hl.1 rfl (Nat.le_of_ble_eq_true rfl) dX1_passPlain_2 ⟨Nat.zero_le _, Nat.zero_le _⟩ (fun H locs hP hD hS => ?_)
  refine W.eq (g2 := F0 m 5 ls []) rfl ?_
  refine lv_bipush (v := (-30)) hx hb dX1_passPlain_5 (by decide) ?_
  refine lv_istore_n (lv' := [(3, .int (-30)), (0, .ref (a 0)), (1, .ref x1), (2, .int x2)]) hx hb dX1_passPlain_7 rfl hl (by decide) rfl (fun ls hl => ?_)
  refine lv_aload_n hx hb dX1_passPlain_8 rfl (lv_at hl 2 rfl) ?_
  refine lv_iload_n hx hb dX1_passPlain_9 rfl (lv_at hl 3 rfl) ?_
  obtain ⟨h3, hF⟩ := o_i hF
  obtain ⟨r2, z2, hG2, hF⟩ := o_b hF
  refine cl_N (C := RX0) (rest := []) X hK hN hA hP hD hS (kX0_hasRoomFor l G cy cyO a z1 x1 x2 r2 z2 hG2) ⟨va_cnB 1 hts gX1_passPlain_X0_hasRoomFor_n139 rfl rfl rfl (hN.2 (139, yX0_hasRoomFor) (by decide +kernel)) (hts (.initialized RX0) (by decide +kernel)) (by decide +kernel) ⟨Nat.le_of_ble_eq_true rfl, Nat.le_of_ble_eq_true rfl⟩, hts (.instanceMethod yX0_hasRoomFor) (by decide +kernel), hts (.selects RX0 yX0_hasRoomFor yX0_hasRoomFor) (by decide +kernel)⟩ (cs_recv hK hP h3) rfl hl.1 rfl (Nat.le_of_ble_eq_true rfl) dX1_passPlain_10 ⟨Nat.zero_le _, Nat.zero_le _⟩ (fun H locs hP hD hS => ?_)
  refine W.eq (g2 := F0 m 13 ls [.int r2]) rfl ?_
  refine lv_if_eq (tgt := 28) hx hb dX1_passPlain_13 (by decide) (fun c4 => ?_) (fun c4 => ?_)
  · have hF := o_t c4 hF
    refine lv_aload_n hx hb dX1_passPlain_28 rfl (lv_at hl 1 rfl) ?_
    refine lv_aload_n hx hb dX1_passPlain_29 rfl (lv_at hl 2 rfl) ?_
    obtain ⟨r5, z5, hG5, hF⟩ := o_b hF
    refine cl_V (C := RX1) (rest := []) X hK hN hA hP hD hS (kX1_let l G cy cyO a z2 x1 r5 z5 hG5) (cwV 1 hts gX1_passPlain_X1_let rfl rfl rfl (by decide +kernel) ⟨Nat.le_of_ble_eq_true rfl, Nat.le_of_ble_eq_true rfl⟩) (va_recv hK hP (ci := 1) (q0 := 0) rfl rfl) rfl hl.1 rfl (Nat.le_of_ble_eq_true rfl) dX1_passPlain_30 ⟨Nat.zero_le _, Nat.zero_le _⟩ (fun H locs hP hD hS => ?_)
    refine W.eq (g2 := F0 m 33 ls []) rfl ?_
    refine lv_iload_n hx hb dX1_passPlain_33 rfl (lv_at hl 0 rfl) ?_
    obtain ⟨rfl, rfl⟩ := o_s hF
    exact rt_i X hr hlocks hP hD hS dX1_passPlain_34
  · have hF := o_f c4 hF
    refine lv_aload_n hx hb dX1_passPlain_16 rfl (lv_at hl 2 rfl) ?_
    refine lv_dup hx hb dX1_passPlain_17 rfl ?_
    obtain ⟨h6, hF⟩ := o_i hF
    refine cs_get X hin0 hK hN hP h6 4 (by decide) (by decide) (by decide) (v := .int (z2.1 x1 4)) rfl dX1_passPlain_18 ?_
    refine lv_iload_n hx hb dX1_passPlain_21 rfl (lv_at hl 3 rfl) ?_
    refine lv_iadd hx hb dX1_passPlain_22 ?_
    obtain ⟨h7, hF⟩ := o_i hF
    refine cs_put X hin0 hK hN hP hD hS h7 4 (by decide) (by decide) (by decide) rfl dX1_passPlain_23 (fun H locs hP hD hS => ?_)
    obtain ⟨z7, e7, hF⟩ := o_l hF
    have hP : va_P G vwCl (cW a cy cyO z7) H := by rw [e7]; exact hP
    have hD : va_D A (cW a cy cyO z7) := by rw [e7]; exact hD
    refine lv_iconst (v := 0) hx hb dX1_passPlain_26 (by decide) ?_
    refine lv_istore_n (lv' := [(3, .int 0), (0, .ref (a 0)), (1, .ref x1), (2, .int x2)]) hx hb dX1_passPlain_27 rfl hl (by decide) rfl (fun ls hl => ?_)
    refine lv_aload_n hx hb dX1_passPlain_28 rfl (lv_at hl 1 rfl) ?_
    refine lv_aload_n hx hb dX1_passPlain_29 rfl (lv_at hl 2 rfl) ?_
    obtain ⟨r8, z8, hG8, hF⟩ := o_b hF
    refine cl_V (C := RX1) (rest := []) X hK hN hA hP hD hS (kX1_let l G cy cyO a z7 x1 r8 z8 hG8) (cwV 1 hts gX1_passPlain_X1_let rfl rfl rfl (by decide +kernel) ⟨Nat.le_of_ble_eq_true rfl, Nat.le_of_ble_eq_true rfl⟩) (va_recv hK hP (ci := 1) (q0 := 0) rfl rfl) rfl hl.1 rfl (Nat.le_of_ble_eq_true rfl) dX1_passPlain_30 ⟨Nat.zero_le _, Nat.zero_le _⟩ (fun H locs hP hD hS => ?_)
    refine W.eq (g2 := F0 m 33 ls []) rfl ?_
    refine lv_iload_n hx hb dX1_passPlain_33 rfl (lv_at hl 0 rfl) ?_
    obtain ⟨rfl, rfl⟩ := o_s hF
    exact rt_i X hr hlocks hP hD hS dX1_passPlain_34
def fX1_passPoints (z0 : SC) (x1 : Nat) (x2 : Int32) : Option (Int32 × SC) := bd_ (fX1_claim z0 x1) (fun r1 z1 => if x1 ∈ z1.2.1 then (if (z1.1 x1 5) = 1 then if x1 ∈ z1.2.1 then let_ ((setS z1.1 x1 5 0, z1.2) : SC) (fun z7 => bd_ (fX1_let z7 x1) (fun r8 z8 => some (1, z8))) else none else if x1 ∈ z1.2.1 then let_ ((setS z1.1 x1 5 1, z1.2) : SC) (fun z4 => bd_ (fX1_passPlain z4 x1 x2) (fun r5 z5 => bd_ (fX1_let z5 x1) (fun r6 z6 => some (r5, z6)))) else none) else none)
set_option maxRecDepth 100000 in
set_option maxHeartbeats 4000000 in
theorem kX1_passPoints (l : Launch) (G : va_G) (cy cyO : ClassId) (a : Nat → Nat) (z0 : SC) (x1 : Nat) (x2 : Int32) (r : Int32) (u : SC) (hF : fX1_passPoints z0 x1 x2 = some (r, u)) : Ct l G (tys_ cy cyO) yX1_passPoints wsX1_passPoints ({ frames := 2, cells := 0, slots := 0, locals := 44 } : Room) [.ref (a 0), .ref x1, .int x2] (cW a cy cyO z0) (some (.int r)) (cW a cy cyO u) := by
  unfold fX1_passPoints at hF
  refine ct_of (cc := cX1_passPoints) (maxL := 4) (ret := (some .int)) (own := RX1) (by decide) rfl (Nat.le_of_ble_eq_true rfl) rfl ?_
  intro p e s m below meth c A ls X hr hlocks _ hK hN hA hP hD hl
  have hS : va_S A s.heap s.heap [] := va_S.rf
  have hl : lv_has ls 4 [(0, .ref (a 0)), (1, .ref x1), (2, .int x2)] := hl
  obtain ⟨hx, hb, hml, hown, hts⟩ := id X
  have hin1 : ∀ w ∈ wsX10, w ∈ wsX1_passPoints := by decide +kernel
  have hin0 : ∀ w ∈ wsX00, w ∈ wsX1_passPoints := by decide +kernel
  refine lv_aload_n hx hb dX1_passPoints_0 rfl (lv_at hl 0 rfl) ?_
  refine lv_aload_n hx hb dX1_passPoints_1 rfl (lv_at hl 1 rfl) ?_
  obtain ⟨r1, z1, hG1, hF⟩ := o_b hF
  refine cl_V (C := RX1) (rest := []) X hK hN hA hP hD hS (kX1_claim l G cy cyO a z0 x1 r1 z1 hG1) (cwV 1 hts gX1_passPoints_X1_claim rfl rfl rfl (by decide +kernel) ⟨Nat.le_of_ble_eq_true rfl, Nat.le_of_ble_eq_true rfl⟩) (va_recv hK hP (ci := 1) (q0 := 0) rfl rfl) rfl hl.1 rfl (Nat.le_of_ble_eq_true rfl) dX1_passPoints_2 ⟨Nat.zero_le _, Nat.zero_le _⟩ (fun H locs hP hD hS => ?_)
  refine W.eq (g2 := F0 m 5 ls []) rfl ?_
  refine lv_iconst (v := 1) hx hb dX1_passPoints_5 (by decide) ?_
  refine lv_istore_n (lv' := [(3, .int 1), (0, .ref (a 0)), (1, .ref x1), (2, .int x2)]) hx hb dX1_passPoints_6 rfl hl (by decide) rfl (fun ls hl => ?_)
  refine lv_aload_n hx hb dX1_passPoints_7 rfl (lv_at hl 2 rfl) ?_
  obtain ⟨h2, hF⟩ := o_i hF
  refine cs_get X hin0 hK hN hP h2 5 (by decide) (by decide) (by decide) (v := .int (z1.1 x1 5)) rfl dX1_passPoints_8 ?_
  refine lv_iconst (v := 1) hx hb dX1_passPoints_11 (by decide) ?_
  refine lv_icmp_ne (tgt := 23) hx hb dX1_passPoints_12 (by decide) (fun c3 => ?_) (fun c3 => ?_)
  · have hF := o_f c3 hF
    refine lv_aload_n hx hb dX1_passPoints_23 rfl (lv_at hl 2 rfl) ?_
    refine lv_iconst (v := 1) hx hb dX1_passPoints_24 (by decide) ?_
    obtain ⟨h4, hF⟩ := o_i hF
    refine cs_put X hin0 hK hN hP hD hS h4 5 (by decide) (by decide) (by decide) rfl dX1_passPoints_25 (fun H locs hP hD hS => ?_)
    obtain ⟨z4, e4, hF⟩ := o_l hF
    have hP : va_P G vwCl (cW a cy cyO z4) H := by rw [e4]; exact hP
    have hD : va_D A (cW a cy cyO z4) := by rw [e4]; exact hD
    refine lv_aload_n hx hb dX1_passPoints_28 rfl (lv_at hl 1 rfl) ?_
    refine lv_aload_n hx hb dX1_passPoints_29 rfl (lv_at hl 2 rfl) ?_
    refine lv_iload_n hx hb dX1_passPoints_30 rfl (lv_at hl 3 rfl) ?_
    obtain ⟨r5, z5, hG5, hF⟩ := o_b hF
    refine cl_V (C := RX1) (rest := []) X hK hN hA hP hD hS (kX1_passPlain l G cy cyO a z4 x1 x2 r5 z5 hG5) (cwV 2 hts gX1_passPoints_X1_passPlain rfl rfl rfl (by decide +kernel) ⟨Nat.le_of_ble_eq_true rfl, Nat.le_of_ble_eq_true rfl⟩) (va_recv hK hP (ci := 1) (q0 := 0) rfl rfl) rfl hl.1 rfl (Nat.le_of_ble_eq_true rfl) dX1_passPoints_31 ⟨Nat.zero_le _, Nat.zero_le _⟩ (fun H locs hP hD hS => ?_)
    refine W.eq (g2 := F0 m 34 ls [.int r5]) rfl ?_
    refine lv_istore_n (lv' := [(3, .int r5), (0, .ref (a 0)), (1, .ref x1), (2, .int x2)]) hx hb dX1_passPoints_34 rfl hl (by decide) rfl (fun ls hl => ?_)
    refine lv_aload_n hx hb dX1_passPoints_35 rfl (lv_at hl 1 rfl) ?_
    refine lv_aload_n hx hb dX1_passPoints_36 rfl (lv_at hl 2 rfl) ?_
    obtain ⟨r6, z6, hG6, hF⟩ := o_b hF
    refine cl_V (C := RX1) (rest := []) X hK hN hA hP hD hS (kX1_let l G cy cyO a z5 x1 r6 z6 hG6) (cwV 1 hts gX1_passPoints_X1_let rfl rfl rfl (by decide +kernel) ⟨Nat.le_of_ble_eq_true rfl, Nat.le_of_ble_eq_true rfl⟩) (va_recv hK hP (ci := 1) (q0 := 0) rfl rfl) rfl hl.1 rfl (Nat.le_of_ble_eq_true rfl) dX1_passPoints_37 ⟨Nat.zero_le _, Nat.zero_le _⟩ (fun H locs hP hD hS => ?_)
    refine W.eq (g2 := F0 m 40 ls []) rfl ?_
    refine lv_iload_n hx hb dX1_passPoints_40 rfl (lv_at hl 0 rfl) ?_
    obtain ⟨rfl, rfl⟩ := o_s hF
    exact rt_i X hr hlocks hP hD hS dX1_passPoints_41
  · have hF := o_t c3 hF
    refine lv_aload_n hx hb dX1_passPoints_15 rfl (lv_at hl 2 rfl) ?_
    refine lv_iconst (v := 0) hx hb dX1_passPoints_16 (by decide) ?_
    obtain ⟨h7, hF⟩ := o_i hF
    refine cs_put X hin0 hK hN hP hD hS h7 5 (by decide) (by decide) (by decide) rfl dX1_passPoints_17 (fun H locs hP hD hS => ?_)
    obtain ⟨z7, e7, hF⟩ := o_l hF
    have hP : va_P G vwCl (cW a cy cyO z7) H := by rw [e7]; exact hP
    have hD : va_D A (cW a cy cyO z7) := by rw [e7]; exact hD
    refine lv_goto (tgt := 35) hx hb dX1_passPoints_20 (by decide) ?_
    refine lv_aload_n hx hb dX1_passPoints_35 rfl (lv_at hl 1 rfl) ?_
    refine lv_aload_n hx hb dX1_passPoints_36 rfl (lv_at hl 2 rfl) ?_
    obtain ⟨r8, z8, hG8, hF⟩ := o_b hF
    refine cl_V (C := RX1) (rest := []) X hK hN hA hP hD hS (kX1_let l G cy cyO a z7 x1 r8 z8 hG8) (cwV 1 hts gX1_passPoints_X1_let rfl rfl rfl (by decide +kernel) ⟨Nat.le_of_ble_eq_true rfl, Nat.le_of_ble_eq_true rfl⟩) (va_recv hK hP (ci := 1) (q0 := 0) rfl rfl) rfl hl.1 rfl (Nat.le_of_ble_eq_true rfl) dX1_passPoints_37 ⟨Nat.zero_le _, Nat.zero_le _⟩ (fun H locs hP hD hS => ?_)
    refine W.eq (g2 := F0 m 40 ls []) rfl ?_
    refine lv_iload_n hx hb dX1_passPoints_40 rfl (lv_at hl 0 rfl) ?_
    obtain ⟨rfl, rfl⟩ := o_s hF
    exact rt_i X hr hlocks hP hD hS dX1_passPoints_41
def fX1_passBridge (z0 : SC) (x1 : Nat) (x2 : Int32) : Option (Int32 × SC) := bd_ (fX1_claim z0 x1) (fun r1 z1 => if x1 ∈ z1.2.1 then (if (z1.1 x1 3) < x2 then bd_ (fX1_let z1 x1) (fun r4 z4 => some (2, z4)) else bd_ (fX1_passPoints z1 x1 x2) (fun r5 z5 => (if r5 = 0 then if x1 ∈ z5.2.1 then if x1 ∈ z5.2.1 then let_ ((setS z5.1 x1 3 ((z5.1 x1 3) - 1), z5.2) : SC) (fun z9 => bd_ (fX1_let z9 x1) (fun r10 z10 => some (r5, z10))) else none else none else bd_ (fX1_let z5 x1) (fun r7 z7 => some (r5, z7))))) else none)
set_option maxRecDepth 100000 in
set_option maxHeartbeats 4000000 in
theorem kX1_passBridge (l : Launch) (G : va_G) (cy cyO : ClassId) (a : Nat → Nat) (z0 : SC) (x1 : Nat) (x2 : Int32) (r : Int32) (u : SC) (hF : fX1_passBridge z0 x1 x2 = some (r, u)) : Ct l G (tys_ cy cyO) yX1_passBridge wsX1_passBridge ({ frames := 3, cells := 0, slots := 0, locals := 67 } : Room) [.ref (a 0), .ref x1, .int x2] (cW a cy cyO z0) (some (.int r)) (cW a cy cyO u) := by
  unfold fX1_passBridge at hF
  refine ct_of (cc := cX1_passBridge) (maxL := 4) (ret := (some .int)) (own := RX1) (by decide) rfl (Nat.le_of_ble_eq_true rfl) rfl ?_
  intro p e s m below meth c A ls X hr hlocks _ hK hN hA hP hD hl
  have hS : va_S A s.heap s.heap [] := va_S.rf
  have hl : lv_has ls 4 [(0, .ref (a 0)), (1, .ref x1), (2, .int x2)] := hl
  obtain ⟨hx, hb, hml, hown, hts⟩ := id X
  have hin1 : ∀ w ∈ wsX10, w ∈ wsX1_passBridge := by decide +kernel
  have hin0 : ∀ w ∈ wsX00, w ∈ wsX1_passBridge := by decide +kernel
  refine lv_aload_n hx hb dX1_passBridge_0 rfl (lv_at hl 0 rfl) ?_
  refine lv_aload_n hx hb dX1_passBridge_1 rfl (lv_at hl 1 rfl) ?_
  obtain ⟨r1, z1, hG1, hF⟩ := o_b hF
  refine cl_V (C := RX1) (rest := []) X hK hN hA hP hD hS (kX1_claim l G cy cyO a z0 x1 r1 z1 hG1) (cwV 1 hts gX1_passBridge_X1_claim rfl rfl rfl (by decide +kernel) ⟨Nat.le_of_ble_eq_true rfl, Nat.le_of_ble_eq_true rfl⟩) (va_recv hK hP (ci := 1) (q0 := 0) rfl rfl) rfl hl.1 rfl (Nat.le_of_ble_eq_true rfl) dX1_passBridge_2 ⟨Nat.zero_le _, Nat.zero_le _⟩ (fun H locs hP hD hS => ?_)
  refine W.eq (g2 := F0 m 5 ls []) rfl ?_
  refine lv_iconst (v := 2) hx hb dX1_passBridge_5 (by decide) ?_
  refine lv_istore_n (lv' := [(3, .int 2), (0, .ref (a 0)), (1, .ref x1), (2, .int x2)]) hx hb dX1_passBridge_6 rfl hl (by decide) rfl (fun ls hl => ?_)
  refine lv_iload_n hx hb dX1_passBridge_7 rfl (lv_at hl 3 rfl) ?_
  refine lv_aload_n hx hb dX1_passBridge_8 rfl (lv_at hl 2 rfl) ?_
  obtain ⟨h2, hF⟩ := o_i hF
  refine cs_get X hin0 hK hN hP h2 3 (by decide) (by decide) (by decide) (v := .int (z1.1 x1 3)) rfl dX1_passBridge_9 ?_
  refine lv_icmp_gt (tgt := 36) hx hb dX1_passBridge_12 (by decide) (fun c3 => ?_) (fun c3 => ?_)
  · have hF := o_t c3 hF
    refine lv_aload_n hx hb dX1_passBridge_36 rfl (lv_at hl 1 rfl) ?_
    refine lv_aload_n hx hb dX1_passBridge_37 rfl (lv_at hl 2 rfl) ?_
    obtain ⟨r4, z4, hG4, hF⟩ := o_b hF
    refine cl_V (C := RX1) (rest := []) X hK hN hA hP hD hS (kX1_let l G cy cyO a z1 x1 r4 z4 hG4) (cwV 1 hts gX1_passBridge_X1_let rfl rfl rfl (by decide +kernel) ⟨Nat.le_of_ble_eq_true rfl, Nat.le_of_ble_eq_true rfl⟩) (va_recv hK hP (ci := 1) (q0 := 0) rfl rfl) rfl hl.1 rfl (Nat.le_of_ble_eq_true rfl) dX1_passBridge_38 ⟨Nat.zero_le _, Nat.zero_le _⟩ (fun H locs hP hD hS => ?_)
    refine W.eq (g2 := F0 m 41 ls []) rfl ?_
    refine lv_iload_n hx hb dX1_passBridge_41 rfl (lv_at hl 0 rfl) ?_
    obtain ⟨rfl, rfl⟩ := o_s hF
    exact rt_i X hr hlocks hP hD hS dX1_passBridge_42
  · have hF := o_f c3 hF
    refine lv_aload_n hx hb dX1_passBridge_15 rfl (lv_at hl 1 rfl) ?_
    refine lv_aload_n hx hb dX1_passBridge_16 rfl (lv_at hl 2 rfl) ?_
    refine lv_iload_n hx hb dX1_passBridge_17 rfl (lv_at hl 3 rfl) ?_
    obtain ⟨r5, z5, hG5, hF⟩ := o_b hF
    refine cl_V (C := RX1) (rest := []) X hK hN hA hP hD hS (kX1_passPoints l G cy cyO a z1 x1 x2 r5 z5 hG5) (cwV 2 hts gX1_passBridge_X1_passPoints rfl rfl rfl (by decide +kernel) ⟨Nat.le_of_ble_eq_true rfl, Nat.le_of_ble_eq_true rfl⟩) (va_recv hK hP (ci := 1) (q0 := 0) rfl rfl) rfl hl.1 rfl (Nat.le_of_ble_eq_true rfl) dX1_passBridge_18 ⟨Nat.zero_le _, Nat.zero_le _⟩ (fun H locs hP hD hS => ?_)
    refine W.eq (g2 := F0 m 21 ls [.int r5]) rfl ?_
    refine lv_istore_n (lv' := [(3, .int r5), (0, .ref (a 0)), (1, .ref x1), (2, .int x2)]) hx hb dX1_passBridge_21 rfl hl (by decide) rfl (fun ls hl => ?_)
    refine lv_iload_n hx hb dX1_passBridge_22 rfl (lv_at hl 0 rfl) ?_
    refine lv_if_ne (tgt := 36) hx hb dX1_passBridge_23 (by decide) (fun c6 => ?_) (fun c6 => ?_)
    · have hF := o_f c6 hF
      refine lv_aload_n hx hb dX1_passBridge_36 rfl (lv_at hl 1 rfl) ?_
      refine lv_aload_n hx hb dX1_passBridge_37 rfl (lv_at hl 2 rfl) ?_
      obtain ⟨r7, z7, hG7, hF⟩ := o_b hF
      refine cl_V (C := RX1) (rest := []) X hK hN hA hP hD hS (kX1_let l G cy cyO a z5 x1 r7 z7 hG7) (cwV 1 hts gX1_passBridge_X1_let rfl rfl rfl (by decide +kernel) ⟨Nat.le_of_ble_eq_true rfl, Nat.le_of_ble_eq_true rfl⟩) (va_recv hK hP (ci := 1) (q0 := 0) rfl rfl) rfl hl.1 rfl (Nat.le_of_ble_eq_true rfl) dX1_passBridge_38 ⟨Nat.zero_le _, Nat.zero_le _⟩ (fun H locs hP hD hS => ?_)
      refine W.eq (g2 := F0 m 41 ls []) rfl ?_
      refine lv_iload_n hx hb dX1_passBridge_41 rfl (lv_at hl 0 rfl) ?_
      obtain ⟨rfl, rfl⟩ := o_s hF
      exact rt_i X hr hlocks hP hD hS dX1_passBridge_42
    · have hF := o_t c6 hF
      refine lv_aload_n hx hb dX1_passBridge_26 rfl (lv_at hl 2 rfl) ?_
      refine lv_dup hx hb dX1_passBridge_27 rfl ?_
      obtain ⟨h8, hF⟩ := o_i hF
      refine cs_get X hin0 hK hN hP h8 3 (by decide) (by decide) (by decide) (v := .int (z5.1 x1 3)) rfl dX1_passBridge_28 ?_
      refine lv_iconst (v := 1) hx hb dX1_passBridge_31 (by decide) ?_
      refine lv_isub hx hb dX1_passBridge_32 ?_
      obtain ⟨h9, hF⟩ := o_i hF
      refine cs_put X hin0 hK hN hP hD hS h9 3 (by decide) (by decide) (by decide) rfl dX1_passBridge_33 (fun H locs hP hD hS => ?_)
      obtain ⟨z9, e9, hF⟩ := o_l hF
      have hP : va_P G vwCl (cW a cy cyO z9) H := by rw [e9]; exact hP
      have hD : va_D A (cW a cy cyO z9) := by rw [e9]; exact hD
      refine lv_aload_n hx hb dX1_passBridge_36 rfl (lv_at hl 1 rfl) ?_
      refine lv_aload_n hx hb dX1_passBridge_37 rfl (lv_at hl 2 rfl) ?_
      obtain ⟨r10, z10, hG10, hF⟩ := o_b hF
      refine cl_V (C := RX1) (rest := []) X hK hN hA hP hD hS (kX1_let l G cy cyO a z9 x1 r10 z10 hG10) (cwV 1 hts gX1_passBridge_X1_let rfl rfl rfl (by decide +kernel) ⟨Nat.le_of_ble_eq_true rfl, Nat.le_of_ble_eq_true rfl⟩) (va_recv hK hP (ci := 1) (q0 := 0) rfl rfl) rfl hl.1 rfl (Nat.le_of_ble_eq_true rfl) dX1_passBridge_38 ⟨Nat.zero_le _, Nat.zero_le _⟩ (fun H locs hP hD hS => ?_)
      refine W.eq (g2 := F0 m 41 ls []) rfl ?_
      refine lv_iload_n hx hb dX1_passBridge_41 rfl (lv_at hl 0 rfl) ?_
      obtain ⟨rfl, rfl⟩ := o_s hF
      exact rt_i X hr hlocks hP hD hS dX1_passBridge_42
def fX1_pass_j59 (z0 : SC) (y3 : Int32) : Option (Int32 × SC) := (if y3 = 0 then let_ ((z0.1, z0.2.1, z0.2.2.1, z0.2.2.2.1, z0.2.2.2.2.1, z0.2.2.2.2.2.1, z0.2.2.2.2.2.2.1, z0.2.2.2.2.2.2.2.1, z0.2.2.2.2.2.2.2.2.1, z0.2.2.2.2.2.2.2.2.2.1, z0.2.2.2.2.2.2.2.2.2.2.1, (z0.2.2.2.2.2.2.2.2.2.2.2 + 1)) : SC) (fun z2 => some (y3, z2)) else some (y3, z0))
set_option maxRecDepth 100000 in
set_option maxHeartbeats 4000000 in
theorem jX1_pass_59 {p : Program} {l : Launch} {e : Env} {s : State} {m : MethodId} {args : Array Value} {below : List Frame} {meth : Method} {c : Code} {G : va_G} {cy cyO : ClassId} {a : Nat → Nat} {A : Nat → Prop} {r : Int32} {u : SC} (X : CallFix p m c cX1_pass 4 s args wsX1_pass RX1) (hr : meth.sig.returnType = (some .int)) (hlocks : meth.locks = false) (hK : va_K G vwCl (tys_ cy cyO) s) (hN : nw s) (hA : ∀ q, s.heap.size ≤ q → A q) : ∀ (z0 : SC) (y3 : Int32), fX1_pass_j59 z0 y3 = some (r, u) → ∀ (H : Heap) (locs : List Loc), va_P G vwCl (cW a cy cyO z0) H → va_D A (cW a cy cyO z0) → va_S A s.heap H locs → ∀ (ls : Array Slot), lv_has ls 4 [(0, .ref (a 0)), (3, .int y3)] → W p l e ({ frames := 4, cells := 0, slots := 0, locals := 90 } : Room) s m args below meth c H locs 0 0 (MQ below (qg (some (.int r)) (fun t => wPost G A (cW a cy cyO u) t) A) args s 0 0 A) (F0 m 59 ls []) := by
  obtain ⟨hx, hb, hml, hown, hts⟩ := id X
  have hin1 : ∀ w ∈ wsX10, w ∈ wsX1_pass := by decide +kernel
  have hin0 : ∀ w ∈ wsX00, w ∈ wsX1_pass := by decide +kernel
  intro z0 y3 hF H locs hP hD hS ls hl
  unfold fX1_pass_j59 at hF
  refine lv_iload_n hx hb dX1_pass_59 rfl (lv_at hl 1 rfl) ?_
  refine lv_if_ne (tgt := 73) hx hb dX1_pass_60 (by decide) (fun c1 => ?_) (fun c1 => ?_)
  · have hF := o_f c1 hF
    refine lv_iload_n hx hb dX1_pass_73 rfl (lv_at hl 1 rfl) ?_
    obtain ⟨rfl, rfl⟩ := o_s hF
    exact rt_i X hr hlocks hP hD hS dX1_pass_74
  · have hF := o_t c1 hF
    refine lv_aload_n hx hb dX1_pass_63 rfl (lv_at hl 0 rfl) ?_
    refine lv_dup hx hb dX1_pass_64 rfl ?_
    refine va_get (D := G) (ci := 1) (v := .int z0.2.2.2.2.2.2.2.2.2.2.2) (C := RX1) (T := TX1) (N := 10) hx hb hts hin1 hown hK hP 0 rfl rfl 9 (by decide) (hts (.fieldLink RX1 51 "SignalBox" "passed" "I") (by decide +kernel)) (fun _ h9 => h9) rfl dX1_pass_65 ?_
    refine lv_iconst (v := 1) hx hb dX1_pass_68 (by decide) ?_
    refine lv_iadd hx hb dX1_pass_69 ?_
    refine va_put (D := G) (ci := 1) (v := .int (z0.2.2.2.2.2.2.2.2.2.2.2 + 1)) (ty := .int) (C := RX1) (T := TX1) (N := 10) hx hb hts hin1 tyX1 tyX1_ok nmX1 hown hK hP hD hS 0 rfl rfl 9 (by decide) (hts (.fieldLink RX1 51 "SignalBox" "passed" "I") (by decide +kernel)) (fun _ h9 => h9) rfl (by decide +kernel) rfl rfl (Nat.le_of_ble_eq_true rfl) dX1_pass_70 (fun H locs hP hD hS => ?_)
    obtain ⟨z2, e2, hF⟩ := o_l hF
    have hP : va_P G vwCl (cW a cy cyO z2) H := by rw [e2]; exact hP
    have hD : va_D A (cW a cy cyO z2) := by rw [e2]; exact hD
    refine lv_iload_n hx hb dX1_pass_73 rfl (lv_at hl 1 rfl) ?_
    obtain ⟨rfl, rfl⟩ := o_s hF
    exact rt_i X hr hlocks hP hD hS dX1_pass_74
def fX1_pass (z0 : SC) (x1 : Nat) (x2 : Int32) : Option (Int32 × SC) := if x1 ∈ z0.2.1 then (if (z0.1 x1 1) = 1 then bd_ (fX1_passPoints z0 x1 x2) (fun r4 z4 => (fX1_pass_j59 z4 r4)) else (if (z0.1 x1 1) = 2 then bd_ (fX1_passBridge z0 x1 x2) (fun r5 z5 => (fX1_pass_j59 z5 r5)) else bd_ (fX1_passPlain z0 x1 x2) (fun r6 z6 => (fX1_pass_j59 z6 r6)))) else none
set_option maxRecDepth 100000 in
set_option maxHeartbeats 4000000 in
theorem kX1_pass (l : Launch) (G : va_G) (cy cyO : ClassId) (a : Nat → Nat) (z0 : SC) (x1 : Nat) (x2 : Int32) (r : Int32) (u : SC) (hF : fX1_pass z0 x1 x2 = some (r, u)) : Ct l G (tys_ cy cyO) yX1_pass wsX1_pass ({ frames := 4, cells := 0, slots := 0, locals := 90 } : Room) [.ref (a 0), .ref x1, .int x2] (cW a cy cyO z0) (some (.int r)) (cW a cy cyO u) := by
  unfold fX1_pass at hF
  refine ct_of (cc := cX1_pass) (maxL := 4) (ret := (some .int)) (own := RX1) (by decide) rfl (Nat.le_of_ble_eq_true rfl) rfl ?_
  intro p e s m below meth c A ls X hr hlocks _ hK hN hA hP hD hl
  have hS : va_S A s.heap s.heap [] := va_S.rf
  have hl : lv_has ls 4 [(0, .ref (a 0)), (1, .ref x1), (2, .int x2)] := hl
  obtain ⟨hx, hb, hml, hown, hts⟩ := id X
  have hin1 : ∀ w ∈ wsX10, w ∈ wsX1_pass := by decide +kernel
  have hin0 : ∀ w ∈ wsX00, w ∈ wsX1_pass := by decide +kernel
  refine lv_aload_n hx hb dX1_pass_0 rfl (lv_at hl 1 rfl) ?_
  obtain ⟨h1, hF⟩ := o_i hF
  refine cs_get X hin0 hK hN hP h1 1 (by decide) (by decide) (by decide) (v := .int (z0.1 x1 1)) rfl dX1_pass_1 ?_
  by_cases c2 : (z0.1 x1 1) = 1
  · have hF := o_t c2 hF
    refine lv_lookup (off := 38) (tgt := 42) hx hb dX1_pass_4 (by decide) (by rw [c2]; rfl) (by decide) ?_
    refine lv_aload_n hx hb dX1_pass_42 rfl (lv_at hl 0 rfl) ?_
    refine lv_aload_n hx hb dX1_pass_43 rfl (lv_at hl 1 rfl) ?_
    refine lv_iload_n hx hb dX1_pass_44 rfl (lv_at hl 2 rfl) ?_
    obtain ⟨r4, z4, hG4, hF⟩ := o_b hF
    refine cl_V (C := RX1) (rest := []) X hK hN hA hP hD hS (kX1_passPoints l G cy cyO a z0 x1 x2 r4 z4 hG4) (cwV 2 hts gX1_pass_X1_passPoints rfl rfl rfl (by decide +kernel) ⟨Nat.le_of_ble_eq_true rfl, Nat.le_of_ble_eq_true rfl⟩) (va_recv hK hP (ci := 1) (q0 := 0) rfl rfl) rfl hl.1 rfl (Nat.le_of_ble_eq_true rfl) dX1_pass_45 ⟨Nat.zero_le _, Nat.zero_le _⟩ (fun H locs hP hD hS => ?_)
    refine W.eq (g2 := F0 m 48 ls [.int r4]) rfl ?_
    refine lv_istore_n (lv' := [(3, .int r4), (0, .ref (a 0)), (1, .ref x1), (2, .int x2)]) hx hb dX1_pass_48 rfl hl (by decide) rfl (fun ls hl => ?_)
    refine lv_goto (tgt := 59) hx hb dX1_pass_49 (by decide) ?_
    exact jX1_pass_59 X hr hlocks hK hN hA z4 r4 hF H locs hP hD hS ls (lv_sub hl [1, 0] rfl)
  · have hF := o_f c2 hF
    by_cases c3 : (z0.1 x1 1) = 2
    · have hF := o_t c3 hF
      refine lv_lookup (off := 28) (tgt := 32) hx hb dX1_pass_4 (by decide) (by rw [c3]; rfl) (by decide) ?_
      refine lv_aload_n hx hb dX1_pass_32 rfl (lv_at hl 0 rfl) ?_
      refine lv_aload_n hx hb dX1_pass_33 rfl (lv_at hl 1 rfl) ?_
      refine lv_iload_n hx hb dX1_pass_34 rfl (lv_at hl 2 rfl) ?_
      obtain ⟨r5, z5, hG5, hF⟩ := o_b hF
      refine cl_V (C := RX1) (rest := []) X hK hN hA hP hD hS (kX1_passBridge l G cy cyO a z0 x1 x2 r5 z5 hG5) (cwV 2 hts gX1_pass_X1_passBridge rfl rfl rfl (by decide +kernel) ⟨Nat.le_of_ble_eq_true rfl, Nat.le_of_ble_eq_true rfl⟩) (va_recv hK hP (ci := 1) (q0 := 0) rfl rfl) rfl hl.1 rfl (Nat.le_of_ble_eq_true rfl) dX1_pass_35 ⟨Nat.zero_le _, Nat.zero_le _⟩ (fun H locs hP hD hS => ?_)
      refine W.eq (g2 := F0 m 38 ls [.int r5]) rfl ?_
      refine lv_istore_n (lv' := [(3, .int r5), (0, .ref (a 0)), (1, .ref x1), (2, .int x2)]) hx hb dX1_pass_38 rfl hl (by decide) rfl (fun ls hl => ?_)
      refine lv_goto (tgt := 59) hx hb dX1_pass_39 (by decide) ?_
      exact jX1_pass_59 X hr hlocks hK hN hA z5 r5 hF H locs hP hD hS ls (lv_sub hl [1, 0] rfl)
    · have hF := o_f c3 hF
      refine lv_lookup (off := 48) (tgt := 52) hx hb dX1_pass_4 (by decide) (by refine (lv_osw c2 rfl).trans ?_; refine (lv_osw c3 rfl).trans ?_; rfl) (by decide) ?_
      refine lv_aload_n hx hb dX1_pass_52 rfl (lv_at hl 0 rfl) ?_
      refine lv_aload_n hx hb dX1_pass_53 rfl (lv_at hl 1 rfl) ?_
      refine lv_iload_n hx hb dX1_pass_54 rfl (lv_at hl 2 rfl) ?_
      obtain ⟨r6, z6, hG6, hF⟩ := o_b hF
      refine cl_V (C := RX1) (rest := []) X hK hN hA hP hD hS (kX1_passPlain l G cy cyO a z0 x1 x2 r6 z6 hG6) (cwV 2 hts gX1_pass_X1_passPlain rfl rfl rfl (by decide +kernel) ⟨Nat.le_of_ble_eq_true rfl, Nat.le_of_ble_eq_true rfl⟩) (va_recv hK hP (ci := 1) (q0 := 0) rfl rfl) rfl hl.1 rfl (Nat.le_of_ble_eq_true rfl) dX1_pass_55 ⟨Nat.zero_le _, Nat.zero_le _⟩ (fun H locs hP hD hS => ?_)
      refine W.eq (g2 := F0 m 58 ls [.int r6]) rfl ?_
      refine lv_istore_n (lv' := [(3, .int r6), (0, .ref (a 0)), (1, .ref x1), (2, .int x2)]) hx hb dX1_pass_58 rfl hl (by decide) rfl (fun ls hl => ?_)
      exact jX1_pass_59 X hr hlocks hK hN hA z6 r6 hF H locs hP hD hS ls (lv_sub hl [1, 0] rfl)
def fX1_sectionOn (z0 : SC) (x1 : Int32) (x2 : Int32) : Option (Option Nat × SC) := if ((x1 * 8) + x2) < 0 ∨ 48 ≤ ((x1 * 8) + x2).toNatClampNeg then none else let_ (z0.2.2.2.1 ((x1 * 8) + x2).toNatClampNeg) (fun v1 => if v1 < 0 ∨ 12 ≤ v1.toNatClampNeg then none else (opt_ (z0.2.2.1 v1.toNatClampNeg) (some (none, z0)) (fun b2 => some ((some b2), z0))))
set_option maxRecDepth 100000 in
set_option maxHeartbeats 4000000 in
theorem kX1_sectionOn (l : Launch) (G : va_G) (cy cyO : ClassId) (a : Nat → Nat) (z0 : SC) (x1 : Int32) (x2 : Int32) (r : Option Nat) (u : SC) (hF : fX1_sectionOn z0 x1 x2 = some (r, u)) : Ct l G (tys_ cy cyO) yX1_sectionOn wsX1_sectionOn ({ frames := 0, cells := 0, slots := 0, locals := 0 } : Room) [.ref (a 0), .int x1, .int x2] (cW a cy cyO z0) (some (va_rf r)) (cW a cy cyO u) := by
  unfold fX1_sectionOn at hF
  refine ct_of (cc := cX1_sectionOn) (maxL := 3) (ret := (some (.object "SignalBox$Section"))) (own := RX1) (by decide) rfl (Nat.le_of_ble_eq_true rfl) rfl ?_
  intro p e s m below meth c A ls X hr hlocks _ hK hN hA hP hD hl
  have hS : va_S A s.heap s.heap [] := va_S.rf
  have hl : lv_has ls 3 [(0, .ref (a 0)), (1, .int x1), (2, .int x2)] := hl
  obtain ⟨hx, hb, hml, hown, hts⟩ := id X
  have hin1 : ∀ w ∈ wsX10, w ∈ wsX1_sectionOn := by decide +kernel
  refine lv_aload_n hx hb dX1_sectionOn_0 rfl (lv_at hl 0 rfl) ?_
  refine va_get (D := G) (ci := 1) (v := .ref (a 1)) (C := RX1) (T := TX1) (N := 10) hx hb hts hin1 hown hK hP 0 rfl rfl 0 (by decide) (hts (.fieldLink RX1 11 "SignalBox" "standing" "[LSignalBox$Section;") (by decide +kernel)) (fun _ h9 => h9) rfl dX1_sectionOn_1 ?_
  refine lv_aload_n hx hb dX1_sectionOn_4 rfl (lv_at hl 0 rfl) ?_
  refine va_get (D := G) (ci := 1) (v := .ref (a 2)) (C := RX1) (T := TX1) (N := 10) hx hb hts hin1 hown hK hP 0 rfl rfl 1 (by decide) (hts (.fieldLink RX1 15 "SignalBox" "routePlaces" "[I") (by decide +kernel)) (fun _ h9 => h9) rfl dX1_sectionOn_5 ?_
  refine lv_iload_n hx hb dX1_sectionOn_8 rfl (lv_at hl 1 rfl) ?_
  refine lv_bipush (v := 8) hx hb dX1_sectionOn_9 (by decide) ?_
  refine lv_imul hx hb dX1_sectionOn_11 ?_
  refine lv_iload_n hx hb dX1_sectionOn_12 rfl (lv_at hl 2 rfl) ?_
  refine lv_iadd hx hb dX1_sectionOn_13 ?_
  obtain ⟨h1, hF⟩ := o_n hF
  refine va_iald (n := 48) (f := z0.2.2.2.1) (cA := cy) hx hb hK hP 2 0 rfl rfl h1 dX1_sectionOn_14 ?_
  obtain ⟨v1, e1, hF⟩ := o_l hF
  refine w_top e1 ?_
  obtain ⟨h2, hF⟩ := o_n hF
  refine va_aldq (n := 12) (f := z0.2.2.1) (cA := cyO) (C := RX0) hx hb hK hP 1 1 rfl rfl h2 dX1_sectionOn_15 ?_
  rcases ho2 : z0.2.2.1 v1.toNatClampNeg with _ | b2
  · have hF := o_mn ho2 hF
    refine w_none rfl ?_
    obtain ⟨rfl, rfl⟩ := o_s hF
    exact rt_a (o := none) X hr hlocks hP hD hS dX1_sectionOn_16
  · have hF := o_ms ho2 hF
    refine w_some rfl ?_
    obtain ⟨rfl, rfl⟩ := o_s hF
    exact rt_a (o := (some b2)) X hr hlocks hP hD hS dX1_sectionOn_16
def fX1_answerTo (z0 : SC) (x1 : Int32) (x2 : Int32) : Option (Int32 × SC) := (if 0 ≤ x1 then (if x1 = 2 then some (((-100) - x2), z0) else some (z0.2.2.2.2.2.2.2.2.2.2.2, z0)) else some (x1, z0))
set_option maxRecDepth 100000 in
set_option maxHeartbeats 4000000 in
theorem kX1_answerTo (l : Launch) (G : va_G) (cy cyO : ClassId) (a : Nat → Nat) (z0 : SC) (x1 : Int32) (x2 : Int32) (r : Int32) (u : SC) (hF : fX1_answerTo z0 x1 x2 = some (r, u)) : Ct l G (tys_ cy cyO) yX1_answerTo wsX1_answerTo ({ frames := 0, cells := 0, slots := 0, locals := 0 } : Room) [.ref (a 0), .int x1, .int x2] (cW a cy cyO z0) (some (.int r)) (cW a cy cyO u) := by
  unfold fX1_answerTo at hF
  refine ct_of (cc := cX1_answerTo) (maxL := 3) (ret := (some .int)) (own := RX1) (by decide) rfl (Nat.le_of_ble_eq_true rfl) rfl ?_
  intro p e s m below meth c A ls X hr hlocks _ hK hN hA hP hD hl
  have hS : va_S A s.heap s.heap [] := va_S.rf
  have hl : lv_has ls 3 [(0, .ref (a 0)), (1, .int x1), (2, .int x2)] := hl
  obtain ⟨hx, hb, hml, hown, hts⟩ := id X
  have hin1 : ∀ w ∈ wsX10, w ∈ wsX1_answerTo := by decide +kernel
  refine lv_iload_n hx hb dX1_answerTo_0 rfl (lv_at hl 1 rfl) ?_
  refine lv_if_ge (tgt := 6) hx hb dX1_answerTo_1 (by decide) (fun c1 => ?_) (fun c1 => ?_)
  · have hF := o_t c1 hF
    refine lv_iload_n hx hb dX1_answerTo_6 rfl (lv_at hl 1 rfl) ?_
    refine lv_iconst (v := 2) hx hb dX1_answerTo_7 (by decide) ?_
    refine lv_icmp_ne (tgt := 18) hx hb dX1_answerTo_8 (by decide) (fun c2 => ?_) (fun c2 => ?_)
    · have hF := o_f c2 hF
      refine lv_aload_n hx hb dX1_answerTo_18 rfl (lv_at hl 0 rfl) ?_
      refine va_get (D := G) (ci := 1) (v := .int z0.2.2.2.2.2.2.2.2.2.2.2) (C := RX1) (T := TX1) (N := 10) hx hb hts hin1 hown hK hP 0 rfl rfl 9 (by decide) (hts (.fieldLink RX1 51 "SignalBox" "passed" "I") (by decide +kernel)) (fun _ h9 => h9) rfl dX1_answerTo_19 ?_
      obtain ⟨rfl, rfl⟩ := o_s hF
      exact rt_i X hr hlocks hP hD hS dX1_answerTo_22
    · have hF := o_t c2 hF
      refine lv_bipush (v := (-100)) hx hb dX1_answerTo_11 (by decide) ?_
      refine lv_iload_n hx hb dX1_answerTo_13 rfl (lv_at hl 2 rfl) ?_
      refine lv_isub hx hb dX1_answerTo_14 ?_
      refine lv_goto (tgt := 22) hx hb dX1_answerTo_15 (by decide) ?_
      obtain ⟨rfl, rfl⟩ := o_s hF
      exact rt_i X hr hlocks hP hD hS dX1_answerTo_22
  · have hF := o_f c1 hF
    refine lv_iload_n hx hb dX1_answerTo_4 rfl (lv_at hl 1 rfl) ?_
    obtain ⟨rfl, rfl⟩ := o_s hF
    exact rt_i X hr hlocks hP hD hS dX1_answerTo_5
def fX1_counted_j16 (z0 : SC) (y1 : Int32) : Option (Int32 × SC) := (if y1 = (-30) then let_ ((z0.1, z0.2.1, z0.2.2.1, z0.2.2.2.1, z0.2.2.2.2.1, z0.2.2.2.2.2.1, z0.2.2.2.2.2.2.1, z0.2.2.2.2.2.2.2.1, z0.2.2.2.2.2.2.2.2.1, z0.2.2.2.2.2.2.2.2.2.1, (z0.2.2.2.2.2.2.2.2.2.2.1 + 1), z0.2.2.2.2.2.2.2.2.2.2.2) : SC) (fun z2 => some (y1, z2)) else some (y1, z0))
set_option maxRecDepth 100000 in
set_option maxHeartbeats 4000000 in
theorem jX1_counted_16 {p : Program} {l : Launch} {e : Env} {s : State} {m : MethodId} {args : Array Value} {below : List Frame} {meth : Method} {c : Code} {G : va_G} {cy cyO : ClassId} {a : Nat → Nat} {A : Nat → Prop} {r : Int32} {u : SC} (X : CallFix p m c cX1_counted 2 s args wsX1_counted RX1) (hr : meth.sig.returnType = (some .int)) (hlocks : meth.locks = false) (hK : va_K G vwCl (tys_ cy cyO) s) (hN : nw s) (hA : ∀ q, s.heap.size ≤ q → A q) : ∀ (z0 : SC) (y1 : Int32), fX1_counted_j16 z0 y1 = some (r, u) → ∀ (H : Heap) (locs : List Loc), va_P G vwCl (cW a cy cyO z0) H → va_D A (cW a cy cyO z0) → va_S A s.heap H locs → ∀ (ls : Array Slot), lv_has ls 2 [(0, .ref (a 0)), (1, .int y1)] → W p l e ({ frames := 0, cells := 0, slots := 0, locals := 0 } : Room) s m args below meth c H locs 0 0 (MQ below (qg (some (.int r)) (fun t => wPost G A (cW a cy cyO u) t) A) args s 0 0 A) (F0 m 16 ls []) := by
  obtain ⟨hx, hb, hml, hown, hts⟩ := id X
  have hin1 : ∀ w ∈ wsX10, w ∈ wsX1_counted := by decide +kernel
  intro z0 y1 hF H locs hP hD hS ls hl
  unfold fX1_counted_j16 at hF
  refine lv_iload_n hx hb dX1_counted_16 rfl (lv_at hl 1 rfl) ?_
  refine lv_bipush (v := (-30)) hx hb dX1_counted_17 (by decide) ?_
  refine lv_icmp_ne (tgt := 32) hx hb dX1_counted_19 (by decide) (fun c1 => ?_) (fun c1 => ?_)
  · have hF := o_f c1 hF
    refine lv_iload_n hx hb dX1_counted_32 rfl (lv_at hl 1 rfl) ?_
    obtain ⟨rfl, rfl⟩ := o_s hF
    exact rt_i X hr hlocks hP hD hS dX1_counted_33
  · have hF := o_t c1 hF
    refine lv_aload_n hx hb dX1_counted_22 rfl (lv_at hl 0 rfl) ?_
    refine lv_dup hx hb dX1_counted_23 rfl ?_
    refine va_get (D := G) (ci := 1) (v := .int z0.2.2.2.2.2.2.2.2.2.2.1) (C := RX1) (T := TX1) (N := 10) hx hb hts hin1 hown hK hP 0 rfl rfl 8 (by decide) (hts (.fieldLink RX1 117 "SignalBox" "fullFailures" "I") (by decide +kernel)) (fun _ h9 => h9) rfl dX1_counted_24 ?_
    refine lv_iconst (v := 1) hx hb dX1_counted_27 (by decide) ?_
    refine lv_iadd hx hb dX1_counted_28 ?_
    refine va_put (D := G) (ci := 1) (v := .int (z0.2.2.2.2.2.2.2.2.2.2.1 + 1)) (ty := .int) (C := RX1) (T := TX1) (N := 10) hx hb hts hin1 tyX1 tyX1_ok nmX1 hown hK hP hD hS 0 rfl rfl 8 (by decide) (hts (.fieldLink RX1 117 "SignalBox" "fullFailures" "I") (by decide +kernel)) (fun _ h9 => h9) rfl (by decide +kernel) rfl rfl (Nat.le_of_ble_eq_true rfl) dX1_counted_29 (fun H locs hP hD hS => ?_)
    obtain ⟨z2, e2, hF⟩ := o_l hF
    have hP : va_P G vwCl (cW a cy cyO z2) H := by rw [e2]; exact hP
    have hD : va_D A (cW a cy cyO z2) := by rw [e2]; exact hD
    refine lv_iload_n hx hb dX1_counted_32 rfl (lv_at hl 1 rfl) ?_
    obtain ⟨rfl, rfl⟩ := o_s hF
    exact rt_i X hr hlocks hP hD hS dX1_counted_33
def fX1_counted (z0 : SC) (x1 : Int32) : Option (Int32 × SC) := (if x1 = (-11) then let_ ((z0.1, z0.2.1, z0.2.2.1, z0.2.2.2.1, z0.2.2.2.2.1, z0.2.2.2.2.2.1, z0.2.2.2.2.2.2.1, z0.2.2.2.2.2.2.2.1, z0.2.2.2.2.2.2.2.2.1, (z0.2.2.2.2.2.2.2.2.2.1 + 1), z0.2.2.2.2.2.2.2.2.2.2) : SC) (fun z2 => (fX1_counted_j16 z2 x1)) else (fX1_counted_j16 z0 x1))
set_option maxRecDepth 100000 in
set_option maxHeartbeats 4000000 in
theorem kX1_counted (l : Launch) (G : va_G) (cy cyO : ClassId) (a : Nat → Nat) (z0 : SC) (x1 : Int32) (r : Int32) (u : SC) (hF : fX1_counted z0 x1 = some (r, u)) : Ct l G (tys_ cy cyO) yX1_counted wsX1_counted ({ frames := 0, cells := 0, slots := 0, locals := 0 } : Room) [.ref (a 0), .int x1] (cW a cy cyO z0) (some (.int r)) (cW a cy cyO u) := by
  unfold fX1_counted at hF
  refine ct_of (cc := cX1_counted) (maxL := 2) (ret := (some .int)) (own := RX1) (by decide) rfl (Nat.le_of_ble_eq_true rfl) rfl ?_
  intro p e s m below meth c A ls X hr hlocks _ hK hN hA hP hD hl
  have hS : va_S A s.heap s.heap [] := va_S.rf
  have hl : lv_has ls 2 [(0, .ref (a 0)), (1, .int x1)] := hl
  obtain ⟨hx, hb, hml, hown, hts⟩ := id X
  have hin1 : ∀ w ∈ wsX10, w ∈ wsX1_counted := by decide +kernel
  refine lv_iload_n hx hb dX1_counted_0 rfl (lv_at hl 1 rfl) ?_
  refine lv_bipush (v := (-11)) hx hb dX1_counted_1 (by decide) ?_
  refine lv_icmp_ne (tgt := 16) hx hb dX1_counted_3 (by decide) (fun c1 => ?_) (fun c1 => ?_)
  · have hF := o_f c1 hF
    exact jX1_counted_16 X hr hlocks hK hN hA z0 x1 hF s.heap [] hP hD hS ls (lv_sub hl [0, 1] rfl)
  · have hF := o_t c1 hF
    refine lv_aload_n hx hb dX1_counted_6 rfl (lv_at hl 0 rfl) ?_
    refine lv_dup hx hb dX1_counted_7 rfl ?_
    refine va_get (D := G) (ci := 1) (v := .int z0.2.2.2.2.2.2.2.2.2.1) (C := RX1) (T := TX1) (N := 10) hx hb hts hin1 hown hK hP 0 rfl rfl 7 (by decide) (hts (.fieldLink RX1 114 "SignalBox" "nullFailures" "I") (by decide +kernel)) (fun _ h9 => h9) rfl dX1_counted_8 ?_
    refine lv_iconst (v := 1) hx hb dX1_counted_11 (by decide) ?_
    refine lv_iadd hx hb dX1_counted_12 ?_
    refine va_put (D := G) (ci := 1) (v := .int (z0.2.2.2.2.2.2.2.2.2.1 + 1)) (ty := .int) (C := RX1) (T := TX1) (N := 10) hx hb hts hin1 tyX1 tyX1_ok nmX1 hown hK hP hD hS 0 rfl rfl 7 (by decide) (hts (.fieldLink RX1 114 "SignalBox" "nullFailures" "I") (by decide +kernel)) (fun _ h9 => h9) rfl (by decide +kernel) rfl rfl (Nat.le_of_ble_eq_true rfl) dX1_counted_13 (fun H locs hP hD hS => ?_)
    obtain ⟨z2, e2, hF⟩ := o_l hF
    have hP : va_P G vwCl (cW a cy cyO z2) H := by rw [e2]; exact hP
    have hD : va_D A (cW a cy cyO z2) := by rw [e2]; exact hD
    exact jX1_counted_16 X hr hlocks hK hN hA z2 x1 hF H locs hP hD hS ls (lv_sub hl [0, 1] rfl)
def fX1_goAlone_j12 (K3 : SC → Int32 → Int32 → Int32 → Int32 → Option (Int32 × SC)) : Nat → SC → Int32 → Int32 → Int32 → Int32 → Int32 → Option (Int32 × SC)
  | 0, _, _, _, _, _, _ => none
  | n + 1, z0, y1, y2, y3, y4, y5 => if y1 < 0 ∨ 6 ≤ y1.toNatClampNeg then none else let_ (z0.2.2.2.2.1 y1.toNatClampNeg) (fun v1 => (if v1 ≤ y5 then (K3 z0 y1 y2 y3 (y4 + 1)) else bd_ (fX1_sectionOn z0 y1 y5) (fun r3 z3 => (opt_ (r3) (some ((-11), z3)) (fun b3 => bd_ (fX1_claim z3 b3) (fun r4 z4 => bd_ (fX1_pass z4 b3 y2) (fun r5 z5 => bd_ (fX1_let z5 b3) (fun r6 z6 => (if r5 = 0 then (fX1_goAlone_j12 K3 n z6 y1 y2 y3 y4 (y5 + 1)) else bd_ (fX1_answerTo z6 r5 y5) (fun r8 z8 => some (r8, z8)))))))))))
set_option maxRecDepth 100000 in
set_option maxHeartbeats 4000000 in
theorem jX1_goAlone_12 {p : Program} {l : Launch} {e : Env} {s : State} {m : MethodId} {args : Array Value} {below : List Frame} {meth : Method} {c : Code} {G : va_G} {cy cyO : ClassId} {a : Nat → Nat} {A : Nat → Prop} {r : Int32} {u : SC} (X : CallFix p m c cX1_goAlone 8 s args wsX1_goAlone RX1) (hr : meth.sig.returnType = (some .int)) (hlocks : meth.locks = false) (hK : va_K G vwCl (tys_ cy cyO) s) (hN : nw s) (hA : ∀ q, s.heap.size ≤ q → A q) (K3 : SC → Int32 → Int32 → Int32 → Int32 → Option (Int32 × SC)) (hK3 : ∀ (z0 : SC) (y1 : Int32) (y2 : Int32) (y3 : Int32) (y4 : Int32), K3 z0 y1 y2 y3 y4 = some (r, u) → ∀ (H : Heap) (locs : List Loc), va_P G vwCl (cW a cy cyO z0) H → va_D A (cW a cy cyO z0) → va_S A s.heap H locs → ∀ (ls : Array Slot), lv_has ls 8 [(0, .ref (a 0)), (1, .int y1), (2, .int y2), (3, .int y3), (4, .int y4)] → W p l e ({ frames := 5, cells := 0, slots := 0, locals := 113 } : Room) s m args below meth c H locs 0 0 (MQ below (qg (some (.int r)) (fun t => wPost G A (cW a cy cyO u) t) A) args s 0 0 A) (F0 m 3 ls [])) : ∀ n : Nat, ∀ (z0 : SC) (y1 : Int32) (y2 : Int32) (y3 : Int32) (y4 : Int32) (y5 : Int32), fX1_goAlone_j12 K3 n z0 y1 y2 y3 y4 y5 = some (r, u) → ∀ (H : Heap) (locs : List Loc), va_P G vwCl (cW a cy cyO z0) H → va_D A (cW a cy cyO z0) → va_S A s.heap H locs → ∀ (ls : Array Slot), lv_has ls 8 [(0, .ref (a 0)), (1, .int y1), (2, .int y2), (3, .int y3), (4, .int y4), (5, .int y5)] → W p l e ({ frames := 5, cells := 0, slots := 0, locals := 113 } : Room) s m args below meth c H locs 0 0 (MQ below (qg (some (.int r)) (fun t => wPost G A (cW a cy cyO u) t) A) args s 0 0 A) (F0 m 12 ls []) := by
  obtain ⟨hx, hb, hml, hown, hts⟩ := id X
  have hin1 : ∀ w ∈ wsX10, w ∈ wsX1_goAlone := by decide +kernel
  intro n
  induction n with
  | zero => intro z0 y1 y2 y3 y4 y5 hF; cases hF
  | succ n ih =>
    intro z0 y1 y2 y3 y4 y5 hF H locs hP hD hS ls hl
    rw [fX1_goAlone_j12] at hF
    refine lv_iload hx hb dX1_goAlone_12 (lv_at hl 5 rfl) ?_
    refine lv_aload_n hx hb dX1_goAlone_14 rfl (lv_at hl 0 rfl) ?_
    refine va_get (D := G) (ci := 1) (v := .ref (a 3)) (C := RX1) (T := TX1) (N := 10) hx hb hts hin1 hown hK hP 0 rfl rfl 2 (by decide) (hts (.fieldLink RX1 19 "SignalBox" "routeLengths" "[I") (by decide +kernel)) (fun _ h9 => h9) rfl dX1_goAlone_15 ?_
    refine lv_iload_n hx hb dX1_goAlone_18 rfl (lv_at hl 1 rfl) ?_
    obtain ⟨h1, hF⟩ := o_n hF
    refine va_iald (n := 6) (f := z0.2.2.2.2.1) (cA := cy) hx hb hK hP 3 0 rfl rfl h1 dX1_goAlone_19 ?_
    obtain ⟨v1, e1, hF⟩ := o_l hF
    refine w_top e1 ?_
    refine lv_icmp_ge (tgt := 81) hx hb dX1_goAlone_20 (by decide) (fun c2 => ?_) (fun c2 => ?_)
    · have hF := o_t c2 hF
      refine lv_iinc (v := y4 + 1) (lv' := [(4, .int (y4 + 1)), (0, .ref (a 0)), (1, .int y1), (2, .int y2), (3, .int y3), (5, .int y5)]) hx hb dX1_goAlone_81 hl (k := 4) rfl rfl (by decide) rfl (fun ls hl => ?_)
      refine lv_goto (tgt := 3) hx hb dX1_goAlone_84 (by decide) ?_
      exact hK3 z0 y1 y2 y3 (y4 + 1) hF H locs hP hD hS ls (lv_sub hl [1, 2, 3, 4, 0] rfl)
    · have hF := o_f c2 hF
      refine lv_aload_n hx hb dX1_goAlone_23 rfl (lv_at hl 0 rfl) ?_
      refine lv_iload_n hx hb dX1_goAlone_24 rfl (lv_at hl 1 rfl) ?_
      refine lv_iload hx hb dX1_goAlone_25 (lv_at hl 5 rfl) ?_
      obtain ⟨r3, z3, hG3, hF⟩ := o_b hF
      refine cl_V (C := RX1) (rest := []) X hK hN hA hP hD hS (kX1_sectionOn l G cy cyO a z0 y1 y5 r3 z3 hG3) (cwV 2 hts gX1_goAlone_X1_sectionOn rfl rfl rfl (by decide +kernel) ⟨Nat.le_of_ble_eq_true rfl, Nat.le_of_ble_eq_true rfl⟩) (va_recv hK hP (ci := 1) (q0 := 0) rfl rfl) rfl hl.1 rfl (Nat.le_of_ble_eq_true rfl) dX1_goAlone_27 ⟨Nat.zero_le _, Nat.zero_le _⟩ (fun H locs hP hD hS => ?_)
      rcases ho3 : r3 with _ | b3
      · have hF := o_mn ho3 hF
        refine w_none rfl ?_
        refine lv_astoreN (lv' := [(6, .null), (0, .ref (a 0)), (1, .int y1), (2, .int y2), (3, .int y3), (4, .int y4), (5, .int y5)]) hx hb dX1_goAlone_30 hl (by decide) rfl (fun ls hl => ?_)
        refine lv_aloadN hx hb dX1_goAlone_32 (lv_at hl 0 rfl) ?_
        refine lv_ifnonnullN hx hb dX1_goAlone_34 ?_
        refine lv_bipush (v := (-11)) hx hb dX1_goAlone_37 (by decide) ?_
        obtain ⟨rfl, rfl⟩ := o_s hF
        exact rt_i X hr hlocks hP hD hS dX1_goAlone_39
      · have hF := o_ms ho3 hF
        refine w_some rfl ?_
        refine lv_astore (lv' := [(6, .ref b3), (0, .ref (a 0)), (1, .int y1), (2, .int y2), (3, .int y3), (4, .int y4), (5, .int y5)]) hx hb dX1_goAlone_30 hl (by decide) rfl (fun ls hl => ?_)
        refine lv_aload hx hb dX1_goAlone_32 (lv_at hl 0 rfl) ?_
        refine lv_ifnonnull (tgt := 40) hx hb dX1_goAlone_34 (by decide) ?_
        refine lv_aload_n hx hb dX1_goAlone_40 rfl (lv_at hl 1 rfl) ?_
        refine lv_aload hx hb dX1_goAlone_41 (lv_at hl 0 rfl) ?_
        obtain ⟨r4, z4, hG4, hF⟩ := o_b hF
        refine cl_V (C := RX1) (rest := []) X hK hN hA hP hD hS (kX1_claim l G cy cyO a z3 b3 r4 z4 hG4) (cwV 1 hts gX1_goAlone_X1_claim rfl rfl rfl (by decide +kernel) ⟨Nat.le_of_ble_eq_true rfl, Nat.le_of_ble_eq_true rfl⟩) (va_recv hK hP (ci := 1) (q0 := 0) rfl rfl) rfl hl.1 rfl (Nat.le_of_ble_eq_true rfl) dX1_goAlone_43 ⟨Nat.zero_le _, Nat.zero_le _⟩ (fun H locs hP hD hS => ?_)
        refine W.eq (g2 := F0 m 46 ls []) rfl ?_
        refine lv_aload_n hx hb dX1_goAlone_46 rfl (lv_at hl 1 rfl) ?_
        refine lv_aload hx hb dX1_goAlone_47 (lv_at hl 0 rfl) ?_
        refine lv_iload_n hx hb dX1_goAlone_49 rfl (lv_at hl 3 rfl) ?_
        obtain ⟨r5, z5, hG5, hF⟩ := o_b hF
        refine cl_V (C := RX1) (rest := []) X hK hN hA hP hD hS (kX1_pass l G cy cyO a z4 b3 y2 r5 z5 hG5) (cwV 2 hts gX1_goAlone_X1_pass rfl rfl rfl (by decide +kernel) ⟨Nat.le_of_ble_eq_true rfl, Nat.le_of_ble_eq_true rfl⟩) (va_recv hK hP (ci := 1) (q0 := 0) rfl rfl) rfl hl.1 rfl (Nat.le_of_ble_eq_true rfl) dX1_goAlone_50 ⟨Nat.zero_le _, Nat.zero_le _⟩ (fun H locs hP hD hS => ?_)
        refine W.eq (g2 := F0 m 53 ls [.int r5]) rfl ?_
        refine lv_istore (lv' := [(7, .int r5), (6, .ref b3), (0, .ref (a 0)), (1, .int y1), (2, .int y2), (3, .int y3), (4, .int y4), (5, .int y5)]) hx hb dX1_goAlone_53 hl (by decide) rfl (fun ls hl => ?_)
        refine lv_aload_n hx hb dX1_goAlone_55 rfl (lv_at hl 2 rfl) ?_
        refine lv_aload hx hb dX1_goAlone_56 (lv_at hl 1 rfl) ?_
        obtain ⟨r6, z6, hG6, hF⟩ := o_b hF
        refine cl_V (C := RX1) (rest := []) X hK hN hA hP hD hS (kX1_let l G cy cyO a z5 b3 r6 z6 hG6) (cwV 1 hts gX1_goAlone_X1_let rfl rfl rfl (by decide +kernel) ⟨Nat.le_of_ble_eq_true rfl, Nat.le_of_ble_eq_true rfl⟩) (va_recv hK hP (ci := 1) (q0 := 0) rfl rfl) rfl hl.1 rfl (Nat.le_of_ble_eq_true rfl) dX1_goAlone_58 ⟨Nat.zero_le _, Nat.zero_le _⟩ (fun H locs hP hD hS => ?_)
        refine W.eq (g2 := F0 m 61 ls []) rfl ?_
        refine lv_iload hx hb dX1_goAlone_61 (lv_at hl 0 rfl) ?_
        refine lv_if_eq (tgt := 75) hx hb dX1_goAlone_63 (by decide) (fun c7 => ?_) (fun c7 => ?_)
        · have hF := o_t c7 hF
          refine lv_iinc (v := y5 + 1) (lv' := [(5, .int (y5 + 1)), (7, .int r5), (6, .ref b3), (0, .ref (a 0)), (1, .int y1), (2, .int y2), (3, .int y3), (4, .int y4)]) hx hb dX1_goAlone_75 hl (k := 7) rfl rfl (by decide) rfl (fun ls hl => ?_)
          refine lv_goto (tgt := 12) hx hb dX1_goAlone_78 (by decide) ?_
          exact ih z6 y1 y2 y3 y4 (y5 + 1) hF H locs hP hD hS ls (lv_sub hl [3, 4, 5, 6, 7, 0] rfl)
        · have hF := o_f c7 hF
          refine lv_aload_n hx hb dX1_goAlone_66 rfl (lv_at hl 2 rfl) ?_
          refine lv_iload hx hb dX1_goAlone_67 (lv_at hl 0 rfl) ?_
          refine lv_iload hx hb dX1_goAlone_69 (lv_at hl 7 rfl) ?_
          obtain ⟨r8, z8, hG8, hF⟩ := o_b hF
          refine cl_V (C := RX1) (rest := []) X hK hN hA hP hD hS (kX1_answerTo l G cy cyO a z6 r5 y5 r8 z8 hG8) (cwV 2 hts gX1_goAlone_X1_answerTo rfl rfl rfl (by decide +kernel) ⟨Nat.le_of_ble_eq_true rfl, Nat.le_of_ble_eq_true rfl⟩) (va_recv hK hP (ci := 1) (q0 := 0) rfl rfl) rfl hl.1 rfl (Nat.le_of_ble_eq_true rfl) dX1_goAlone_71 ⟨Nat.zero_le _, Nat.zero_le _⟩ (fun H locs hP hD hS => ?_)
          refine W.eq (g2 := F0 m 74 ls [.int r8]) rfl ?_
          obtain ⟨rfl, rfl⟩ := o_s hF
          exact rt_i X hr hlocks hP hD hS dX1_goAlone_74
def fX1_goAlone_j3 : Nat → SC → Int32 → Int32 → Int32 → Int32 → Option (Int32 × SC)
  | 0, _, _, _, _, _ => none
  | n + 1, z0, y1, y2, y3, y4 => (if y3 ≤ y4 then some (z0.2.2.2.2.2.2.2.2.2.2.2, z0) else (fX1_goAlone_j12 (fX1_goAlone_j3 n) 20 z0 y1 y2 y3 y4 0))
set_option maxRecDepth 100000 in
set_option maxHeartbeats 4000000 in
theorem jX1_goAlone_3 {p : Program} {l : Launch} {e : Env} {s : State} {m : MethodId} {args : Array Value} {below : List Frame} {meth : Method} {c : Code} {G : va_G} {cy cyO : ClassId} {a : Nat → Nat} {A : Nat → Prop} {r : Int32} {u : SC} (X : CallFix p m c cX1_goAlone 8 s args wsX1_goAlone RX1) (hr : meth.sig.returnType = (some .int)) (hlocks : meth.locks = false) (hK : va_K G vwCl (tys_ cy cyO) s) (hN : nw s) (hA : ∀ q, s.heap.size ≤ q → A q) : ∀ n : Nat, ∀ (z0 : SC) (y1 : Int32) (y2 : Int32) (y3 : Int32) (y4 : Int32), fX1_goAlone_j3 n z0 y1 y2 y3 y4 = some (r, u) → ∀ (H : Heap) (locs : List Loc), va_P G vwCl (cW a cy cyO z0) H → va_D A (cW a cy cyO z0) → va_S A s.heap H locs → ∀ (ls : Array Slot), lv_has ls 8 [(0, .ref (a 0)), (1, .int y1), (2, .int y2), (3, .int y3), (4, .int y4)] → W p l e ({ frames := 5, cells := 0, slots := 0, locals := 113 } : Room) s m args below meth c H locs 0 0 (MQ below (qg (some (.int r)) (fun t => wPost G A (cW a cy cyO u) t) A) args s 0 0 A) (F0 m 3 ls []) := by
  obtain ⟨hx, hb, hml, hown, hts⟩ := id X
  have hin1 : ∀ w ∈ wsX10, w ∈ wsX1_goAlone := by decide +kernel
  intro n
  induction n with
  | zero => intro z0 y1 y2 y3 y4 hF; cases hF
  | succ n ih =>
    intro z0 y1 y2 y3 y4 hF H locs hP hD hS ls hl
    rw [fX1_goAlone_j3] at hF
    refine lv_iload hx hb dX1_goAlone_3 (lv_at hl 4 rfl) ?_
    refine lv_iload_n hx hb dX1_goAlone_5 rfl (lv_at hl 3 rfl) ?_
    refine lv_icmp_ge (tgt := 87) hx hb dX1_goAlone_6 (by decide) (fun c1 => ?_) (fun c1 => ?_)
    · have hF := o_t c1 hF
      refine lv_aload_n hx hb dX1_goAlone_87 rfl (lv_at hl 0 rfl) ?_
      refine va_get (D := G) (ci := 1) (v := .int z0.2.2.2.2.2.2.2.2.2.2.2) (C := RX1) (T := TX1) (N := 10) hx hb hts hin1 hown hK hP 0 rfl rfl 9 (by decide) (hts (.fieldLink RX1 51 "SignalBox" "passed" "I") (by decide +kernel)) (fun _ h9 => h9) rfl dX1_goAlone_88 ?_
      obtain ⟨rfl, rfl⟩ := o_s hF
      exact rt_i X hr hlocks hP hD hS dX1_goAlone_91
    · have hF := o_f c1 hF
      refine lv_iconst (v := 0) hx hb dX1_goAlone_9 (by decide) ?_
      refine lv_istore (lv' := [(5, .int 0), (0, .ref (a 0)), (1, .int y1), (2, .int y2), (3, .int y3), (4, .int y4)]) hx hb dX1_goAlone_10 hl (by decide) rfl (fun ls hl => ?_)
      exact jX1_goAlone_12 X hr hlocks hK hN hA (fX1_goAlone_j3 n) ih 20 z0 y1 y2 y3 y4 0 hF H locs hP hD hS ls (lv_sub hl [1, 2, 3, 4, 5, 0] rfl)
def fX1_goAlone (z0 : SC) (x1 : Int32) (x2 : Int32) (x3 : Int32) : Option (Int32 × SC) := (fX1_goAlone_j3 20 z0 x1 x2 x3 0)
set_option maxRecDepth 100000 in
set_option maxHeartbeats 4000000 in
theorem kX1_goAlone (l : Launch) (G : va_G) (cy cyO : ClassId) (a : Nat → Nat) (z0 : SC) (x1 : Int32) (x2 : Int32) (x3 : Int32) (r : Int32) (u : SC) (hF : fX1_goAlone z0 x1 x2 x3 = some (r, u)) : Ct l G (tys_ cy cyO) yX1_goAlone wsX1_goAlone ({ frames := 5, cells := 0, slots := 0, locals := 113 } : Room) [.ref (a 0), .int x1, .int x2, .int x3] (cW a cy cyO z0) (some (.int r)) (cW a cy cyO u) := by
  unfold fX1_goAlone at hF
  refine ct_of (cc := cX1_goAlone) (maxL := 8) (ret := (some .int)) (own := RX1) (by decide) rfl (Nat.le_of_ble_eq_true rfl) rfl ?_
  intro p e s m below meth c A ls X hr hlocks _ hK hN hA hP hD hl
  have hS : va_S A s.heap s.heap [] := va_S.rf
  have hl : lv_has ls 8 [(0, .ref (a 0)), (1, .int x1), (2, .int x2), (3, .int x3)] := hl
  obtain ⟨hx, hb, hml, hown, hts⟩ := id X
  have hin1 : ∀ w ∈ wsX10, w ∈ wsX1_goAlone := by decide +kernel
  refine lv_iconst (v := 0) hx hb dX1_goAlone_0 (by decide) ?_
  refine lv_istore (lv' := [(4, .int 0), (0, .ref (a 0)), (1, .int x1), (2, .int x2), (3, .int x3)]) hx hb dX1_goAlone_1 hl (by decide) rfl (fun ls hl => ?_)
  exact jX1_goAlone_3 X hr hlocks hK hN hA 20 z0 x1 x2 x3 0 hF s.heap [] hP hD hS ls (lv_sub hl [1, 2, 3, 4, 0] rfl)
