/-! ===== a new section ===== -/
theorem P_left {D : va_G} {cl : List vw_C} {w1 w2 : va_W} {H : Heap} (h : va_P D cl (w1 ++ w2) H) : va_P D cl w1 H := fun k q hk => h k q (by rw [List.getElem?_append_left (List.getElem?_eq_some_iff.mp hk).1]; exact hk)
theorem P_right {D : va_G} {cl : List vw_C} {w1 w2 : va_W} {H : Heap} (h : va_P D cl (w1 ++ w2) H) : va_P D cl w2 H := fun k q hk => h (w1.length + k) q (by rw [List.getElem?_append_right (Nat.le_add_right _ _), Nat.add_sub_cancel_left]; exact hk)
def Ap (w1 w2 : va_W) : Prop := ∀ (i j : Nat) (p q : Nat × va_E), w1[i]? = some p → w2[j]? = some q → p.1 ≠ q.1
theorem Ap.symm {w1 w2 : va_W} (h : Ap w1 w2) : Ap w2 w1 := fun i j p q hp hq e => h j i q p hq hp e.symm
theorem D_left {A : Nat → Prop} {w1 w2 : va_W} (h : va_D A (w1 ++ w2)) : va_D A w1 := by
  have g : ∀ (k : Nat) (q : Nat × va_E), w1[k]? = some q → (w1 ++ w2)[k]? = some q := fun k q hk => by rw [List.getElem?_append_left (List.getElem?_eq_some_iff.mp hk).1]; exact hk
  exact ⟨fun i j p q hp hq e => h.1 i j p q (g i p hp) (g j q hq) e, fun k q hk => h.2 k q (g k q hk)⟩
theorem D_right {A : Nat → Prop} {w1 w2 : va_W} (h : va_D A (w1 ++ w2)) : va_D A w2 := by
  have g : ∀ (k : Nat) (q : Nat × va_E), w2[k]? = some q → (w1 ++ w2)[w1.length + k]? = some q := fun k q hk => by rw [List.getElem?_append_right (Nat.le_add_right _ _), Nat.add_sub_cancel_left]; exact hk
  exact ⟨fun i j p q hp hq e => by have := h.1 _ _ p q (g i p hp) (g j q hq) e; omega, fun k q hk => h.2 _ q (g k q hk)⟩
theorem D_ap {A : Nat → Prop} {w1 w2 : va_W} (h : va_D A (w1 ++ w2)) : Ap w1 w2 := fun i j p q hp hq e => by
  have hi := (List.getElem?_eq_some_iff.mp hp).1
  have h1 : (w1 ++ w2)[i]? = some p := by rw [List.getElem?_append_left hi]; exact hp
  have h2 : (w1 ++ w2)[w1.length + j]? = some q := by rw [List.getElem?_append_right (Nat.le_add_right _ _), Nat.add_sub_cancel_left]; exact hq
  have := h.1 _ _ p q h1 h2 e
  omega
/-- behind a call that had wc: what lies apart from it holds on, and lies apart from what came back -/
theorem keep_w {D : va_G} {cl : List vw_C} {wc wr w1 : va_W} {H H1 : Heap} (hPr : va_P D cl wr H) (hap : Ap wc wr) (hk : ∀ q : Nat, q < H.size → ¬ va_A wc H.size q → H1[q]? = H[q]?) (hD1 : va_D (va_A wc H.size) w1) : va_P D cl wr H1 ∧ Ap w1 wr := by
  have hn : ∀ (k : Nat) (q : Nat × va_E), wr[k]? = some q → ¬ va_A wc H.size q.1 := fun k q hq g => by
    rcases g with ⟨i, e, hi⟩ | g
    · exact hap i k _ q hi hq rfl
    · have := (hPr k q hq).lt
      omega
  refine ⟨hPr.kept (fun k q hq => hk q.1 (hPr k q hq).lt (hn k q hq)), fun i j p q hp hq e => hn j q hq ?_⟩
  rw [← e]
  exact hD1.2 i p hp
def iniS (m k l n : Int32) (j : Nat) : Int32 := if j = 0 then m else if j = 1 then k else if j = 2 then l else if j = 3 then n else 0
def newF (f : Nat → Nat → Int32) (q : Nat) (g : Nat → Int32) : Nat → Nat → Int32 := fun b j => if b = q then g j else f b j
theorem cW_push {a : Nat → Nat} {cy cyO : ClassId} {z : SC} {q : Nat} (hq : q ∉ z.2.1) (m k l n : Int32) : cW a cy cyO z ++ [(q, .inr (0, [.int m, .int k, .int l, .int n, .int 0, .int 0, .int 0, .int 0, .int 0]))] = cW a cy cyO (newF z.1 q (iniS m k l n), z.2.1 ++ [q], z.2.2) := by
  unfold cW
  rw [List.append_assoc, va_pl_push hq]
  refine congrArg (fun l => cX a cy cyO z ++ l) (va_pl_congr (fun b => ?_))
  by_cases hb : b = q
  · subst hb
    rw [va_up_self]
    simp [secE, newF, iniS]
  · rw [va_up_ne _ _ hb]
    simp [secE, newF, hb]
/-- the class's state with a new section at q -/
def nS (z : SC) (q : Nat) (x1 x2 x3 x4 : Int32) : SC := (newF z.1 q (iniS z.2.2.2.2.2.2.2.1 x2 x3 x4), z.2.1 ++ [q], va_up z.2.2.1 x1.toNatClampNeg (some q), z.2.2.2.1, z.2.2.2.2.1, z.2.2.2.2.2.1, z.2.2.2.2.2.2.1, z.2.2.2.2.2.2.2.1 + 1, z.2.2.2.2.2.2.2.2)
set_option maxRecDepth 100000 in
set_option maxHeartbeats 4000000 in
theorem kX0_init (l : Launch) (G : va_G) (ty : List (ClassId × FieldType)) (x : Nat) (x1 x2 x3 x4 : Int32) : Ct l G ty yX0_init wsX0_init ({ frames := 1, cells := 0, slots := 0, locals := 12 } : Room) [.ref x, .int x1, .int x2, .int x3, .int x4] [(x, .inr (0, [.int 0, .int 0, .int 0, .int 0, .int 0, .int 0, .int 0, .int 0, .int 0]))] none [(x, .inr (0, [.int x1, .int x2, .int x3, .int x4, .int 0, .int 0, .int 0, .int 0, .int 0]))] := by
  refine ct_of (cc := cX0_init) (maxL := 5) (ret := none) (own := RX0) (by decide) rfl (Nat.le_of_ble_eq_true rfl) rfl ?_
  intro p e s m below meth c A ls X hr hlocks hnm hK hN hA hP hD hl
  have hS : va_S A s.heap s.heap [] := va_S.rf
  have hl : lv_has ls 5 [(0, .ref x), (1, .int x1), (2, .int x2), (3, .int x3), (4, .int x4)] := hl
  obtain ⟨hx, hb, hml, hown, hts⟩ := id X
  have hin0 : ∀ w ∈ wsX00, w ∈ wsX0_init := by decide +kernel
  have hini : meth.name = "<init>" := hnm "<init>" rfl
  refine lv_aload_n hx hb dX0_init_0 rfl (lv_at hl 0 rfl) ?_
  refine W.objInit hx hb hown (hts (.methodLink RX0 1 objectInit) (by decide +kernel)) (hts (.instanceMethod objectInit) (by decide +kernel)) (hts _ (List.mem_cons_of_mem _ (List.mem_append_left _ (List.mem_of_getElem? (i := 2) rfl)))) rfl (by rw [hml]; exact hl.1) rfl dX0_init_1 (Nat.le_of_ble_eq_true rfl) (Nat.le_of_ble_eq_true rfl) ?_
  refine W.eq (g2 := F0 m 4 ls []) rfl ?_
  refine lv_aload_n hx hb dX0_init_4 rfl (lv_at hl 0 rfl) ?_
  refine lv_iload_n hx hb dX0_init_5 rfl (lv_at hl 1 rfl) ?_
  refine va_putF (D := G) (ci := 0) (v := .int x1) (ty := .int) (C := RX0) (T := TX0) (N := 9) hx hb hts hin0 tyX0 tyX0_ok nmX0 hown hK hP hD hS 0 rfl rfl 0 (by decide) (hts (.fieldLink RX0 7 "SignalBox$Section" "number" "I") (by decide +kernel)) (fun _ h9 => h9) rfl hini rfl (by decide +kernel) rfl rfl (Nat.le_of_ble_eq_true rfl) dX0_init_6 (fun H locs hP hD hS => ?_)
  refine lv_aload_n hx hb dX0_init_9 rfl (lv_at hl 0 rfl) ?_
  refine lv_iload_n hx hb dX0_init_10 rfl (lv_at hl 2 rfl) ?_
  refine va_putF (D := G) (ci := 0) (v := .int x2) (ty := .int) (C := RX0) (T := TX0) (N := 9) hx hb hts hin0 tyX0 tyX0_ok nmX0 hown hK hP hD hS 0 rfl rfl 1 (by decide) (hts (.fieldLink RX0 13 "SignalBox$Section" "kind" "I") (by decide +kernel)) (fun _ h9 => h9) rfl hini rfl (by decide +kernel) rfl rfl (Nat.le_of_ble_eq_true rfl) dX0_init_11 (fun H locs hP hD hS => ?_)
  refine lv_aload_n hx hb dX0_init_14 rfl (lv_at hl 0 rfl) ?_
  refine lv_iload_n hx hb dX0_init_15 rfl (lv_at hl 3 rfl) ?_
  refine va_putF (D := G) (ci := 0) (v := .int x3) (ty := .int) (C := RX0) (T := TX0) (N := 9) hx hb hts hin0 tyX0 tyX0_ok nmX0 hown hK hP hD hS 0 rfl rfl 2 (by decide) (hts (.fieldLink RX0 16 "SignalBox$Section" "limit" "I") (by decide +kernel)) (fun _ h9 => h9) rfl hini rfl (by decide +kernel) rfl rfl (Nat.le_of_ble_eq_true rfl) dX0_init_16 (fun H locs hP hD hS => ?_)
  refine lv_aload_n hx hb dX0_init_19 rfl (lv_at hl 0 rfl) ?_
  refine lv_iload hx hb dX0_init_20 (lv_at hl 4 rfl) ?_
  refine va_put (D := G) (ci := 0) (v := .int x4) (ty := .int) (C := RX0) (T := TX0) (N := 9) hx hb hts hin0 tyX0 tyX0_ok nmX0 hown hK hP hD hS 0 rfl rfl 3 (by decide) (hts (.fieldLink RX0 19 "SignalBox$Section" "mark" "I") (by decide +kernel)) (fun _ h9 => h9) rfl (by decide +kernel) rfl rfl (Nat.le_of_ble_eq_true rfl) dX0_init_22 (fun H locs hP hD hS => ?_)
  have hP : va_P G vwCl [(x, .inr (0, [.int x1, .int x2, .int x3, .int x4, .int 0, .int 0, .int 0, .int 0, .int 0]))] H := hP
  have hD : va_D A [(x, .inr (0, [.int x1, .int x2, .int x3, .int x4, .int 0, .int 0, .int 0, .int 0, .int 0]))] := hD
  exact rt_v X hr hlocks hP hD hS dX0_init_25
set_option maxRecDepth 100000 in
set_option maxHeartbeats 4000000 in
theorem jX1_section_33 {p : Program} {l : Launch} {e : Env} {s : State} {m : MethodId} {args : Array Value} {below : List Frame} {meth : Method} {c : Code} {G : va_G} {cy cyO : ClassId} {a : Nat → Nat} {A : Nat → Prop} {z : SC} {x1 x2 x3 x4 : Int32} (X : CallFix p m c cX1_section 6 s args wsX1_section RX1) (hr : meth.sig.returnType = (some .int)) (hlocks : meth.locks = false) (hK : va_K G vwCl (tys_ cy cyO) s) (hN : nw s) (hA : ∀ q, s.heap.size ≤ q → A q) (hv : vp_in x1 12) (H : Heap) (locs : List Loc) (hP : va_P G vwCl (cW a cy cyO z) H) (hD : va_D A (cW a cy cyO z)) (hS : va_S A s.heap H locs) (ls : Array Slot) (hl : lv_has ls 6 [(0, .ref (a 0)), (1, .int x1), (2, .int x2), (3, .int x3), (4, .int x4)]) :
    W p l e ({ frames := 2, cells := 1, slots := 9, locals := 36 } : Room) s m args below meth c H locs 0 0 (MQ below (qg (some (.int z.2.2.2.2.2.2.2.1)) (fun t => ∃ q, q ∉ z.2.1 ∧ wPost G A (cW a cy cyO (nS z q x1 x2 x3 x4)) t) A) args s 1 9 A) (F0 m 33 ls []) := by
  obtain ⟨hx, hb, hml, hown, hts⟩ := id X
  have hin0 : ∀ w ∈ wsX00, w ∈ wsX1_section := by decide +kernel
  have hin1 : ∀ w ∈ wsX10, w ∈ wsX1_section := by decide +kernel
  refine va_new (ci := 0) (fs := [.int 0, .int 0, .int 0, .int 0, .int 0, .int 0, .int 0, .int 0, .int 0]) (C := RX0) (T := TX0) (N := 9) hx hb hts hin0 tyX0 tyX0_ok hown (hts (.classLink RX1 9 RX0) (by decide +kernel)) (hts (.instantiable RX0 9) (by decide +kernel)) (hts (.initialized RX0) (by decide +kernel)) hK hP hD hS hA rfl (fun j hj => by rcases (show j = 0 ∨ j = 1 ∨ j = 2 ∨ j = 3 ∨ j = 4 ∨ j = 5 ∨ j = 6 ∨ j = 7 ∨ j = 8 by omega) with rfl | rfl | rfl | rfl | rfl | rfl | rfl | rfl | rfl <;> rfl) (Nat.le_of_ble_eq_true rfl) (Nat.le_of_ble_eq_true rfl) dX1_section_33 (fun q H hP hD hS => ?_)
  refine W.widen (k := 1) (n := 9) (by omega) (by omega) ?_
  have hq : q ∉ z.2.1 := va_pl_fresh2 (X := cX a cy cyO z) hD
  refine lv_dup hx hb dX1_section_36 rfl ?_
  refine lv_aload_n hx hb dX1_section_37 rfl (lv_at hl 0 rfl) ?_
  refine va_get (D := G) (ci := 1) (v := .int z.2.2.2.2.2.2.2.1) (C := RX1) (T := TX1) (N := 10) hx hb hts hin1 hown hK hP 0 rfl rfl 5 (by decide) (hts (.fieldLink RX1 32 "SignalBox" "made" "I") (by decide +kernel)) (fun _ h9 => h9) rfl dX1_section_38 ?_
  refine lv_iload_n hx hb dX1_section_41 rfl (lv_at hl 2 rfl) ?_
  refine lv_iload_n hx hb dX1_section_42 rfl (lv_at hl 3 rfl) ?_
  refine lv_iload hx hb dX1_section_43 (lv_at hl 4 rfl) ?_
  have hFc := wFree (D_right hD) hS hA
  refine w_call (va_runIN (g := F0 m 45 ls [.int x4, .int x3, .int x2, .int z.2.2.2.2.2.2.2.1, .ref q, .ref q]) (As := [.int z.2.2.2.2.2.2.2.1, .int x2, .int x3, .int x4]) (rest := [.ref q]) X (kX0_init l G (tys_ cy cyO) q z.2.2.2.2.2.2.2.1 x2 x3 x4 H.size) ⟨va_cnB 4 hts gX1_section_X0_init_n36 rfl rfl rfl (hN.2 (36, yX0_init) (by decide +kernel)) (hts (.initialized RX0) (by decide +kernel)) (by decide +kernel) ⟨Nat.le_of_ble_eq_true rfl, Nat.le_of_ble_eq_true rfl⟩, rfl, hts (.instanceMethod yX0_init) (by decide +kernel)⟩ ⟨wPre_blind, fun U hU hW => wPre_at hK hN (P_right hP) (D_right hD) hU hW⟩ rfl rfl hl.1 rfl (lv_room (Nat.le_of_ble_eq_true rfl)) dX1_section_45 ⟨Nat.le_of_ble_eq_true rfl, Nat.le_of_ble_eq_true rfl⟩) hS (fun q _ h => hFc q h) hFc (fun t H1 locs1 ht _ hB hz hk hS => ?_)
  obtain ⟨hP1, hD1⟩ := hB
  rw [ht] at hP1
  obtain ⟨hPa, hAp⟩ := keep_w (P_left hP) (D_ap hD).symm hk hD1
  have hP := hPa.app hP1
  have hD := (D_left hD).app (hD1.weaken (fun _ _ _ h => hFc _ h)) hAp.symm
  generalize H1 = H at hP hS ⊢
  generalize locs1 = locs at hS ⊢
  rw [cW_push hq] at hP hD
  refine W.eq (g2 := F0 m 48 ls [.ref q]) rfl ?_
  obtain ⟨z1, e1⟩ : ∃ y : SC, y = (newF z.1 q (iniS z.2.2.2.2.2.2.2.1 x2 x3 x4), z.2.1 ++ [q], z.2.2) := ⟨_, rfl⟩
  rw [← e1] at hP hD
  have hq1 : q ∈ z1.2.1 := by rw [e1]; exact List.mem_append_right _ List.mem_cons_self
  refine lv_astore (lv' := [(5, .ref q), (0, .ref (a 0)), (1, .int x1), (2, .int x2), (3, .int x3), (4, .int x4)]) hx hb dX1_section_48 hl (by decide) rfl (fun ls hl => ?_)
  refine lv_aload_n hx hb dX1_section_50 rfl (lv_at hl 1 rfl) ?_
  refine va_get (D := G) (ci := 1) (v := .ref (a 1)) (C := RX1) (T := TX1) (N := 10) hx hb hts hin1 hown hK hP 0 rfl rfl 0 (by decide) (hts (.fieldLink RX1 11 "SignalBox" "standing" "[LSignalBox$Section;") (by decide +kernel)) (fun _ h9 => h9) rfl dX1_section_51 ?_
  refine lv_iload_n hx hb dX1_section_54 rfl (lv_at hl 2 rfl) ?_
  refine lv_aload hx hb dX1_section_55 (lv_at hl 0 rfl) ?_
  obtain ⟨qk, hqk⟩ := cW_at (a := a) (cy := cy) (cyO := cyO) hq1
  refine va_astq (r := (RX0, TX0, 9)) (n := 12) (f := z1.2.2.1) (cA := cyO) hx hb hK hP hD hS 1 1 qk 0 rfl rfl hqk rfl hv dX1_section_57 (fun H locs hP hD hS => ?_)
  obtain ⟨z2, e2⟩ : ∃ y : SC, y = (z1.1, z1.2.1, va_up z1.2.2.1 x1.toNatClampNeg (some q), z1.2.2.2) := ⟨_, rfl⟩
  have hP : va_P G vwCl (cW a cy cyO z2) H := by rw [e2]; exact hP
  have hD : va_D A (cW a cy cyO z2) := by rw [e2]; exact hD
  refine lv_aload_n hx hb dX1_section_58 rfl (lv_at hl 1 rfl) ?_
  refine lv_dup hx hb dX1_section_59 rfl ?_
  refine va_get (D := G) (ci := 1) (v := .int z2.2.2.2.2.2.2.2.1) (C := RX1) (T := TX1) (N := 10) hx hb hts hin1 hown hK hP 0 rfl rfl 5 (by decide) (hts (.fieldLink RX1 32 "SignalBox" "made" "I") (by decide +kernel)) (fun _ h9 => h9) rfl dX1_section_60 ?_
  refine lv_iconst (v := 1) hx hb dX1_section_63 (by decide) ?_
  refine lv_iadd hx hb dX1_section_64 ?_
  refine va_put (D := G) (ci := 1) (v := .int (z2.2.2.2.2.2.2.2.1 + 1)) (ty := .int) (C := RX1) (T := TX1) (N := 10) hx hb hts hin1 tyX1 tyX1_ok nmX1 hown hK hP hD hS 0 rfl rfl 5 (by decide) (hts (.fieldLink RX1 32 "SignalBox" "made" "I") (by decide +kernel)) (fun _ h9 => h9) rfl (by decide +kernel) rfl rfl (Nat.le_of_ble_eq_true rfl) dX1_section_65 (fun H locs hP hD hS => ?_)
  obtain ⟨z3, e3⟩ : ∃ y : SC, y = (z2.1, z2.2.1, z2.2.2.1, z2.2.2.2.1, z2.2.2.2.2.1, z2.2.2.2.2.2.1, z2.2.2.2.2.2.2.1, z2.2.2.2.2.2.2.2.1 + 1, z2.2.2.2.2.2.2.2.2) := ⟨_, rfl⟩
  have hP : va_P G vwCl (cW a cy cyO z3) H := by rw [e3]; exact hP
  have hD : va_D A (cW a cy cyO z3) := by rw [e3]; exact hD
  have hq3 : q ∈ z3.2.1 := by rw [e3, e2]; exact hq1
  refine lv_aload hx hb dX1_section_68 (lv_at hl 0 rfl) ?_
  refine cs_get X hin0 hK hN hP hq3 0 (by decide) (by decide) (by decide) (v := .int (z3.1 q 0)) rfl dX1_section_70 ?_
  have e4 : z.2.2.2.2.2.2.2.1 = z3.1 q 0 := by rw [e3, e2, e1]; simp [newF, iniS]
  refine w_top e4 ?_
  have e5 : z3 = nS z q x1 x2 x3 x4 := by rw [e3, e2, e1]; rfl
  rw [e5] at hP hD
  exact W.iret hx hb hr (fun t ht _ => ⟨⟨rfl, q, hq, by rw [ht]; exact hP, hD⟩, hS.F ht⟩) hS.2.2 dX1_section_73 hlocks
