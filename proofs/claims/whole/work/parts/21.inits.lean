/-! ===== the two constructors ===== -/
theorem cy_eq {G : va_G} {ty : List (ClassId × FieldType)} {s : State} {c1 c2 : ClassId} (i j : Nat) (hK : va_K G vwCl ty s) (h1 : ty[i]? = some (c1, .int)) (h2 : ty[j]? = some (c2, .int)) : c2 = c1 := by
  have a : s.vm.findClass ("[" ++ FieldType.int.toString) = some c1 := (hK.2 i _ h1).2
  have b : s.vm.findClass ("[" ++ FieldType.int.toString) = some c2 := (hK.2 j _ h2).2
  exact Option.some.inj (b.symm.trans a)
section NEWA
variable {p : Program} {l : Launch} {e : Env} {R : Room} {s : State} {m : MethodId} {args : Array Value} {below : List Frame} {meth : Method} {c : Code} {H : Heap} {locs : List Loc} {cells slots : Nat} {Q : State → Prop}
variable {cc : ByteArray} {nL pc : Nat} {Ts : List Cond} {own : String} {G : va_G} {ty : List (ClassId × FieldType)} {w : va_W} {A : Nat → Prop} {ls : Array Slot} {rest : List Value}
theorem w_newa (X : CallFix p m c cc nL s args Ts own) (harr : Cond.arrayClass .int ∈ Ts) (hK : va_K G vwCl ty s) (hP : va_P G vwCl w H) (hD : va_D A w) (hS : va_S A s.heap H locs) (hA : ∀ q, s.heap.size ≤ q → A q) (N : Nat) (hN : N < 65536) {n : Int32} (hn : n = nI N) (hcells : cells + 1 ≤ R.cells) (hslots : slots + N ≤ R.slots) (hdg : decode cc pc = .ok (.newarray .int, 2))
    (kk : ∀ (q : Nat) (cA : ClassId) (H1 : Heap), va_K G vwCl (ty ++ [(cA, .int)]) s → va_P G vwCl (w ++ [(q, .inl (cA, N, .inl (fun _ => 0)))]) H1 → va_D A (w ++ [(q, .inl (cA, N, .inl (fun _ => 0)))]) → va_S A s.heap H1 locs → W p l e R s m args below meth c H1 locs (cells + 1) (slots + N) Q (F0 m (pc + 2) ls (.ref q :: rest))) : W p l e R s m args below meth c H locs cells slots Q (F0 m pc ls (.int n :: rest)) := by
  subst hn
  exact va_newa (atype := .int) (ty := .int) (a0 := (N, .inl (fun _ => 0))) X.1 X.2.1 (X.2.2.2.2 (.arrayClass .int) harr) rfl hK hP hD hS hA (fun _ => rfl) (nI_pos (by omega)) (nI_clamp (by omega)) (by rw [show componentBytes FieldType.int = 4 from rfl]; omega) hcells hslots hdg kk
end NEWA
def zC0 : SC := (fun _ _ => 0, [], fun _ => none, fun _ => 0, fun _ => 0, fun _ => 0, 0, 0, 0, 0, 0, 0)
def zM0 (f : Nat → Int32) : SM := (fun _ _ => 0, f, fun _ => 0, fun _ => 0, fun _ => 0, 0, 0, 0, 0, 0, 0)
abbrev bC0 : va_E := .inr (1, [.null, .null, .null, .null, .int 0, .int 0, .int 0, .int 0, .int 0, .int 0])
abbrev bM0 : va_E := .inr (2, [.int 0, .null, .null, .null, .null, .null, .null, .null, .null, .null, .null, .null, .null, .int 0, .int 0, .int 0, .int 0, .int 0])
set_option maxRecDepth 100000 in
set_option maxHeartbeats 400000 in
theorem kX1_init (l : Launch) (G : va_G) (h0 sz : Nat) : Met l yX1_init wsX1_init ({ frames := 1, cells := 4, slots := 216, locals := 12 } : Room) (va_Pc [.ref h0] (fun U => wPre G [] [(h0, bC0)] sz U ∧ va_AO RX0 U)) (qg none (fun t => ∃ (cy cyO : ClassId) (a : Nat → Nat), a 0 = h0 ∧ va_K G vwCl (tys_ cy cyO) t ∧ wPost G (va_A [(h0, bC0)] sz) (cW a cy cyO zC0) t) (va_A [(h0, bC0)] sz)) 4 216 (va_A [(h0, bC0)] sz) := by
  refine Met.ofW (cc := cX1_init) (maxL := 1) (ret := none) (by decide) rfl ?_
  intro p e s m args below meth c s₁ Bd hml hv
  obtain ⟨rfl, ⟨hsz, hP, hK, hD0, hN⟩, hO⟩ := hv
  subst hsz
  have hD := hD0.self (sz := s.heap.size)
  have hx := Bd.exec
  have hb := Bd.bytes
  have hr := Bd.returns
  have hts := atoms_spec (ws := wsX1_init) Bd.pre
  have hown : s.vm.findClass RX1 = some m.cls := findClass_of_methodNamed Bd.named
  have hlocks := Bd.notSynchronized
  have hini : meth.name = "<init>" := (name_of_methodNamed Bd.named Bd.method).1
  have hin1 : ∀ w ∈ wsX10, w ∈ wsX1_init := by decide +kernel
  generalize hAe : va_A [(h0, bC0)] s.heap.size = A at hD ⊢
  have hA : ∀ q : Nat, s.heap.size ≤ q → A q := fun q h => by rw [← hAe]; exact Or.inr h
  have hS : va_S A s.heap s.heap [] := va_S.rf
  have hl := lv_entry ([.ref h0]) (n := 1) (Nat.le_of_ble_eq_true rfl)
  rw [lg_entry_eq]
  generalize (lg_sl ([.ref h0]) ++ List.replicate (1 - (lg_sl ([.ref h0])).length) Slot.unset).toArray = ls at hl ⊢
  have hl : lv_has ls 1 [(0, .ref h0)] := hl
  refine lv_aload_n hx hb dX1_init_0 rfl (lv_at hl 0 rfl) ?_
  refine W.objInit hx hb hown (hts (.methodLink RX1 1 objectInit) (by decide +kernel)) (hts (.instanceMethod objectInit) (by decide +kernel)) (hts _ (List.mem_cons_of_mem _ (List.mem_append_left _ (List.mem_of_getElem? (i := 2) rfl)))) rfl (by rw [hml]; exact hl.1) rfl dX1_init_1 (Nat.le_of_ble_eq_true rfl) (Nat.le_of_ble_eq_true rfl) ?_
  refine W.eq (g2 := F0 m 4 ls []) rfl ?_
  refine lv_aload_n hx hb dX1_init_4 rfl (lv_at hl 0 rfl) ?_
  refine lv_bipush (v := 12) hx hb dX1_init_5 (by decide) ?_
  refine va_newq (C := RX0) (n := 12) (N' := 12) hx hb hown (hts (.classLink RX1 9 RX0) (by decide +kernel)) hO hK hP hD hS hA (by decide) (by decide) (by decide) (Nat.le_of_ble_eq_true rfl) (Nat.le_of_ble_eq_true rfl) dX1_init_7 (fun q1 cyO H hK hP hD hS => ?_)
  refine W.widen (k := 1) (n := 12) (by omega) (by omega) ?_
  refine va_putF (D := G) (ci := 1) (v := .ref q1) (ty := tyX1 0) (C := RX1) (T := TX1) (N := 10) hx hb hts hin1 tyX1 tyX1_ok nmX1 hown hK hP hD hS 0 rfl rfl 0 (by decide) (hts (.fieldLink RX1 11 "SignalBox" "standing" "[LSignalBox$Section;") (by decide +kernel)) (fun _ h9 => h9) rfl hini rfl (by decide +kernel) rfl rfl (Nat.le_of_ble_eq_true rfl) dX1_init_10 (fun H locs hP hD hS => ?_)
  have hP : va_P G vwCl [(h0, .inr (1, [.ref q1, .null, .null, .null, .int 0, .int 0, .int 0, .int 0, .int 0, .int 0])), (q1, .inl (cyO, 12, .inr (.inr (.inr (.inr (fun _ => none))))))] H := hP
  have hD : va_D A [(h0, .inr (1, [.ref q1, .null, .null, .null, .int 0, .int 0, .int 0, .int 0, .int 0, .int 0])), (q1, .inl (cyO, 12, .inr (.inr (.inr (.inr (fun _ => none))))))] := hD
  refine lv_aload_n hx hb dX1_init_13 rfl (lv_at hl 0 rfl) ?_
  refine lv_bipush (v := 48) hx hb dX1_init_14 (by decide) ?_
  refine w_newa ⟨hx, hb, hml, hown, hts⟩ (by decide +kernel) hK hP hD hS hA 48 (by omega) rfl (show 1 + 1 ≤ 4 by omega) (show 12 + 48 ≤ 216 by omega) dX1_init_16 (fun q2 cA1 H hK hP hD hS => ?_)
  refine W.widen (k := 2) (n := 60) (by omega) (by omega) ?_
  refine va_putF (D := G) (ci := 1) (v := .ref q2) (ty := tyX1 1) (C := RX1) (T := TX1) (N := 10) hx hb hts hin1 tyX1 tyX1_ok nmX1 hown hK hP hD hS 0 rfl rfl 1 (by decide) (hts (.fieldLink RX1 15 "SignalBox" "routePlaces" "[I") (by decide +kernel)) (fun _ h9 => h9) rfl hini rfl (by decide +kernel) rfl rfl (Nat.le_of_ble_eq_true rfl) dX1_init_18 (fun H locs hP hD hS => ?_)
  have hP : va_P G vwCl [(h0, .inr (1, [.ref q1, .ref q2, .null, .null, .int 0, .int 0, .int 0, .int 0, .int 0, .int 0])), (q1, .inl (cyO, 12, .inr (.inr (.inr (.inr (fun _ => none)))))), (q2, .inl (cA1, 48, .inl (fun _ => 0)))] H := hP
  have hD : va_D A [(h0, .inr (1, [.ref q1, .ref q2, .null, .null, .int 0, .int 0, .int 0, .int 0, .int 0, .int 0])), (q1, .inl (cyO, 12, .inr (.inr (.inr (.inr (fun _ => none)))))), (q2, .inl (cA1, 48, .inl (fun _ => 0)))] := hD
  refine lv_aload_n hx hb dX1_init_21 rfl (lv_at hl 0 rfl) ?_
  refine lv_bipush (v := 6) hx hb dX1_init_22 (by decide) ?_
  refine w_newa ⟨hx, hb, hml, hown, hts⟩ (by decide +kernel) hK hP hD hS hA 6 (by omega) rfl (show 2 + 1 ≤ 4 by omega) (show 60 + 6 ≤ 216 by omega) dX1_init_24 (fun q3 cA2 H hK hP hD hS => ?_)
  have ec := (cy_eq 1 2 hK rfl rfl).symm
  subst ec
  refine W.widen (k := 3) (n := 66) (by omega) (by omega) ?_
  refine va_putF (D := G) (ci := 1) (v := .ref q3) (ty := tyX1 2) (C := RX1) (T := TX1) (N := 10) hx hb hts hin1 tyX1 tyX1_ok nmX1 hown hK hP hD hS 0 rfl rfl 2 (by decide) (hts (.fieldLink RX1 19 "SignalBox" "routeLengths" "[I") (by decide +kernel)) (fun _ h9 => h9) rfl hini rfl (by decide +kernel) rfl rfl (Nat.le_of_ble_eq_true rfl) dX1_init_26 (fun H locs hP hD hS => ?_)
  have hP : va_P G vwCl [(h0, .inr (1, [.ref q1, .ref q2, .ref q3, .null, .int 0, .int 0, .int 0, .int 0, .int 0, .int 0])), (q1, .inl (cyO, 12, .inr (.inr (.inr (.inr (fun _ => none)))))), (q2, .inl (cA1, 48, .inl (fun _ => 0))), (q3, .inl (cA1, 6, .inl (fun _ => 0)))] H := hP
  have hD : va_D A [(h0, .inr (1, [.ref q1, .ref q2, .ref q3, .null, .int 0, .int 0, .int 0, .int 0, .int 0, .int 0])), (q1, .inl (cyO, 12, .inr (.inr (.inr (.inr (fun _ => none)))))), (q2, .inl (cA1, 48, .inl (fun _ => 0))), (q3, .inl (cA1, 6, .inl (fun _ => 0)))] := hD
  refine lv_aload_n hx hb dX1_init_29 rfl (lv_at hl 0 rfl) ?_
  refine lv_sipush (v := 150) hx hb dX1_init_30 (by decide) ?_
  refine w_newa ⟨hx, hb, hml, hown, hts⟩ (by decide +kernel) hK hP hD hS hA 150 (by omega) rfl (show 3 + 1 ≤ 4 by omega) (show 66 + 150 ≤ 216 by omega) dX1_init_33 (fun q4 cA3 H hK hP hD hS => ?_)
  have ec := (cy_eq 1 3 hK rfl rfl).symm
  subst ec
  refine W.widen (k := 4) (n := 216) (by omega) (by omega) ?_
  refine va_putF (D := G) (ci := 1) (v := .ref q4) (ty := tyX1 3) (C := RX1) (T := TX1) (N := 10) hx hb hts hin1 tyX1 tyX1_ok nmX1 hown hK hP hD hS 0 rfl rfl 3 (by decide) (hts (.fieldLink RX1 22 "SignalBox" "trace" "[I") (by decide +kernel)) (fun _ h9 => h9) rfl hini rfl (by decide +kernel) rfl rfl (Nat.le_of_ble_eq_true rfl) dX1_init_35 (fun H locs hP hD hS => ?_)
  have hP : va_P G vwCl [(h0, .inr (1, [.ref q1, .ref q2, .ref q3, .ref q4, .int 0, .int 0, .int 0, .int 0, .int 0, .int 0])), (q1, .inl (cyO, 12, .inr (.inr (.inr (.inr (fun _ => none)))))), (q2, .inl (cA1, 48, .inl (fun _ => 0))), (q3, .inl (cA1, 6, .inl (fun _ => 0))), (q4, .inl (cA1, 150, .inl (fun _ => 0)))] H := hP
  have hD : va_D A [(h0, .inr (1, [.ref q1, .ref q2, .ref q3, .ref q4, .int 0, .int 0, .int 0, .int 0, .int 0, .int 0])), (q1, .inl (cyO, 12, .inr (.inr (.inr (.inr (fun _ => none)))))), (q2, .inl (cA1, 48, .inl (fun _ => 0))), (q3, .inl (cA1, 6, .inl (fun _ => 0))), (q4, .inl (cA1, 150, .inl (fun _ => 0)))] := hD
  refine W.widen (k := 4) (n := 216) (by omega) (by omega) ?_
  have hK9 : va_K G vwCl (tys_ cA1 cyO) s := hK.sub [1, 0] rfl
  exact W.vret hx hb hr (fun t ht hW => ⟨⟨rfl, cA1, cyO, (fun i => [h0, q1, q2, q3, q4].getD i 0), rfl, va_K.moved hW.alike hK9, by rw [ht]; exact hP, hD⟩, hS.F ht⟩) hS.2.2 dX1_init_38 hlocks
set_option maxRecDepth 100000 in
set_option maxHeartbeats 400000 in
theorem jX2_init_111 {p : Program} {l : Launch} {e : Env} {s : State} {m : MethodId} {args : Array Value} {below : List Frame} {meth : Method} {c : Code} {G : va_G} {cy cyO : ClassId} {a : Nat → Nat} {A : Nat → Prop} {h0 : Nat} (X : CallFix p m c cX2_init 2 s args wsX2_init RX2) (hr : meth.sig.returnType = none) (hlocks : meth.locks = false) (hK : va_K G vwCl (tys_ cy cyO) s) (hA : ∀ q, s.heap.size ≤ q → A q) (ha : a 0 = h0) : ∀ (d i : Nat), i + d = 12 → ∀ (f : Nat → Int32), (∀ q, q < i → f q = -1) → ∀ (H : Heap) (locs : List Loc), va_P G vwCl (mW a cy (zM0 f)) H → va_D A (mW a cy (zM0 f)) → va_S A s.heap H locs → ∀ (ls : Array Slot), lv_has ls 2 [(0, .ref (a 0)), (1, .int (nI i))] →
    W p l e ({ frames := 1, cells := 12, slots := 5336, locals := 12 } : Room) s m args below meth c H locs 12 5336 (MQ below (qg none (fun t => ∃ (a : Nat → Nat) (f : Nat → Int32), a 0 = h0 ∧ (∀ q, q < 12 → f q = -1) ∧ wPost G A (mW a cy (zM0 f)) t) A) args s 12 5336 A) (F0 m 111 ls []) := by
  obtain ⟨hx, hb, hml, hown, hts⟩ := id X
  have hin2 : ∀ w ∈ wsX20, w ∈ wsX2_init := by decide +kernel
  intro d
  induction d with
  | zero =>
    intro i hi f hf H locs hP hD hS ls hl
    have hi : i = 12 := by omega
    subst hi
    refine lv_iload_n hx hb dX2_init_111 rfl (lv_at hl 1 rfl) ?_
    refine lv_bipush (v := 12) hx hb dX2_init_112 (by decide) ?_
    refine lv_icmp_ge (tgt := 130) hx hb dX2_init_114 (by decide) (fun c1 => ?_) (fun c1 => absurd (by decide) c1)
    exact W.vret hx hb hr (fun t ht hW => ⟨⟨rfl, a, f, ha, hf, by rw [ht]; exact hP, hD⟩, hS.F ht⟩) hS.2.2 dX2_init_130 hlocks
  | succ d ih =>
    intro i hi f hf H locs hP hD hS ls hl
    refine lv_iload_n hx hb dX2_init_111 rfl (lv_at hl 1 rfl) ?_
    refine lv_bipush (v := 12) hx hb dX2_init_112 (by decide) ?_
    refine lv_icmp_ge (tgt := 130) hx hb dX2_init_114 (by decide) (fun c1 => absurd c1 (nI_ge (b := 12) (by omega) (by omega))) (fun c1 => ?_)
    refine lv_aload_n hx hb dX2_init_117 rfl (lv_at hl 0 rfl) ?_
    refine va_get (D := G) (ci := 2) (v := .ref (a 9)) (C := RX2) (T := TX2) (N := 18) hx hb hts hin2 hown hK hP 0 rfl rfl 9 (by decide) (hts (.fieldLink RX2 34 "SignalBoxModel" "at" "[I") (by decide +kernel)) (fun _ h9 => h9) rfl dX2_init_118 ?_
    refine lv_iload_n hx hb dX2_init_121 rfl (lv_at hl 1 rfl) ?_
    refine lv_iconst (v := (-1)) hx hb dX2_init_122 (by decide) ?_
    refine va_iast (n := 12) (f := f) (cA := cy) hx hb hK hP hD hS 9 0 rfl rfl (vp_in_nI (by omega) (by omega)) dX2_init_123 (fun H locs hP hD hS => ?_)
    have hP : va_P G vwCl (mW a cy (zM0 (upd f (nI i).toNatClampNeg (-1)))) H := hP
    have hD : va_D A (mW a cy (zM0 (upd f (nI i).toNatClampNeg (-1)))) := hD
    refine lv_iinc (v := nI i + 1) (lv' := [(1, .int (nI i + 1)), (0, .ref (a 0))]) hx hb dX2_init_124 hl (k := 1) rfl rfl (by decide) rfl (fun ls hl => ?_)
    refine lv_goto (tgt := 111) hx hb dX2_init_127 (by decide) ?_
    rw [nI_1] at hl
    refine ih (i + 1) (by omega) (upd f (nI i).toNatClampNeg (-1)) (fun q hq => ?_) H locs hP hD hS ls (lv_sub hl [1, 0] rfl)
    rw [nI_clamp (by omega)]
    by_cases hqi : q = i
    · subst hqi; exact pk_us
    · rw [pk_un hqi]; exact hf q (by omega)
set_option maxRecDepth 100000 in
set_option maxHeartbeats 400000 in
theorem kX2_init (l : Launch) (G : va_G) (cy cyO : ClassId) (h0 : Nat) : CtB l G (tys_ cy cyO) yX2_init wsX2_init ({ frames := 1, cells := 12, slots := 5336, locals := 12 } : Room) [.ref h0] [(h0, bM0)] none (fun A t => ∃ (a : Nat → Nat) (f : Nat → Int32), a 0 = h0 ∧ (∀ q, q < 12 → f q = -1) ∧ wPost G A (mW a cy (zM0 f)) t) 12 5336 := by
  refine ct_of (cc := cX2_init) (maxL := 2) (ret := none) (own := RX2) (by decide) rfl (Nat.le_of_ble_eq_true rfl) rfl ?_
  intro p e s m below meth c A ls X hr hlocks hnm hK hN hA hP hD hl
  have hS : va_S A s.heap s.heap [] := va_S.rf
  have hl : lv_has ls 2 [(0, .ref h0)] := hl
  obtain ⟨hx, hb, hml, hown, hts⟩ := id X
  have hin2 : ∀ w ∈ wsX20, w ∈ wsX2_init := by decide +kernel
  have hini : meth.name = "<init>" := hnm "<init>" rfl
  refine lv_aload_n hx hb dX2_init_0 rfl (lv_at hl 0 rfl) ?_
  refine W.objInit hx hb hown (hts (.methodLink RX2 1 objectInit) (by decide +kernel)) (hts (.instanceMethod objectInit) (by decide +kernel)) (hts _ (List.mem_cons_of_mem _ (List.mem_append_left _ (List.mem_of_getElem? (i := 2) rfl)))) rfl (by rw [hml]; exact hl.1) rfl dX2_init_1 (Nat.le_of_ble_eq_true rfl) (Nat.le_of_ble_eq_true rfl) ?_
  refine W.eq (g2 := F0 m 4 ls []) rfl ?_
  refine lv_aload_n hx hb dX2_init_4 rfl (lv_at hl 0 rfl) ?_
  refine lv_sipush (v := 640) hx hb dX2_init_5 (by decide) ?_
  refine w_newa X (by decide +kernel) hK hP hD hS hA 640 (by omega) rfl (show 0 + 1 ≤ 12 by omega) (show 0 + 640 ≤ 5336 by omega) dX2_init_8 (fun q1 cA H hK2 hP hD hS => ?_)
  refine W.widen (k := 1) (n := 640) (by omega) (by omega) ?_
  have ec := cy_eq 0 2 hK2 rfl rfl
  subst ec
  refine va_putF (D := G) (ci := 2) (v := .ref q1) (ty := .array .int) (C := RX2) (T := TX2) (N := 18) hx hb hts hin2 tyX2 tyX2_ok nmX2 hown hK hP hD hS 0 rfl rfl 1 (by decide) (hts (.fieldLink RX2 7 "SignalBoxModel" "kinds" "[I") (by decide +kernel)) (fun _ h9 => h9) rfl hini rfl (by decide +kernel) rfl rfl (Nat.le_of_ble_eq_true rfl) dX2_init_10 (fun H locs hP hD hS => ?_)
  have hP : va_P G vwCl [(h0, .inr (2, [.int 0, .ref q1, .null, .null, .null, .null, .null, .null, .null, .null, .null, .null, .null, .int 0, .int 0, .int 0, .int 0, .int 0])), (q1, .inl (cA, 640, .inl (fun _ => 0)))] H := hP
  have hD : va_D A [(h0, .inr (2, [.int 0, .ref q1, .null, .null, .null, .null, .null, .null, .null, .null, .null, .null, .null, .int 0, .int 0, .int 0, .int 0, .int 0])), (q1, .inl (cA, 640, .inl (fun _ => 0)))] := hD
  refine lv_aload_n hx hb dX2_init_13 rfl (lv_at hl 0 rfl) ?_
  refine lv_sipush (v := 640) hx hb dX2_init_14 (by decide) ?_
  refine w_newa X (by decide +kernel) hK hP hD hS hA 640 (by omega) rfl (show 1 + 1 ≤ 12 by omega) (show 640 + 640 ≤ 5336 by omega) dX2_init_17 (fun q2 cA H hK2 hP hD hS => ?_)
  refine W.widen (k := 2) (n := 1280) (by omega) (by omega) ?_
  have ec := cy_eq 0 2 hK2 rfl rfl
  subst ec
  refine va_putF (D := G) (ci := 2) (v := .ref q2) (ty := .array .int) (C := RX2) (T := TX2) (N := 18) hx hb hts hin2 tyX2 tyX2_ok nmX2 hown hK hP hD hS 0 rfl rfl 2 (by decide) (hts (.fieldLink RX2 13 "SignalBoxModel" "limits" "[I") (by decide +kernel)) (fun _ h9 => h9) rfl hini rfl (by decide +kernel) rfl rfl (Nat.le_of_ble_eq_true rfl) dX2_init_19 (fun H locs hP hD hS => ?_)
  have hP : va_P G vwCl [(h0, .inr (2, [.int 0, .ref q1, .ref q2, .null, .null, .null, .null, .null, .null, .null, .null, .null, .null, .int 0, .int 0, .int 0, .int 0, .int 0])), (q1, .inl (cA, 640, .inl (fun _ => 0))), (q2, .inl (cA, 640, .inl (fun _ => 0)))] H := hP
  have hD : va_D A [(h0, .inr (2, [.int 0, .ref q1, .ref q2, .null, .null, .null, .null, .null, .null, .null, .null, .null, .null, .int 0, .int 0, .int 0, .int 0, .int 0])), (q1, .inl (cA, 640, .inl (fun _ => 0))), (q2, .inl (cA, 640, .inl (fun _ => 0)))] := hD
  refine lv_aload_n hx hb dX2_init_22 rfl (lv_at hl 0 rfl) ?_
  refine lv_sipush (v := 640) hx hb dX2_init_23 (by decide) ?_
  refine w_newa X (by decide +kernel) hK hP hD hS hA 640 (by omega) rfl (show 2 + 1 ≤ 12 by omega) (show 1280 + 640 ≤ 5336 by omega) dX2_init_26 (fun q3 cA H hK2 hP hD hS => ?_)
  refine W.widen (k := 3) (n := 1920) (by omega) (by omega) ?_
  have ec := cy_eq 0 2 hK2 rfl rfl
  subst ec
  refine va_putF (D := G) (ci := 2) (v := .ref q3) (ty := .array .int) (C := RX2) (T := TX2) (N := 18) hx hb hts hin2 tyX2 tyX2_ok nmX2 hown hK hP hD hS 0 rfl rfl 3 (by decide) (hts (.fieldLink RX2 16 "SignalBoxModel" "marks" "[I") (by decide +kernel)) (fun _ h9 => h9) rfl hini rfl (by decide +kernel) rfl rfl (Nat.le_of_ble_eq_true rfl) dX2_init_28 (fun H locs hP hD hS => ?_)
  have hP : va_P G vwCl [(h0, .inr (2, [.int 0, .ref q1, .ref q2, .ref q3, .null, .null, .null, .null, .null, .null, .null, .null, .null, .int 0, .int 0, .int 0, .int 0, .int 0])), (q1, .inl (cA, 640, .inl (fun _ => 0))), (q2, .inl (cA, 640, .inl (fun _ => 0))), (q3, .inl (cA, 640, .inl (fun _ => 0)))] H := hP
  have hD : va_D A [(h0, .inr (2, [.int 0, .ref q1, .ref q2, .ref q3, .null, .null, .null, .null, .null, .null, .null, .null, .null, .int 0, .int 0, .int 0, .int 0, .int 0])), (q1, .inl (cA, 640, .inl (fun _ => 0))), (q2, .inl (cA, 640, .inl (fun _ => 0))), (q3, .inl (cA, 640, .inl (fun _ => 0)))] := hD
  refine lv_aload_n hx hb dX2_init_31 rfl (lv_at hl 0 rfl) ?_
  refine lv_sipush (v := 640) hx hb dX2_init_32 (by decide) ?_
  refine w_newa X (by decide +kernel) hK hP hD hS hA 640 (by omega) rfl (show 3 + 1 ≤ 12 by omega) (show 1920 + 640 ≤ 5336 by omega) dX2_init_35 (fun q4 cA H hK2 hP hD hS => ?_)
  refine W.widen (k := 4) (n := 2560) (by omega) (by omega) ?_
  have ec := cy_eq 0 2 hK2 rfl rfl
  subst ec
  refine va_putF (D := G) (ci := 2) (v := .ref q4) (ty := .array .int) (C := RX2) (T := TX2) (N := 18) hx hb hts hin2 tyX2 tyX2_ok nmX2 hown hK hP hD hS 0 rfl rfl 4 (by decide) (hts (.fieldLink RX2 19 "SignalBoxModel" "axles" "[I") (by decide +kernel)) (fun _ h9 => h9) rfl hini rfl (by decide +kernel) rfl rfl (Nat.le_of_ble_eq_true rfl) dX2_init_37 (fun H locs hP hD hS => ?_)
  have hP : va_P G vwCl [(h0, .inr (2, [.int 0, .ref q1, .ref q2, .ref q3, .ref q4, .null, .null, .null, .null, .null, .null, .null, .null, .int 0, .int 0, .int 0, .int 0, .int 0])), (q1, .inl (cA, 640, .inl (fun _ => 0))), (q2, .inl (cA, 640, .inl (fun _ => 0))), (q3, .inl (cA, 640, .inl (fun _ => 0))), (q4, .inl (cA, 640, .inl (fun _ => 0)))] H := hP
  have hD : va_D A [(h0, .inr (2, [.int 0, .ref q1, .ref q2, .ref q3, .ref q4, .null, .null, .null, .null, .null, .null, .null, .null, .int 0, .int 0, .int 0, .int 0, .int 0])), (q1, .inl (cA, 640, .inl (fun _ => 0))), (q2, .inl (cA, 640, .inl (fun _ => 0))), (q3, .inl (cA, 640, .inl (fun _ => 0))), (q4, .inl (cA, 640, .inl (fun _ => 0)))] := hD
  refine lv_aload_n hx hb dX2_init_40 rfl (lv_at hl 0 rfl) ?_
  refine lv_sipush (v := 640) hx hb dX2_init_41 (by decide) ?_
  refine w_newa X (by decide +kernel) hK hP hD hS hA 640 (by omega) rfl (show 4 + 1 ≤ 12 by omega) (show 2560 + 640 ≤ 5336 by omega) dX2_init_44 (fun q5 cA H hK2 hP hD hS => ?_)
  refine W.widen (k := 5) (n := 3200) (by omega) (by omega) ?_
  have ec := cy_eq 0 2 hK2 rfl rfl
  subst ec
  refine va_putF (D := G) (ci := 2) (v := .ref q5) (ty := .array .int) (C := RX2) (T := TX2) (N := 18) hx hb hts hin2 tyX2 tyX2_ok nmX2 hown hK hP hD hS 0 rfl rfl 5 (by decide) (hts (.fieldLink RX2 22 "SignalBoxModel" "legs" "[I") (by decide +kernel)) (fun _ h9 => h9) rfl hini rfl (by decide +kernel) rfl rfl (Nat.le_of_ble_eq_true rfl) dX2_init_46 (fun H locs hP hD hS => ?_)
  have hP : va_P G vwCl [(h0, .inr (2, [.int 0, .ref q1, .ref q2, .ref q3, .ref q4, .ref q5, .null, .null, .null, .null, .null, .null, .null, .int 0, .int 0, .int 0, .int 0, .int 0])), (q1, .inl (cA, 640, .inl (fun _ => 0))), (q2, .inl (cA, 640, .inl (fun _ => 0))), (q3, .inl (cA, 640, .inl (fun _ => 0))), (q4, .inl (cA, 640, .inl (fun _ => 0))), (q5, .inl (cA, 640, .inl (fun _ => 0)))] H := hP
  have hD : va_D A [(h0, .inr (2, [.int 0, .ref q1, .ref q2, .ref q3, .ref q4, .ref q5, .null, .null, .null, .null, .null, .null, .null, .int 0, .int 0, .int 0, .int 0, .int 0])), (q1, .inl (cA, 640, .inl (fun _ => 0))), (q2, .inl (cA, 640, .inl (fun _ => 0))), (q3, .inl (cA, 640, .inl (fun _ => 0))), (q4, .inl (cA, 640, .inl (fun _ => 0))), (q5, .inl (cA, 640, .inl (fun _ => 0)))] := hD
  refine lv_aload_n hx hb dX2_init_49 rfl (lv_at hl 0 rfl) ?_
  refine lv_sipush (v := 640) hx hb dX2_init_50 (by decide) ?_
  refine w_newa X (by decide +kernel) hK hP hD hS hA 640 (by omega) rfl (show 5 + 1 ≤ 12 by omega) (show 3200 + 640 ≤ 5336 by omega) dX2_init_53 (fun q6 cA H hK2 hP hD hS => ?_)
  refine W.widen (k := 6) (n := 3840) (by omega) (by omega) ?_
  have ec := cy_eq 0 2 hK2 rfl rfl
  subst ec
  refine va_putF (D := G) (ci := 2) (v := .ref q6) (ty := .array .int) (C := RX2) (T := TX2) (N := 18) hx hb hts hin2 tyX2 tyX2_ok nmX2 hown hK hP hD hS 0 rfl rfl 6 (by decide) (hts (.fieldLink RX2 25 "SignalBoxModel" "claims" "[I") (by decide +kernel)) (fun _ h9 => h9) rfl hini rfl (by decide +kernel) rfl rfl (Nat.le_of_ble_eq_true rfl) dX2_init_55 (fun H locs hP hD hS => ?_)
  have hP : va_P G vwCl [(h0, .inr (2, [.int 0, .ref q1, .ref q2, .ref q3, .ref q4, .ref q5, .ref q6, .null, .null, .null, .null, .null, .null, .int 0, .int 0, .int 0, .int 0, .int 0])), (q1, .inl (cA, 640, .inl (fun _ => 0))), (q2, .inl (cA, 640, .inl (fun _ => 0))), (q3, .inl (cA, 640, .inl (fun _ => 0))), (q4, .inl (cA, 640, .inl (fun _ => 0))), (q5, .inl (cA, 640, .inl (fun _ => 0))), (q6, .inl (cA, 640, .inl (fun _ => 0)))] H := hP
  have hD : va_D A [(h0, .inr (2, [.int 0, .ref q1, .ref q2, .ref q3, .ref q4, .ref q5, .ref q6, .null, .null, .null, .null, .null, .null, .int 0, .int 0, .int 0, .int 0, .int 0])), (q1, .inl (cA, 640, .inl (fun _ => 0))), (q2, .inl (cA, 640, .inl (fun _ => 0))), (q3, .inl (cA, 640, .inl (fun _ => 0))), (q4, .inl (cA, 640, .inl (fun _ => 0))), (q5, .inl (cA, 640, .inl (fun _ => 0))), (q6, .inl (cA, 640, .inl (fun _ => 0)))] := hD
  refine lv_aload_n hx hb dX2_init_58 rfl (lv_at hl 0 rfl) ?_
  refine lv_sipush (v := 640) hx hb dX2_init_59 (by decide) ?_
  refine w_newa X (by decide +kernel) hK hP hD hS hA 640 (by omega) rfl (show 6 + 1 ≤ 12 by omega) (show 3840 + 640 ≤ 5336 by omega) dX2_init_62 (fun q7 cA H hK2 hP hD hS => ?_)
  refine W.widen (k := 7) (n := 4480) (by omega) (by omega) ?_
  have ec := cy_eq 0 2 hK2 rfl rfl
  subst ec
  refine va_putF (D := G) (ci := 2) (v := .ref q7) (ty := .array .int) (C := RX2) (T := TX2) (N := 18) hx hb hts hin2 tyX2 tyX2_ok nmX2 hown hK hP hD hS 0 rfl rfl 7 (by decide) (hts (.fieldLink RX2 28 "SignalBoxModel" "held" "[I") (by decide +kernel)) (fun _ h9 => h9) rfl hini rfl (by decide +kernel) rfl rfl (Nat.le_of_ble_eq_true rfl) dX2_init_64 (fun H locs hP hD hS => ?_)
  have hP : va_P G vwCl [(h0, .inr (2, [.int 0, .ref q1, .ref q2, .ref q3, .ref q4, .ref q5, .ref q6, .ref q7, .null, .null, .null, .null, .null, .int 0, .int 0, .int 0, .int 0, .int 0])), (q1, .inl (cA, 640, .inl (fun _ => 0))), (q2, .inl (cA, 640, .inl (fun _ => 0))), (q3, .inl (cA, 640, .inl (fun _ => 0))), (q4, .inl (cA, 640, .inl (fun _ => 0))), (q5, .inl (cA, 640, .inl (fun _ => 0))), (q6, .inl (cA, 640, .inl (fun _ => 0))), (q7, .inl (cA, 640, .inl (fun _ => 0)))] H := hP
  have hD : va_D A [(h0, .inr (2, [.int 0, .ref q1, .ref q2, .ref q3, .ref q4, .ref q5, .ref q6, .ref q7, .null, .null, .null, .null, .null, .int 0, .int 0, .int 0, .int 0, .int 0])), (q1, .inl (cA, 640, .inl (fun _ => 0))), (q2, .inl (cA, 640, .inl (fun _ => 0))), (q3, .inl (cA, 640, .inl (fun _ => 0))), (q4, .inl (cA, 640, .inl (fun _ => 0))), (q5, .inl (cA, 640, .inl (fun _ => 0))), (q6, .inl (cA, 640, .inl (fun _ => 0))), (q7, .inl (cA, 640, .inl (fun _ => 0)))] := hD
  refine lv_aload_n hx hb dX2_init_67 rfl (lv_at hl 0 rfl) ?_
  refine lv_sipush (v := 640) hx hb dX2_init_68 (by decide) ?_
  refine w_newa X (by decide +kernel) hK hP hD hS hA 640 (by omega) rfl (show 7 + 1 ≤ 12 by omega) (show 4480 + 640 ≤ 5336 by omega) dX2_init_71 (fun q8 cA H hK2 hP hD hS => ?_)
  refine W.widen (k := 8) (n := 5120) (by omega) (by omega) ?_
  have ec := cy_eq 0 2 hK2 rfl rfl
  subst ec
  refine va_putF (D := G) (ci := 2) (v := .ref q8) (ty := .array .int) (C := RX2) (T := TX2) (N := 18) hx hb hts hin2 tyX2 tyX2_ok nmX2 hown hK hP hD hS 0 rfl rfl 8 (by decide) (hts (.fieldLink RX2 31 "SignalBoxModel" "most" "[I") (by decide +kernel)) (fun _ h9 => h9) rfl hini rfl (by decide +kernel) rfl rfl (Nat.le_of_ble_eq_true rfl) dX2_init_73 (fun H locs hP hD hS => ?_)
  have hP : va_P G vwCl [(h0, .inr (2, [.int 0, .ref q1, .ref q2, .ref q3, .ref q4, .ref q5, .ref q6, .ref q7, .ref q8, .null, .null, .null, .null, .int 0, .int 0, .int 0, .int 0, .int 0])), (q1, .inl (cA, 640, .inl (fun _ => 0))), (q2, .inl (cA, 640, .inl (fun _ => 0))), (q3, .inl (cA, 640, .inl (fun _ => 0))), (q4, .inl (cA, 640, .inl (fun _ => 0))), (q5, .inl (cA, 640, .inl (fun _ => 0))), (q6, .inl (cA, 640, .inl (fun _ => 0))), (q7, .inl (cA, 640, .inl (fun _ => 0))), (q8, .inl (cA, 640, .inl (fun _ => 0)))] H := hP
  have hD : va_D A [(h0, .inr (2, [.int 0, .ref q1, .ref q2, .ref q3, .ref q4, .ref q5, .ref q6, .ref q7, .ref q8, .null, .null, .null, .null, .int 0, .int 0, .int 0, .int 0, .int 0])), (q1, .inl (cA, 640, .inl (fun _ => 0))), (q2, .inl (cA, 640, .inl (fun _ => 0))), (q3, .inl (cA, 640, .inl (fun _ => 0))), (q4, .inl (cA, 640, .inl (fun _ => 0))), (q5, .inl (cA, 640, .inl (fun _ => 0))), (q6, .inl (cA, 640, .inl (fun _ => 0))), (q7, .inl (cA, 640, .inl (fun _ => 0))), (q8, .inl (cA, 640, .inl (fun _ => 0)))] := hD
  refine lv_aload_n hx hb dX2_init_76 rfl (lv_at hl 0 rfl) ?_
  refine lv_bipush (v := 12) hx hb dX2_init_77 (by decide) ?_
  refine w_newa X (by decide +kernel) hK hP hD hS hA 12 (by omega) rfl (show 8 + 1 ≤ 12 by omega) (show 5120 + 12 ≤ 5336 by omega) dX2_init_79 (fun q9 cA H hK2 hP hD hS => ?_)
  refine W.widen (k := 9) (n := 5132) (by omega) (by omega) ?_
  have ec := cy_eq 0 2 hK2 rfl rfl
  subst ec
  refine va_putF (D := G) (ci := 2) (v := .ref q9) (ty := .array .int) (C := RX2) (T := TX2) (N := 18) hx hb hts hin2 tyX2 tyX2_ok nmX2 hown hK hP hD hS 0 rfl rfl 9 (by decide) (hts (.fieldLink RX2 34 "SignalBoxModel" "at" "[I") (by decide +kernel)) (fun _ h9 => h9) rfl hini rfl (by decide +kernel) rfl rfl (Nat.le_of_ble_eq_true rfl) dX2_init_81 (fun H locs hP hD hS => ?_)
  have hP : va_P G vwCl [(h0, .inr (2, [.int 0, .ref q1, .ref q2, .ref q3, .ref q4, .ref q5, .ref q6, .ref q7, .ref q8, .ref q9, .null, .null, .null, .int 0, .int 0, .int 0, .int 0, .int 0])), (q1, .inl (cA, 640, .inl (fun _ => 0))), (q2, .inl (cA, 640, .inl (fun _ => 0))), (q3, .inl (cA, 640, .inl (fun _ => 0))), (q4, .inl (cA, 640, .inl (fun _ => 0))), (q5, .inl (cA, 640, .inl (fun _ => 0))), (q6, .inl (cA, 640, .inl (fun _ => 0))), (q7, .inl (cA, 640, .inl (fun _ => 0))), (q8, .inl (cA, 640, .inl (fun _ => 0))), (q9, .inl (cA, 12, .inl (fun _ => 0)))] H := hP
  have hD : va_D A [(h0, .inr (2, [.int 0, .ref q1, .ref q2, .ref q3, .ref q4, .ref q5, .ref q6, .ref q7, .ref q8, .ref q9, .null, .null, .null, .int 0, .int 0, .int 0, .int 0, .int 0])), (q1, .inl (cA, 640, .inl (fun _ => 0))), (q2, .inl (cA, 640, .inl (fun _ => 0))), (q3, .inl (cA, 640, .inl (fun _ => 0))), (q4, .inl (cA, 640, .inl (fun _ => 0))), (q5, .inl (cA, 640, .inl (fun _ => 0))), (q6, .inl (cA, 640, .inl (fun _ => 0))), (q7, .inl (cA, 640, .inl (fun _ => 0))), (q8, .inl (cA, 640, .inl (fun _ => 0))), (q9, .inl (cA, 12, .inl (fun _ => 0)))] := hD
  refine lv_aload_n hx hb dX2_init_84 rfl (lv_at hl 0 rfl) ?_
  refine lv_bipush (v := 48) hx hb dX2_init_85 (by decide) ?_
  refine w_newa X (by decide +kernel) hK hP hD hS hA 48 (by omega) rfl (show 9 + 1 ≤ 12 by omega) (show 5132 + 48 ≤ 5336 by omega) dX2_init_87 (fun q10 cA H hK2 hP hD hS => ?_)
  refine W.widen (k := 10) (n := 5180) (by omega) (by omega) ?_
  have ec := cy_eq 0 2 hK2 rfl rfl
  subst ec
  refine va_putF (D := G) (ci := 2) (v := .ref q10) (ty := .array .int) (C := RX2) (T := TX2) (N := 18) hx hb hts hin2 tyX2 tyX2_ok nmX2 hown hK hP hD hS 0 rfl rfl 10 (by decide) (hts (.fieldLink RX2 37 "SignalBoxModel" "routes" "[I") (by decide +kernel)) (fun _ h9 => h9) rfl hini rfl (by decide +kernel) rfl rfl (Nat.le_of_ble_eq_true rfl) dX2_init_89 (fun H locs hP hD hS => ?_)
  have hP : va_P G vwCl [(h0, .inr (2, [.int 0, .ref q1, .ref q2, .ref q3, .ref q4, .ref q5, .ref q6, .ref q7, .ref q8, .ref q9, .ref q10, .null, .null, .int 0, .int 0, .int 0, .int 0, .int 0])), (q1, .inl (cA, 640, .inl (fun _ => 0))), (q2, .inl (cA, 640, .inl (fun _ => 0))), (q3, .inl (cA, 640, .inl (fun _ => 0))), (q4, .inl (cA, 640, .inl (fun _ => 0))), (q5, .inl (cA, 640, .inl (fun _ => 0))), (q6, .inl (cA, 640, .inl (fun _ => 0))), (q7, .inl (cA, 640, .inl (fun _ => 0))), (q8, .inl (cA, 640, .inl (fun _ => 0))), (q9, .inl (cA, 12, .inl (fun _ => 0))), (q10, .inl (cA, 48, .inl (fun _ => 0)))] H := hP
  have hD : va_D A [(h0, .inr (2, [.int 0, .ref q1, .ref q2, .ref q3, .ref q4, .ref q5, .ref q6, .ref q7, .ref q8, .ref q9, .ref q10, .null, .null, .int 0, .int 0, .int 0, .int 0, .int 0])), (q1, .inl (cA, 640, .inl (fun _ => 0))), (q2, .inl (cA, 640, .inl (fun _ => 0))), (q3, .inl (cA, 640, .inl (fun _ => 0))), (q4, .inl (cA, 640, .inl (fun _ => 0))), (q5, .inl (cA, 640, .inl (fun _ => 0))), (q6, .inl (cA, 640, .inl (fun _ => 0))), (q7, .inl (cA, 640, .inl (fun _ => 0))), (q8, .inl (cA, 640, .inl (fun _ => 0))), (q9, .inl (cA, 12, .inl (fun _ => 0))), (q10, .inl (cA, 48, .inl (fun _ => 0)))] := hD
  refine lv_aload_n hx hb dX2_init_92 rfl (lv_at hl 0 rfl) ?_
  refine lv_bipush (v := 6) hx hb dX2_init_93 (by decide) ?_
  refine w_newa X (by decide +kernel) hK hP hD hS hA 6 (by omega) rfl (show 10 + 1 ≤ 12 by omega) (show 5180 + 6 ≤ 5336 by omega) dX2_init_95 (fun q11 cA H hK2 hP hD hS => ?_)
  refine W.widen (k := 11) (n := 5186) (by omega) (by omega) ?_
  have ec := cy_eq 0 2 hK2 rfl rfl
  subst ec
  refine va_putF (D := G) (ci := 2) (v := .ref q11) (ty := .array .int) (C := RX2) (T := TX2) (N := 18) hx hb hts hin2 tyX2 tyX2_ok nmX2 hown hK hP hD hS 0 rfl rfl 11 (by decide) (hts (.fieldLink RX2 40 "SignalBoxModel" "lengths" "[I") (by decide +kernel)) (fun _ h9 => h9) rfl hini rfl (by decide +kernel) rfl rfl (Nat.le_of_ble_eq_true rfl) dX2_init_97 (fun H locs hP hD hS => ?_)
  have hP : va_P G vwCl [(h0, .inr (2, [.int 0, .ref q1, .ref q2, .ref q3, .ref q4, .ref q5, .ref q6, .ref q7, .ref q8, .ref q9, .ref q10, .ref q11, .null, .int 0, .int 0, .int 0, .int 0, .int 0])), (q1, .inl (cA, 640, .inl (fun _ => 0))), (q2, .inl (cA, 640, .inl (fun _ => 0))), (q3, .inl (cA, 640, .inl (fun _ => 0))), (q4, .inl (cA, 640, .inl (fun _ => 0))), (q5, .inl (cA, 640, .inl (fun _ => 0))), (q6, .inl (cA, 640, .inl (fun _ => 0))), (q7, .inl (cA, 640, .inl (fun _ => 0))), (q8, .inl (cA, 640, .inl (fun _ => 0))), (q9, .inl (cA, 12, .inl (fun _ => 0))), (q10, .inl (cA, 48, .inl (fun _ => 0))), (q11, .inl (cA, 6, .inl (fun _ => 0)))] H := hP
  have hD : va_D A [(h0, .inr (2, [.int 0, .ref q1, .ref q2, .ref q3, .ref q4, .ref q5, .ref q6, .ref q7, .ref q8, .ref q9, .ref q10, .ref q11, .null, .int 0, .int 0, .int 0, .int 0, .int 0])), (q1, .inl (cA, 640, .inl (fun _ => 0))), (q2, .inl (cA, 640, .inl (fun _ => 0))), (q3, .inl (cA, 640, .inl (fun _ => 0))), (q4, .inl (cA, 640, .inl (fun _ => 0))), (q5, .inl (cA, 640, .inl (fun _ => 0))), (q6, .inl (cA, 640, .inl (fun _ => 0))), (q7, .inl (cA, 640, .inl (fun _ => 0))), (q8, .inl (cA, 640, .inl (fun _ => 0))), (q9, .inl (cA, 12, .inl (fun _ => 0))), (q10, .inl (cA, 48, .inl (fun _ => 0))), (q11, .inl (cA, 6, .inl (fun _ => 0)))] := hD
  refine lv_aload_n hx hb dX2_init_100 rfl (lv_at hl 0 rfl) ?_
  refine lv_sipush (v := 150) hx hb dX2_init_101 (by decide) ?_
  refine w_newa X (by decide +kernel) hK hP hD hS hA 150 (by omega) rfl (show 11 + 1 ≤ 12 by omega) (show 5186 + 150 ≤ 5336 by omega) dX2_init_104 (fun q12 cA H hK2 hP hD hS => ?_)
  refine W.widen (k := 12) (n := 5336) (by omega) (by omega) ?_
  have ec := cy_eq 0 2 hK2 rfl rfl
  subst ec
  refine va_putF (D := G) (ci := 2) (v := .ref q12) (ty := .array .int) (C := RX2) (T := TX2) (N := 18) hx hb hts hin2 tyX2 tyX2_ok nmX2 hown hK hP hD hS 0 rfl rfl 12 (by decide) (hts (.fieldLink RX2 43 "SignalBoxModel" "trace" "[I") (by decide +kernel)) (fun _ h9 => h9) rfl hini rfl (by decide +kernel) rfl rfl (Nat.le_of_ble_eq_true rfl) dX2_init_106 (fun H locs hP hD hS => ?_)
  have hP : va_P G vwCl [(h0, .inr (2, [.int 0, .ref q1, .ref q2, .ref q3, .ref q4, .ref q5, .ref q6, .ref q7, .ref q8, .ref q9, .ref q10, .ref q11, .ref q12, .int 0, .int 0, .int 0, .int 0, .int 0])), (q1, .inl (cA, 640, .inl (fun _ => 0))), (q2, .inl (cA, 640, .inl (fun _ => 0))), (q3, .inl (cA, 640, .inl (fun _ => 0))), (q4, .inl (cA, 640, .inl (fun _ => 0))), (q5, .inl (cA, 640, .inl (fun _ => 0))), (q6, .inl (cA, 640, .inl (fun _ => 0))), (q7, .inl (cA, 640, .inl (fun _ => 0))), (q8, .inl (cA, 640, .inl (fun _ => 0))), (q9, .inl (cA, 12, .inl (fun _ => 0))), (q10, .inl (cA, 48, .inl (fun _ => 0))), (q11, .inl (cA, 6, .inl (fun _ => 0))), (q12, .inl (cA, 150, .inl (fun _ => 0)))] H := hP
  have hD : va_D A [(h0, .inr (2, [.int 0, .ref q1, .ref q2, .ref q3, .ref q4, .ref q5, .ref q6, .ref q7, .ref q8, .ref q9, .ref q10, .ref q11, .ref q12, .int 0, .int 0, .int 0, .int 0, .int 0])), (q1, .inl (cA, 640, .inl (fun _ => 0))), (q2, .inl (cA, 640, .inl (fun _ => 0))), (q3, .inl (cA, 640, .inl (fun _ => 0))), (q4, .inl (cA, 640, .inl (fun _ => 0))), (q5, .inl (cA, 640, .inl (fun _ => 0))), (q6, .inl (cA, 640, .inl (fun _ => 0))), (q7, .inl (cA, 640, .inl (fun _ => 0))), (q8, .inl (cA, 640, .inl (fun _ => 0))), (q9, .inl (cA, 12, .inl (fun _ => 0))), (q10, .inl (cA, 48, .inl (fun _ => 0))), (q11, .inl (cA, 6, .inl (fun _ => 0))), (q12, .inl (cA, 150, .inl (fun _ => 0)))] := hD
  refine lv_iconst (v := 0) hx hb dX2_init_109 (by decide) ?_
  refine lv_istore_n (lv' := [(1, .int 0), (0, .ref h0)]) hx hb dX2_init_110 rfl hl (by decide) rfl (fun ls hl => ?_)
  refine W.widen (k := 12) (n := 5336) (by omega) (by omega) ?_
  exact jX2_init_111 (a := fun i => [h0, q1, q2, q3, q4, q5, q6, q7, q8, q9, q10, q11, q12].getD i 0) X hr hlocks hK hA rfl 12 0 (by omega) (fun _ => 0) (fun q hq => by omega) H _ hP hD hS ls (lv_sub hl [1, 0] rfl)
