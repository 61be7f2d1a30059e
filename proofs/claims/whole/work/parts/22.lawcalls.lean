/-! THE CLAIM OUT OF ONE WALK OF THE LAW'S BODY. Your part is whole_start (and what it stands on); all else here is the same for every law, but numbers. -/
def R_law : String := "SignalBoxLaw"
def lw_P (b : Addr) (xs : List Int32) (args : Array Value) (s : State) : Prop := args = #[.ref b] ∧ s.IntsAt b xs ∧ xs.length ≤ 2560 ∧ (Jvm.Cond.and given_1 narrow_1).before args s = true
def lw_Q (_ : Array Value) (s : State) (o : Outcome) (t : State) : Prop := o = .returned (some (.int 1)) ∧ Framed s o t [] 600000 7302250
def lw_Z (below : List Frame) (a : Array Value) (s : State) : State → Prop := fun t => ∃ o, t.status = .running ∧ Ended t below o ∧ lw_Q a s o t
/-- the law's own end, with 1 on the stack, nothing written that was there before, its room as the claim has it -/
theorem lw_ret {p : Program} {l : Launch} {e : Env} {s : State} {m : MethodId} {below : List Frame} {meth : Method} {c : Code} {b : Nat} (hx : p.tables.exec = Jvm.exec) (hb : c.code = code) (hr : meth.sig.returnType = ret) (hlocks : meth.locks = false) {pc : Nat} {H : Heap} {ls : Array Slot} (hdg : decode code pc = .ok (.ireturn, 1)) : W p l e room_1 s m #[Value.ref b] below meth c H [] 600000 7302250 (lw_Z below #[Value.ref b] s) (F0 m pc ls [.int 1]) := by
  intro T hT X
  obtain ⟨fs, hret, hrun, hended, hW, hframe⟩ := X.leave (v := some (.int 1)) (hlocks := hlocks) (fun h => by rw [hr] at h; cases h)
  have hmeth' : T.vm.method? m = some meth := X.method'
  refine ⟨T.setFrames fs, ?_, .returned (some (.int 1)), hrun, hended, rfl, ⟨_, rfl⟩, hW, hframe⟩
  jvm_step X.here [X.here.top, hx, hb, hdg, hmeth', hr, ret, narrow_b1]
  (try refine ⟨rfl, ?_⟩); (try refine ⟨rfl, ?_⟩)
  first | (intro acts; rw [hret _ acts rfl rfl rfl]) | rw [hret _ _ rfl rfl rfl]
  exact Steps.refl _
/-- what holds at the law's entry: the machine, the code, the tables' words (any of lw_tbl by 'hts w (by decide +kernel)'), the script of L ints xs at the cell b, what the Statement gives of the start (any of its parts by flat_of_before) -/
def lw_At (p : Program) (s : State) (m : MethodId) (meth : Method) (c : Code) (b L : Nat) (xs : Nat → Int32) : Prop :=
  p.tables.exec = Jvm.exec ∧ c.code = code ∧ meth.sig.returnType = ret ∧ c.maxLocals = 4 ∧ s.vm.findClass R_law = some m.cls ∧ (∀ w ∈ lw_tbl, w.before #[Value.ref b] s = true) ∧ va_X b L xs s s.heap ∧ b < s.heap.size ∧ meth.locks = false ∧ (Jvm.Cond.and given_1 narrow_1).before #[Value.ref b] s = true

section LAWC
variable {p : Program} {l : Launch} {e : Env} {R : Room} {s : State} {m : MethodId} {args : Array Value} {below : List Frame} {meth : Method} {c : Code} {H : Heap} {locs : List Loc} {cells slots : Nat} {Q : State → Prop}
variable {cc bytes : ByteArray} {nL maxL index n mc ms pc : Nat} {Ts ws : List Cond} {own C : String} {y : MethodName} {ret : Option FieldType} {rm : Room} {G : va_G} {ty : List (ClassId × FieldType)} {w w' wr : va_W} {v : Option Value} {A : Nat → Prop} {ls : Array Slot} {st0 rest As : List Value} {b : Nat} {B : (Nat → Prop) → State → Prop}
theorem D_nil {A : Nat → Prop} : va_D A [] := ⟨fun i j p q h => by simp at h, fun k q h => by simp at h⟩
/-- a call on one of two worlds that lie apart -/
theorem lc_G (X : CallFix p m c cc nL s args Ts own) (hK : va_K G vwCl ty s) (hN : nw s) (hA : ∀ q, s.heap.size ≤ q → A q) (hP : va_P G vwCl w H) (hD : va_D A w) (hPr : va_P G vwCl wr H) (hap : Ap w wr) (hS : va_S A s.heap H locs) (hC : CtB l G ty y ws rm (.ref b :: As) w v B mc ms) (cw : CallW R s args own C index y bytes maxL ret ws rm mc ms n)
    (hrecv : ∃ cellB : Cell, H[b]? = some cellB ∧ cellB.vm.isStatics = false ∧ s.vm.findClass C = some cellB.cls) (hn : As.length = n) (hsize : ls.size = nL) (hst : st0 = As.reverse ++ .ref b :: rest) (hroom : (rest.map fun v => v.category).sum ≤ 8) (hdg : decode cc pc = .ok (.invokevirtual index, 3)) (hf : cells + mc ≤ R.cells ∧ slots + ms ≤ R.slots)
    (kk : ∀ (t : State) (A1 : Nat → Prop) (H1 : Heap) (locs1 : List Loc), t.heap = H1 → B A1 t → (∀ q, A1 q → A q) → (∀ w1 : va_W, va_D A1 w1 → Ap w1 wr) → va_P G vwCl wr H1 → va_S A s.heap H1 locs1 → W p l e R s m args below meth c H1 locs1 (cells + mc) (slots + ms) Q (F0 m (pc + 3) ls (v.toList ++ rest))) : W p l e R s m args below meth c H locs cells slots Q (F0 m pc ls st0) := by
  have hFc := wFree hD hS hA
  refine w_call (va_runV (g := F0 m pc ls st0) (As := As) (rest := rest) X (hC H.size) cw ⟨wPre_blind, hrecv, fun U hU hW => wPre_at hK hN hP hD hU hW⟩ rfl hn hsize hst (lv_room hroom) hdg hf) hS (fun q _ h => hFc q h) hFc (fun t H1 locs1 ht _ hB _ hk hS1 => ?_)
  exact kk t _ H1 locs1 ht hB hFc (fun w1 hw1 => (keep_w hPr hap hk hw1).2) (keep_w (w1 := []) hPr hap hk D_nil).1 hS1
theorem lc_C (X : CallFix p m c cc nL s args Ts own) (hK : va_K G vwCl ty s) (hN : nw s) (hA : ∀ q, s.heap.size ≤ q → A q) (hP : va_P G vwCl w H) (hD : va_D A w) (hPr : va_P G vwCl wr H) (hap : Ap w wr) (hS : va_S A s.heap H locs) (hC : Ct l G ty y ws rm (.ref b :: As) w v w') (cw : CallW R s args own C index y bytes maxL ret ws rm 0 0 n)
    (hrecv : ∃ cellB : Cell, H[b]? = some cellB ∧ cellB.vm.isStatics = false ∧ s.vm.findClass C = some cellB.cls) (hn : As.length = n) (hsize : ls.size = nL) (hst : st0 = As.reverse ++ .ref b :: rest) (hroom : (rest.map fun v => v.category).sum ≤ 8) (hdg : decode cc pc = .ok (.invokevirtual index, 3)) (hf : cells ≤ R.cells ∧ slots ≤ R.slots)
    (kk : ∀ (H1 : Heap) (locs1 : List Loc), va_P G vwCl w' H1 → va_D A w' → va_P G vwCl wr H1 → Ap w' wr → va_S A s.heap H1 locs1 → W p l e R s m args below meth c H1 locs1 cells slots Q (F0 m (pc + 3) ls (v.toList ++ rest))) : W p l e R s m args below meth c H locs cells slots Q (F0 m pc ls st0) := by
  refine lc_G X hK hN hA hP hD hPr hap hS hC cw hrecv hn hsize hst hroom hdg hf (fun t A1 H1 locs1 ht hB hA1 hAp hPr1 hS1 => ?_)
  obtain ⟨hP1, hD1⟩ := hB
  rw [ht] at hP1
  exact kk H1 locs1 hP1 (hD1.weaken (fun _ _ _ h => hA1 _ h)) hPr1 (hAp _ hD1) hS1
/-- a constructor, beside a world that lies apart -/
theorem lc_I (X : CallFix p m c cc nL s args Ts own) (hK : va_K G vwCl ty s) (hN : nw s) (hA : ∀ q, s.heap.size ≤ q → A q) (hP : va_P G vwCl w H) (hD : va_D A w) (hPr : va_P G vwCl wr H) (hap : Ap w wr) (hS : va_S A s.heap H locs) (hC : CtB l G ty y ws rm (.ref b :: As) w none B mc ms) (cw : CallB R s args own index y bytes maxL none ws rm mc ms n ∧ y.name = "<init>" ∧ (Cond.instanceMethod y).before args s = true)
    (hn : As.length = n) (hsize : ls.size = nL) (hst : st0 = As.reverse ++ .ref b :: rest) (hroom : (rest.map fun v => v.category).sum ≤ 8) (hdg : decode cc pc = .ok (.invokespecial index, 3)) (hf : cells + mc ≤ R.cells ∧ slots + ms ≤ R.slots)
    (kk : ∀ (t : State) (A1 : Nat → Prop) (H1 : Heap) (locs1 : List Loc), t.heap = H1 → B A1 t → (∀ q, A1 q → A q) → (∀ w1 : va_W, va_D A1 w1 → Ap w1 wr) → va_P G vwCl wr H1 → va_S A s.heap H1 locs1 → W p l e R s m args below meth c H1 locs1 (cells + mc) (slots + ms) Q (F0 m (pc + 3) ls rest)) : W p l e R s m args below meth c H locs cells slots Q (F0 m pc ls st0) := by
  have hFc := wFree hD hS hA
  refine w_call (va_runI (g := F0 m pc ls st0) (As := As) (rest := rest) X (hC H.size) cw ⟨wPre_blind, fun U hU hW => wPre_at hK hN hP hD hU hW⟩ rfl hn hsize hst (lv_room hroom) hdg hf) hS (fun q _ h => hFc q h) hFc (fun t H1 locs1 ht _ hB _ hk hS1 => ?_)
  exact kk t _ H1 locs1 ht hB hFc (fun w1 hw1 => (keep_w hPr hap hk hw1).2) (keep_w (w1 := []) hPr hap hk D_nil).1 hS1
end LAWC
/-- what stands between two calls: the class's world, the reference's, apart; the locals -/
def lw_I (G : va_G) (cy cyO : ClassId) (ac am : Nat → Nat) (A : Nat → Prop) (s : State) (b i n : Nat) (zc : SC) (zm : SM) (H : Heap) (locs : List Loc) (ls : Array Slot) : Prop := Rl n zc zm ∧ va_P G vwCl (cW ac cy cyO zc) H ∧ va_D A (cW ac cy cyO zc) ∧ va_P G vwCl (mW am cy zm) H ∧ va_D A (mW am cy zm) ∧ Ap (cW ac cy cyO zc) (mW am cy zm) ∧ va_S A s.heap H locs ∧ lv_has ls 4 [(0, .ref b), (1, .ref (ac 0)), (2, .ref (am 0)), (3, .int (nI i))]
theorem ix_add (i j : Nat) (x : Int32) (h : x = nI j) : nI i + x = nI (i + j) := by rw [h]; exact nI_add i j
set_option maxRecDepth 100000 in
set_option maxHeartbeats 4000000 in
theorem lw_section {p : Program} {l : Launch} {e : Env} {s : State} {m : MethodId} {below : List Frame} {meth : Method} {c : Code} {G : va_G} {cy cyO : ClassId} {ac am : Nat → Nat} {b L : Nat} {xs : Nat → Int32} (X : CallFix p m c code 4 s #[Value.ref b] wsL_law RL) (hK : va_K G vwCl (tys_ cy cyO) s) (hN : nw s) (hX : va_X b L xs s s.heap) (hbl : b < s.heap.size) (hL : L ≤ 2560) {k : Nat} (hk : 5 * k + 5 ≤ L) (next : ∀ (n : Nat) (zc : SC) (zm : SM) (H : Heap) (locs : List Loc) (ls : Array Slot), n ≤ k + 1 → lw_I G cy cyO ac am (fun q : Nat => s.heap.size ≤ q) s b (5 * k) n zc zm H locs ls → W p l e room_1 s m #[Value.ref b] below meth c H locs (18 + (k + 1)) (5580 + 9 * (k + 1)) (lw_Z below #[Value.ref b] s) (F0 m 472 ls []))
    {n : Nat} {zc : SC} {zm : SM} {H : Heap} {locs : List Loc} {ls : Array Slot} (hn : n ≤ k) (hI : lw_I G cy cyO ac am (fun q : Nat => s.heap.size ≤ q) s b (5 * k) n zc zm H locs ls) : W p l e room_1 s m #[Value.ref b] below meth c H locs (18 + k) (5580 + 9 * k) (lw_Z below #[Value.ref b] s) (F0 m 96 ls []) := by
  obtain ⟨hx, hb, hml, hown, hts⟩ := id X
  obtain ⟨hR, hPc, hDc, hPm, hDm, hap, hS, hl⟩ := hI
  have hA : ∀ q : Nat, s.heap.size ≤ q → (fun q : Nat => s.heap.size ≤ q) q := fun _ h => h
  have hbA : ¬ (fun q : Nat => s.heap.size ≤ q) b := Nat.not_le.mpr hbl
  have h1 : vp_in (nI (5 * k) + 1) L := by rw [ix_add (5 * k) 1 1 rfl]; exact vp_in_nI (by omega) (by omega)
  obtain ⟨x1, ex1⟩ : ∃ y : Int32, y = xs (nI (5 * k) + 1).toNatClampNeg := ⟨_, rfl⟩
  have h2 : vp_in (nI (5 * k) + 2) L := by rw [ix_add (5 * k) 2 2 rfl]; exact vp_in_nI (by omega) (by omega)
  obtain ⟨x2, ex2⟩ : ∃ y : Int32, y = xs (nI (5 * k) + 2).toNatClampNeg := ⟨_, rfl⟩
  have h3 : vp_in (nI (5 * k) + 3) L := by rw [ix_add (5 * k) 3 3 rfl]; exact vp_in_nI (by omega) (by omega)
  obtain ⟨x3, ex3⟩ : ∃ y : Int32, y = xs (nI (5 * k) + 3).toNatClampNeg := ⟨_, rfl⟩
  have h4 : vp_in (nI (5 * k) + 4) L := by rw [ix_add (5 * k) 4 4 rfl]; exact vp_in_nI (by omega) (by omega)
  obtain ⟨x4, ex4⟩ : ∃ y : Int32, y = xs (nI (5 * k) + 4).toNatClampNeg := ⟨_, rfl⟩
  refine lv_aload_n hx hb dL_law_96 rfl (lv_at hl 1 rfl) ?_
  refine lv_aload_n hx hb dL_law_97 rfl (lv_at hl 0 rfl) ?_
  refine lv_iload_n hx hb dL_law_98 rfl (lv_at hl 3 rfl) ?_
  refine lv_iconst (v := 1) hx hb dL_law_99 (by decide) ?_
  refine lv_iadd hx hb dL_law_100 ?_
  refine va_sld hx hb hX hbl hbA hS h1 dL_law_101 ?_
  refine w_top ex1 ?_
  refine lv_aload_n hx hb dL_law_102 rfl (lv_at hl 0 rfl) ?_
  refine lv_iload_n hx hb dL_law_103 rfl (lv_at hl 3 rfl) ?_
  refine lv_iconst (v := 2) hx hb dL_law_104 (by decide) ?_
  refine lv_iadd hx hb dL_law_105 ?_
  refine va_sld hx hb hX hbl hbA hS h2 dL_law_106 ?_
  refine w_top ex2 ?_
  refine lv_aload_n hx hb dL_law_107 rfl (lv_at hl 0 rfl) ?_
  refine lv_iload_n hx hb dL_law_108 rfl (lv_at hl 3 rfl) ?_
  refine lv_iconst (v := 3) hx hb dL_law_109 (by decide) ?_
  refine lv_iadd hx hb dL_law_110 ?_
  refine va_sld hx hb hX hbl hbA hS h3 dL_law_111 ?_
  refine w_top ex3 ?_
  refine lv_aload_n hx hb dL_law_112 rfl (lv_at hl 0 rfl) ?_
  refine lv_iload_n hx hb dL_law_113 rfl (lv_at hl 3 rfl) ?_
  refine lv_iconst (v := 4) hx hb dL_law_114 (by decide) ?_
  refine lv_iadd hx hb dL_law_115 ?_
  refine va_sld hx hb hX hbl hbA hS h4 dL_law_116 ?_
  refine w_top ex4 ?_
  rcases t_section hR (by omega) x1 x2 x3 x4 with ⟨e1, e2⟩ | ⟨e1, hv, zn, e2, hR2⟩
  · refine lc_G (C := RX1) (rest := []) X hK hN hA hPc hDc hPm hap hS (kX1_sectionB l G cy cyO ac zc x1 x2 x3 x4 zc e1) (cwV 4 hts gL_law_X1_section rfl rfl rfl (by decide +kernel) ⟨Nat.le_of_ble_eq_true rfl, Nat.le_of_ble_eq_true rfl⟩) (va_recv hK hPc (ci := 1) (q0 := 0) rfl rfl) rfl hl.1 rfl (Nat.le_of_ble_eq_true rfl) dL_law_117 ⟨show 18 + k + 1 ≤ 600000 by omega, show 5580 + 9 * k + 9 ≤ 7302250 by omega⟩ (fun t A1 H locs ht hB hA1 hAp hPm hS => ?_)
    obtain ⟨hPc, hDc⟩ := hB
    rw [ht] at hPc
    have hap := hAp _ hDc
    have hDc := hDc.weaken (fun _ _ _ h => hA1 _ h)
    refine W.eq (g2 := F0 m 120 ls [.int (-1)]) rfl ?_
    refine lv_aload_n hx hb dL_law_120 rfl (lv_at hl 2 rfl) ?_
    refine lv_aload_n hx hb dL_law_121 rfl (lv_at hl 0 rfl) ?_
    refine lv_iload_n hx hb dL_law_122 rfl (lv_at hl 3 rfl) ?_
    refine lv_iconst (v := 1) hx hb dL_law_123 (by decide) ?_
    refine lv_iadd hx hb dL_law_124 ?_
    refine va_sld hx hb hX hbl hbA hS h1 dL_law_125 ?_
    refine w_top ex1 ?_
    refine lv_aload_n hx hb dL_law_126 rfl (lv_at hl 0 rfl) ?_
    refine lv_iload_n hx hb dL_law_127 rfl (lv_at hl 3 rfl) ?_
    refine lv_iconst (v := 2) hx hb dL_law_128 (by decide) ?_
    refine lv_iadd hx hb dL_law_129 ?_
    refine va_sld hx hb hX hbl hbA hS h2 dL_law_130 ?_
    refine w_top ex2 ?_
    refine lv_aload_n hx hb dL_law_131 rfl (lv_at hl 0 rfl) ?_
    refine lv_iload_n hx hb dL_law_132 rfl (lv_at hl 3 rfl) ?_
    refine lv_iconst (v := 3) hx hb dL_law_133 (by decide) ?_
    refine lv_iadd hx hb dL_law_134 ?_
    refine va_sld hx hb hX hbl hbA hS h3 dL_law_135 ?_
    refine w_top ex3 ?_
    refine lv_aload_n hx hb dL_law_136 rfl (lv_at hl 0 rfl) ?_
    refine lv_iload_n hx hb dL_law_137 rfl (lv_at hl 3 rfl) ?_
    refine lv_iconst (v := 4) hx hb dL_law_138 (by decide) ?_
    refine lv_iadd hx hb dL_law_139 ?_
    refine va_sld hx hb hX hbl hbA hS h4 dL_law_140 ?_
    refine w_top ex4 ?_
    refine lc_C (C := RX2) (rest := [.int (-1)]) X hK hN hA hPm hDm hPc hap.symm hS (kX2_section l G cy cyO am zm x1 x2 x3 x4 (-1) zm e2) (cwV 4 hts gL_law_X2_section rfl rfl rfl (by decide +kernel) ⟨Nat.le_of_ble_eq_true rfl, Nat.le_of_ble_eq_true rfl⟩) (va_recv hK hPm (ci := 2) (q0 := 0) rfl rfl) rfl hl.1 rfl (Nat.le_of_ble_eq_true rfl) dL_law_141 ⟨show 18 + k + 1 ≤ 600000 by omega, show 5580 + 9 * k + 9 ≤ 7302250 by omega⟩ (fun H locs hPm hDm hPc hap hS => ?_)
    refine W.eq (g2 := F0 m 144 ls [.int (-1), .int (-1)]) rfl ?_
    refine lv_icmp_eq (tgt := 472) hx hb dL_law_144 (by decide) (fun _ => ?_) (fun h9 => absurd rfl h9)
    refine W.widen (k := 18 + (k + 1)) (n := 5580 + 9 * (k + 1)) (by omega) (by omega) ?_
    exact next n zc zm H locs ls (by omega) ⟨hR, hPc, hDc, hPm, hDm, hap.symm, hS, hl⟩
  · refine lc_G (C := RX1) (rest := []) X hK hN hA hPc hDc hPm hap hS (kX1_sectionG l G cy cyO ac zc x1 x2 x3 x4 zc e1 hv) (cwV 4 hts gL_law_X1_section rfl rfl rfl (by decide +kernel) ⟨Nat.le_of_ble_eq_true rfl, Nat.le_of_ble_eq_true rfl⟩) (va_recv hK hPc (ci := 1) (q0 := 0) rfl rfl) rfl hl.1 rfl (Nat.le_of_ble_eq_true rfl) dL_law_117 ⟨show 18 + k + 1 ≤ 600000 by omega, show 5580 + 9 * k + 9 ≤ 7302250 by omega⟩ (fun t A1 H locs ht hB hA1 hAp hPm hS => ?_)
    obtain ⟨q, hq, hPc, hDc⟩ := hB
    rw [ht] at hPc
    have hap := hAp _ hDc
    have hDc := hDc.weaken (fun _ _ _ h => hA1 _ h)
    have hR3 := hR2 q hq
    refine W.eq (g2 := F0 m 120 ls [.int zc.2.2.2.2.2.2.2.1]) rfl ?_
    refine lv_aload_n hx hb dL_law_120 rfl (lv_at hl 2 rfl) ?_
    refine lv_aload_n hx hb dL_law_121 rfl (lv_at hl 0 rfl) ?_
    refine lv_iload_n hx hb dL_law_122 rfl (lv_at hl 3 rfl) ?_
    refine lv_iconst (v := 1) hx hb dL_law_123 (by decide) ?_
    refine lv_iadd hx hb dL_law_124 ?_
    refine va_sld hx hb hX hbl hbA hS h1 dL_law_125 ?_
    refine w_top ex1 ?_
    refine lv_aload_n hx hb dL_law_126 rfl (lv_at hl 0 rfl) ?_
    refine lv_iload_n hx hb dL_law_127 rfl (lv_at hl 3 rfl) ?_
    refine lv_iconst (v := 2) hx hb dL_law_128 (by decide) ?_
    refine lv_iadd hx hb dL_law_129 ?_
    refine va_sld hx hb hX hbl hbA hS h2 dL_law_130 ?_
    refine w_top ex2 ?_
    refine lv_aload_n hx hb dL_law_131 rfl (lv_at hl 0 rfl) ?_
    refine lv_iload_n hx hb dL_law_132 rfl (lv_at hl 3 rfl) ?_
    refine lv_iconst (v := 3) hx hb dL_law_133 (by decide) ?_
    refine lv_iadd hx hb dL_law_134 ?_
    refine va_sld hx hb hX hbl hbA hS h3 dL_law_135 ?_
    refine w_top ex3 ?_
    refine lv_aload_n hx hb dL_law_136 rfl (lv_at hl 0 rfl) ?_
    refine lv_iload_n hx hb dL_law_137 rfl (lv_at hl 3 rfl) ?_
    refine lv_iconst (v := 4) hx hb dL_law_138 (by decide) ?_
    refine lv_iadd hx hb dL_law_139 ?_
    refine va_sld hx hb hX hbl hbA hS h4 dL_law_140 ?_
    refine w_top ex4 ?_
    refine lc_C (C := RX2) (rest := [.int zc.2.2.2.2.2.2.2.1]) X hK hN hA hPm hDm hPc hap.symm hS (kX2_section l G cy cyO am zm x1 x2 x3 x4 zc.2.2.2.2.2.2.2.1 zn e2) (cwV 4 hts gL_law_X2_section rfl rfl rfl (by decide +kernel) ⟨Nat.le_of_ble_eq_true rfl, Nat.le_of_ble_eq_true rfl⟩) (va_recv hK hPm (ci := 2) (q0 := 0) rfl rfl) rfl hl.1 rfl (Nat.le_of_ble_eq_true rfl) dL_law_141 ⟨show 18 + k + 1 ≤ 600000 by omega, show 5580 + 9 * k + 9 ≤ 7302250 by omega⟩ (fun H locs hPm hDm hPc hap hS => ?_)
    refine W.eq (g2 := F0 m 144 ls [.int zc.2.2.2.2.2.2.2.1, .int zc.2.2.2.2.2.2.2.1]) rfl ?_
    refine lv_icmp_eq (tgt := 472) hx hb dL_law_144 (by decide) (fun _ => ?_) (fun h9 => absurd rfl h9)
    refine W.widen (k := 18 + (k + 1)) (n := 5580 + 9 * (k + 1)) (by omega) (by omega) ?_
    exact next (n + 1) (nS zc q x1 x2 x3 x4) zn H locs ls (by omega) ⟨hR3, hPc, hDc, hPm, hDm, hap.symm, hS, hl⟩
set_option maxRecDepth 100000 in
set_option maxHeartbeats 4000000 in
theorem lw_share {p : Program} {l : Launch} {e : Env} {s : State} {m : MethodId} {below : List Frame} {meth : Method} {c : Code} {G : va_G} {cy cyO : ClassId} {ac am : Nat → Nat} {b L : Nat} {xs : Nat → Int32} (X : CallFix p m c code 4 s #[Value.ref b] wsL_law RL) (hK : va_K G vwCl (tys_ cy cyO) s) (hN : nw s) (hX : va_X b L xs s s.heap) (hbl : b < s.heap.size) (hL : L ≤ 2560) {k : Nat} (hk : 5 * k + 5 ≤ L) (next : ∀ (n : Nat) (zc : SC) (zm : SM) (H : Heap) (locs : List Loc) (ls : Array Slot), n ≤ k + 1 → lw_I G cy cyO ac am (fun q : Nat => s.heap.size ≤ q) s b (5 * k) n zc zm H locs ls → W p l e room_1 s m #[Value.ref b] below meth c H locs (18 + (k + 1)) (5580 + 9 * (k + 1)) (lw_Z below #[Value.ref b] s) (F0 m 472 ls []))
    {n : Nat} {zc : SC} {zm : SM} {H : Heap} {locs : List Loc} {ls : Array Slot} (hn : n ≤ k) (hI : lw_I G cy cyO ac am (fun q : Nat => s.heap.size ≤ q) s b (5 * k) n zc zm H locs ls) : W p l e room_1 s m #[Value.ref b] below meth c H locs (18 + k) (5580 + 9 * k) (lw_Z below #[Value.ref b] s) (F0 m 149 ls []) := by
  obtain ⟨hx, hb, hml, hown, hts⟩ := id X
  obtain ⟨hR, hPc, hDc, hPm, hDm, hap, hS, hl⟩ := hI
  have hA : ∀ q : Nat, s.heap.size ≤ q → (fun q : Nat => s.heap.size ≤ q) q := fun _ h => h
  have hbA : ¬ (fun q : Nat => s.heap.size ≤ q) b := Nat.not_le.mpr hbl
  have h1 : vp_in (nI (5 * k) + 1) L := by rw [ix_add (5 * k) 1 1 rfl]; exact vp_in_nI (by omega) (by omega)
  obtain ⟨x1, ex1⟩ : ∃ y : Int32, y = xs (nI (5 * k) + 1).toNatClampNeg := ⟨_, rfl⟩
  have h2 : vp_in (nI (5 * k) + 2) L := by rw [ix_add (5 * k) 2 2 rfl]; exact vp_in_nI (by omega) (by omega)
  obtain ⟨x2, ex2⟩ : ∃ y : Int32, y = xs (nI (5 * k) + 2).toNatClampNeg := ⟨_, rfl⟩
  obtain ⟨r, zd, zn, e1, e2, hR2⟩ := t_share hR x1 x2
  refine lv_aload_n hx hb dL_law_149 rfl (lv_at hl 1 rfl) ?_
  refine lv_aload_n hx hb dL_law_150 rfl (lv_at hl 0 rfl) ?_
  refine lv_iload_n hx hb dL_law_151 rfl (lv_at hl 3 rfl) ?_
  refine lv_iconst (v := 1) hx hb dL_law_152 (by decide) ?_
  refine lv_iadd hx hb dL_law_153 ?_
  refine va_sld hx hb hX hbl hbA hS h1 dL_law_154 ?_
  refine w_top ex1 ?_
  refine lv_aload_n hx hb dL_law_155 rfl (lv_at hl 0 rfl) ?_
  refine lv_iload_n hx hb dL_law_156 rfl (lv_at hl 3 rfl) ?_
  refine lv_iconst (v := 2) hx hb dL_law_157 (by decide) ?_
  refine lv_iadd hx hb dL_law_158 ?_
  refine va_sld hx hb hX hbl hbA hS h2 dL_law_159 ?_
  refine w_top ex2 ?_
  refine lc_C (C := RX1) (rest := []) X hK hN hA hPc hDc hPm hap hS (kX1_share l G cy cyO ac zc x1 x2 r zd e1) (cwV 2 hts gL_law_X1_share rfl rfl rfl (by decide +kernel) ⟨Nat.le_of_ble_eq_true rfl, Nat.le_of_ble_eq_true rfl⟩) (va_recv hK hPc (ci := 1) (q0 := 0) rfl rfl) rfl hl.1 rfl (Nat.le_of_ble_eq_true rfl) dL_law_160 ⟨show 18 + k ≤ 600000 by omega, show 5580 + 9 * k ≤ 7302250 by omega⟩ (fun H locs hPc hDc hPm hap hS => ?_)
  refine W.eq (g2 := F0 m 163 ls [.int r]) rfl ?_
  refine lv_aload_n hx hb dL_law_163 rfl (lv_at hl 2 rfl) ?_
  refine lv_aload_n hx hb dL_law_164 rfl (lv_at hl 0 rfl) ?_
  refine lv_iload_n hx hb dL_law_165 rfl (lv_at hl 3 rfl) ?_
  refine lv_iconst (v := 1) hx hb dL_law_166 (by decide) ?_
  refine lv_iadd hx hb dL_law_167 ?_
  refine va_sld hx hb hX hbl hbA hS h1 dL_law_168 ?_
  refine w_top ex1 ?_
  refine lv_aload_n hx hb dL_law_169 rfl (lv_at hl 0 rfl) ?_
  refine lv_iload_n hx hb dL_law_170 rfl (lv_at hl 3 rfl) ?_
  refine lv_iconst (v := 2) hx hb dL_law_171 (by decide) ?_
  refine lv_iadd hx hb dL_law_172 ?_
  refine va_sld hx hb hX hbl hbA hS h2 dL_law_173 ?_
  refine w_top ex2 ?_
  refine lc_C (C := RX2) (rest := [.int r]) X hK hN hA hPm hDm hPc hap.symm hS (kX2_share l G cy cyO am zm x1 x2 r zn e2) (cwV 2 hts gL_law_X2_share rfl rfl rfl (by decide +kernel) ⟨Nat.le_of_ble_eq_true rfl, Nat.le_of_ble_eq_true rfl⟩) (va_recv hK hPm (ci := 2) (q0 := 0) rfl rfl) rfl hl.1 rfl (Nat.le_of_ble_eq_true rfl) dL_law_174 ⟨show 18 + k ≤ 600000 by omega, show 5580 + 9 * k ≤ 7302250 by omega⟩ (fun H locs hPm hDm hPc hap hS => ?_)
  refine W.eq (g2 := F0 m 177 ls [.int r, .int r]) rfl ?_
  refine lv_icmp_eq (tgt := 472) hx hb dL_law_177 (by decide) (fun _ => ?_) (fun h9 => absurd rfl h9)
  refine W.widen (k := 18 + (k + 1)) (n := 5580 + 9 * (k + 1)) (by omega) (by omega) ?_
  exact next n zd zn H locs ls (by omega) ⟨hR2, hPc, hDc, hPm, hDm, hap.symm, hS, hl⟩
set_option maxRecDepth 100000 in
set_option maxHeartbeats 4000000 in
theorem lw_remove {p : Program} {l : Launch} {e : Env} {s : State} {m : MethodId} {below : List Frame} {meth : Method} {c : Code} {G : va_G} {cy cyO : ClassId} {ac am : Nat → Nat} {b L : Nat} {xs : Nat → Int32} (X : CallFix p m c code 4 s #[Value.ref b] wsL_law RL) (hK : va_K G vwCl (tys_ cy cyO) s) (hN : nw s) (hX : va_X b L xs s s.heap) (hbl : b < s.heap.size) (hL : L ≤ 2560) {k : Nat} (hk : 5 * k + 5 ≤ L) (next : ∀ (n : Nat) (zc : SC) (zm : SM) (H : Heap) (locs : List Loc) (ls : Array Slot), n ≤ k + 1 → lw_I G cy cyO ac am (fun q : Nat => s.heap.size ≤ q) s b (5 * k) n zc zm H locs ls → W p l e room_1 s m #[Value.ref b] below meth c H locs (18 + (k + 1)) (5580 + 9 * (k + 1)) (lw_Z below #[Value.ref b] s) (F0 m 472 ls []))
    {n : Nat} {zc : SC} {zm : SM} {H : Heap} {locs : List Loc} {ls : Array Slot} (hn : n ≤ k) (hI : lw_I G cy cyO ac am (fun q : Nat => s.heap.size ≤ q) s b (5 * k) n zc zm H locs ls) : W p l e room_1 s m #[Value.ref b] below meth c H locs (18 + k) (5580 + 9 * k) (lw_Z below #[Value.ref b] s) (F0 m 182 ls []) := by
  obtain ⟨hx, hb, hml, hown, hts⟩ := id X
  obtain ⟨hR, hPc, hDc, hPm, hDm, hap, hS, hl⟩ := hI
  have hA : ∀ q : Nat, s.heap.size ≤ q → (fun q : Nat => s.heap.size ≤ q) q := fun _ h => h
  have hbA : ¬ (fun q : Nat => s.heap.size ≤ q) b := Nat.not_le.mpr hbl
  have h1 : vp_in (nI (5 * k) + 1) L := by rw [ix_add (5 * k) 1 1 rfl]; exact vp_in_nI (by omega) (by omega)
  obtain ⟨x1, ex1⟩ : ∃ y : Int32, y = xs (nI (5 * k) + 1).toNatClampNeg := ⟨_, rfl⟩
  obtain ⟨r, zd, zn, e1, e2, hR2⟩ := t_remove hR x1
  refine lv_aload_n hx hb dL_law_182 rfl (lv_at hl 1 rfl) ?_
  refine lv_aload_n hx hb dL_law_183 rfl (lv_at hl 0 rfl) ?_
  refine lv_iload_n hx hb dL_law_184 rfl (lv_at hl 3 rfl) ?_
  refine lv_iconst (v := 1) hx hb dL_law_185 (by decide) ?_
  refine lv_iadd hx hb dL_law_186 ?_
  refine va_sld hx hb hX hbl hbA hS h1 dL_law_187 ?_
  refine w_top ex1 ?_
  refine lc_C (C := RX1) (rest := []) X hK hN hA hPc hDc hPm hap hS (kX1_remove l G cy cyO ac zc x1 r zd e1) (cwV 1 hts gL_law_X1_remove rfl rfl rfl (by decide +kernel) ⟨Nat.le_of_ble_eq_true rfl, Nat.le_of_ble_eq_true rfl⟩) (va_recv hK hPc (ci := 1) (q0 := 0) rfl rfl) rfl hl.1 rfl (Nat.le_of_ble_eq_true rfl) dL_law_188 ⟨show 18 + k ≤ 600000 by omega, show 5580 + 9 * k ≤ 7302250 by omega⟩ (fun H locs hPc hDc hPm hap hS => ?_)
  refine W.eq (g2 := F0 m 191 ls [.int r]) rfl ?_
  refine lv_aload_n hx hb dL_law_191 rfl (lv_at hl 2 rfl) ?_
  refine lv_aload_n hx hb dL_law_192 rfl (lv_at hl 0 rfl) ?_
  refine lv_iload_n hx hb dL_law_193 rfl (lv_at hl 3 rfl) ?_
  refine lv_iconst (v := 1) hx hb dL_law_194 (by decide) ?_
  refine lv_iadd hx hb dL_law_195 ?_
  refine va_sld hx hb hX hbl hbA hS h1 dL_law_196 ?_
  refine w_top ex1 ?_
  refine lc_C (C := RX2) (rest := [.int r]) X hK hN hA hPm hDm hPc hap.symm hS (kX2_remove l G cy cyO am zm x1 r zn e2) (cwV 1 hts gL_law_X2_remove rfl rfl rfl (by decide +kernel) ⟨Nat.le_of_ble_eq_true rfl, Nat.le_of_ble_eq_true rfl⟩) (va_recv hK hPm (ci := 2) (q0 := 0) rfl rfl) rfl hl.1 rfl (Nat.le_of_ble_eq_true rfl) dL_law_197 ⟨show 18 + k ≤ 600000 by omega, show 5580 + 9 * k ≤ 7302250 by omega⟩ (fun H locs hPm hDm hPc hap hS => ?_)
  refine W.eq (g2 := F0 m 200 ls [.int r, .int r]) rfl ?_
  refine lv_icmp_eq (tgt := 472) hx hb dL_law_200 (by decide) (fun _ => ?_) (fun h9 => absurd rfl h9)
  refine W.widen (k := 18 + (k + 1)) (n := 5580 + 9 * (k + 1)) (by omega) (by omega) ?_
  exact next n zd zn H locs ls (by omega) ⟨hR2, hPc, hDc, hPm, hDm, hap.symm, hS, hl⟩
set_option maxRecDepth 100000 in
set_option maxHeartbeats 4000000 in
theorem lw_same {p : Program} {l : Launch} {e : Env} {s : State} {m : MethodId} {below : List Frame} {meth : Method} {c : Code} {G : va_G} {cy cyO : ClassId} {ac am : Nat → Nat} {b L : Nat} {xs : Nat → Int32} (X : CallFix p m c code 4 s #[Value.ref b] wsL_law RL) (hK : va_K G vwCl (tys_ cy cyO) s) (hN : nw s) (hX : va_X b L xs s s.heap) (hbl : b < s.heap.size) (hL : L ≤ 2560) {k : Nat} (hk : 5 * k + 5 ≤ L) (next : ∀ (n : Nat) (zc : SC) (zm : SM) (H : Heap) (locs : List Loc) (ls : Array Slot), n ≤ k + 1 → lw_I G cy cyO ac am (fun q : Nat => s.heap.size ≤ q) s b (5 * k) n zc zm H locs ls → W p l e room_1 s m #[Value.ref b] below meth c H locs (18 + (k + 1)) (5580 + 9 * (k + 1)) (lw_Z below #[Value.ref b] s) (F0 m 472 ls []))
    {n : Nat} {zc : SC} {zm : SM} {H : Heap} {locs : List Loc} {ls : Array Slot} (hn : n ≤ k) (hI : lw_I G cy cyO ac am (fun q : Nat => s.heap.size ≤ q) s b (5 * k) n zc zm H locs ls) : W p l e room_1 s m #[Value.ref b] below meth c H locs (18 + k) (5580 + 9 * k) (lw_Z below #[Value.ref b] s) (F0 m 205 ls []) := by
  obtain ⟨hx, hb, hml, hown, hts⟩ := id X
  obtain ⟨hR, hPc, hDc, hPm, hDm, hap, hS, hl⟩ := hI
  have hA : ∀ q : Nat, s.heap.size ≤ q → (fun q : Nat => s.heap.size ≤ q) q := fun _ h => h
  have hbA : ¬ (fun q : Nat => s.heap.size ≤ q) b := Nat.not_le.mpr hbl
  have h1 : vp_in (nI (5 * k) + 1) L := by rw [ix_add (5 * k) 1 1 rfl]; exact vp_in_nI (by omega) (by omega)
  obtain ⟨x1, ex1⟩ : ∃ y : Int32, y = xs (nI (5 * k) + 1).toNatClampNeg := ⟨_, rfl⟩
  have h2 : vp_in (nI (5 * k) + 2) L := by rw [ix_add (5 * k) 2 2 rfl]; exact vp_in_nI (by omega) (by omega)
  obtain ⟨x2, ex2⟩ : ∃ y : Int32, y = xs (nI (5 * k) + 2).toNatClampNeg := ⟨_, rfl⟩
  obtain ⟨r, zd, zn, e1, e2, hR2⟩ := t_same hR x1 x2
  refine lv_aload_n hx hb dL_law_205 rfl (lv_at hl 1 rfl) ?_
  refine lv_aload_n hx hb dL_law_206 rfl (lv_at hl 0 rfl) ?_
  refine lv_iload_n hx hb dL_law_207 rfl (lv_at hl 3 rfl) ?_
  refine lv_iconst (v := 1) hx hb dL_law_208 (by decide) ?_
  refine lv_iadd hx hb dL_law_209 ?_
  refine va_sld hx hb hX hbl hbA hS h1 dL_law_210 ?_
  refine w_top ex1 ?_
  refine lv_aload_n hx hb dL_law_211 rfl (lv_at hl 0 rfl) ?_
  refine lv_iload_n hx hb dL_law_212 rfl (lv_at hl 3 rfl) ?_
  refine lv_iconst (v := 2) hx hb dL_law_213 (by decide) ?_
  refine lv_iadd hx hb dL_law_214 ?_
  refine va_sld hx hb hX hbl hbA hS h2 dL_law_215 ?_
  refine w_top ex2 ?_
  refine lc_C (C := RX1) (rest := []) X hK hN hA hPc hDc hPm hap hS (kX1_same l G cy cyO ac zc x1 x2 r zd e1) (cwV 2 hts gL_law_X1_same rfl rfl rfl (by decide +kernel) ⟨Nat.le_of_ble_eq_true rfl, Nat.le_of_ble_eq_true rfl⟩) (va_recv hK hPc (ci := 1) (q0 := 0) rfl rfl) rfl hl.1 rfl (Nat.le_of_ble_eq_true rfl) dL_law_216 ⟨show 18 + k ≤ 600000 by omega, show 5580 + 9 * k ≤ 7302250 by omega⟩ (fun H locs hPc hDc hPm hap hS => ?_)
  refine W.eq (g2 := F0 m 219 ls [.int r]) rfl ?_
  refine lv_aload_n hx hb dL_law_219 rfl (lv_at hl 2 rfl) ?_
  refine lv_aload_n hx hb dL_law_220 rfl (lv_at hl 0 rfl) ?_
  refine lv_iload_n hx hb dL_law_221 rfl (lv_at hl 3 rfl) ?_
  refine lv_iconst (v := 1) hx hb dL_law_222 (by decide) ?_
  refine lv_iadd hx hb dL_law_223 ?_
  refine va_sld hx hb hX hbl hbA hS h1 dL_law_224 ?_
  refine w_top ex1 ?_
  refine lv_aload_n hx hb dL_law_225 rfl (lv_at hl 0 rfl) ?_
  refine lv_iload_n hx hb dL_law_226 rfl (lv_at hl 3 rfl) ?_
  refine lv_iconst (v := 2) hx hb dL_law_227 (by decide) ?_
  refine lv_iadd hx hb dL_law_228 ?_
  refine va_sld hx hb hX hbl hbA hS h2 dL_law_229 ?_
  refine w_top ex2 ?_
  refine lc_C (C := RX2) (rest := [.int r]) X hK hN hA hPm hDm hPc hap.symm hS (kX2_same l G cy cyO am zm x1 x2 r zn e2) (cwV 2 hts gL_law_X2_same rfl rfl rfl (by decide +kernel) ⟨Nat.le_of_ble_eq_true rfl, Nat.le_of_ble_eq_true rfl⟩) (va_recv hK hPm (ci := 2) (q0 := 0) rfl rfl) rfl hl.1 rfl (Nat.le_of_ble_eq_true rfl) dL_law_230 ⟨show 18 + k ≤ 600000 by omega, show 5580 + 9 * k ≤ 7302250 by omega⟩ (fun H locs hPm hDm hPc hap hS => ?_)
  refine W.eq (g2 := F0 m 233 ls [.int r, .int r]) rfl ?_
  refine lv_icmp_eq (tgt := 472) hx hb dL_law_233 (by decide) (fun _ => ?_) (fun h9 => absurd rfl h9)
  refine W.widen (k := 18 + (k + 1)) (n := 5580 + 9 * (k + 1)) (by omega) (by omega) ?_
  exact next n zd zn H locs ls (by omega) ⟨hR2, hPc, hDc, hPm, hDm, hap.symm, hS, hl⟩
set_option maxRecDepth 100000 in
set_option maxHeartbeats 4000000 in
theorem lw_lead {p : Program} {l : Launch} {e : Env} {s : State} {m : MethodId} {below : List Frame} {meth : Method} {c : Code} {G : va_G} {cy cyO : ClassId} {ac am : Nat → Nat} {b L : Nat} {xs : Nat → Int32} (X : CallFix p m c code 4 s #[Value.ref b] wsL_law RL) (hK : va_K G vwCl (tys_ cy cyO) s) (hN : nw s) (hX : va_X b L xs s s.heap) (hbl : b < s.heap.size) (hL : L ≤ 2560) {k : Nat} (hk : 5 * k + 5 ≤ L) (next : ∀ (n : Nat) (zc : SC) (zm : SM) (H : Heap) (locs : List Loc) (ls : Array Slot), n ≤ k + 1 → lw_I G cy cyO ac am (fun q : Nat => s.heap.size ≤ q) s b (5 * k) n zc zm H locs ls → W p l e room_1 s m #[Value.ref b] below meth c H locs (18 + (k + 1)) (5580 + 9 * (k + 1)) (lw_Z below #[Value.ref b] s) (F0 m 472 ls []))
    {n : Nat} {zc : SC} {zm : SM} {H : Heap} {locs : List Loc} {ls : Array Slot} (hn : n ≤ k) (hI : lw_I G cy cyO ac am (fun q : Nat => s.heap.size ≤ q) s b (5 * k) n zc zm H locs ls) : W p l e room_1 s m #[Value.ref b] below meth c H locs (18 + k) (5580 + 9 * k) (lw_Z below #[Value.ref b] s) (F0 m 238 ls []) := by
  obtain ⟨hx, hb, hml, hown, hts⟩ := id X
  obtain ⟨hR, hPc, hDc, hPm, hDm, hap, hS, hl⟩ := hI
  have hA : ∀ q : Nat, s.heap.size ≤ q → (fun q : Nat => s.heap.size ≤ q) q := fun _ h => h
  have hbA : ¬ (fun q : Nat => s.heap.size ≤ q) b := Nat.not_le.mpr hbl
  have h1 : vp_in (nI (5 * k) + 1) L := by rw [ix_add (5 * k) 1 1 rfl]; exact vp_in_nI (by omega) (by omega)
  obtain ⟨x1, ex1⟩ : ∃ y : Int32, y = xs (nI (5 * k) + 1).toNatClampNeg := ⟨_, rfl⟩
  have h2 : vp_in (nI (5 * k) + 2) L := by rw [ix_add (5 * k) 2 2 rfl]; exact vp_in_nI (by omega) (by omega)
  obtain ⟨x2, ex2⟩ : ∃ y : Int32, y = xs (nI (5 * k) + 2).toNatClampNeg := ⟨_, rfl⟩
  obtain ⟨r, zd, zn, e1, e2, hR2⟩ := t_lead hR x1 x2
  refine lv_aload_n hx hb dL_law_238 rfl (lv_at hl 1 rfl) ?_
  refine lv_aload_n hx hb dL_law_239 rfl (lv_at hl 0 rfl) ?_
  refine lv_iload_n hx hb dL_law_240 rfl (lv_at hl 3 rfl) ?_
  refine lv_iconst (v := 1) hx hb dL_law_241 (by decide) ?_
  refine lv_iadd hx hb dL_law_242 ?_
  refine va_sld hx hb hX hbl hbA hS h1 dL_law_243 ?_
  refine w_top ex1 ?_
  refine lv_aload_n hx hb dL_law_244 rfl (lv_at hl 0 rfl) ?_
  refine lv_iload_n hx hb dL_law_245 rfl (lv_at hl 3 rfl) ?_
  refine lv_iconst (v := 2) hx hb dL_law_246 (by decide) ?_
  refine lv_iadd hx hb dL_law_247 ?_
  refine va_sld hx hb hX hbl hbA hS h2 dL_law_248 ?_
  refine w_top ex2 ?_
  refine lc_C (C := RX1) (rest := []) X hK hN hA hPc hDc hPm hap hS (kX1_lead l G cy cyO ac zc x1 x2 r zd e1) (cwV 2 hts gL_law_X1_lead rfl rfl rfl (by decide +kernel) ⟨Nat.le_of_ble_eq_true rfl, Nat.le_of_ble_eq_true rfl⟩) (va_recv hK hPc (ci := 1) (q0 := 0) rfl rfl) rfl hl.1 rfl (Nat.le_of_ble_eq_true rfl) dL_law_249 ⟨show 18 + k ≤ 600000 by omega, show 5580 + 9 * k ≤ 7302250 by omega⟩ (fun H locs hPc hDc hPm hap hS => ?_)
  refine W.eq (g2 := F0 m 252 ls [.int r]) rfl ?_
  refine lv_aload_n hx hb dL_law_252 rfl (lv_at hl 2 rfl) ?_
  refine lv_aload_n hx hb dL_law_253 rfl (lv_at hl 0 rfl) ?_
  refine lv_iload_n hx hb dL_law_254 rfl (lv_at hl 3 rfl) ?_
  refine lv_iconst (v := 1) hx hb dL_law_255 (by decide) ?_
  refine lv_iadd hx hb dL_law_256 ?_
  refine va_sld hx hb hX hbl hbA hS h1 dL_law_257 ?_
  refine w_top ex1 ?_
  refine lv_aload_n hx hb dL_law_258 rfl (lv_at hl 0 rfl) ?_
  refine lv_iload_n hx hb dL_law_259 rfl (lv_at hl 3 rfl) ?_
  refine lv_iconst (v := 2) hx hb dL_law_260 (by decide) ?_
  refine lv_iadd hx hb dL_law_261 ?_
  refine va_sld hx hb hX hbl hbA hS h2 dL_law_262 ?_
  refine w_top ex2 ?_
  refine lc_C (C := RX2) (rest := [.int r]) X hK hN hA hPm hDm hPc hap.symm hS (kX2_lead l G cy cyO am zm x1 x2 r zn e2) (cwV 2 hts gL_law_X2_lead rfl rfl rfl (by decide +kernel) ⟨Nat.le_of_ble_eq_true rfl, Nat.le_of_ble_eq_true rfl⟩) (va_recv hK hPm (ci := 2) (q0 := 0) rfl rfl) rfl hl.1 rfl (Nat.le_of_ble_eq_true rfl) dL_law_263 ⟨show 18 + k ≤ 600000 by omega, show 5580 + 9 * k ≤ 7302250 by omega⟩ (fun H locs hPm hDm hPc hap hS => ?_)
  refine W.eq (g2 := F0 m 266 ls [.int r, .int r]) rfl ?_
  refine lv_icmp_eq (tgt := 472) hx hb dL_law_266 (by decide) (fun _ => ?_) (fun h9 => absurd rfl h9)
  refine W.widen (k := 18 + (k + 1)) (n := 5580 + 9 * (k + 1)) (by omega) (by omega) ?_
  exact next n zd zn H locs ls (by omega) ⟨hR2, hPc, hDc, hPm, hDm, hap.symm, hS, hl⟩
set_option maxRecDepth 100000 in
set_option maxHeartbeats 4000000 in
theorem lw_unlead {p : Program} {l : Launch} {e : Env} {s : State} {m : MethodId} {below : List Frame} {meth : Method} {c : Code} {G : va_G} {cy cyO : ClassId} {ac am : Nat → Nat} {b L : Nat} {xs : Nat → Int32} (X : CallFix p m c code 4 s #[Value.ref b] wsL_law RL) (hK : va_K G vwCl (tys_ cy cyO) s) (hN : nw s) (hX : va_X b L xs s s.heap) (hbl : b < s.heap.size) (hL : L ≤ 2560) {k : Nat} (hk : 5 * k + 5 ≤ L) (next : ∀ (n : Nat) (zc : SC) (zm : SM) (H : Heap) (locs : List Loc) (ls : Array Slot), n ≤ k + 1 → lw_I G cy cyO ac am (fun q : Nat => s.heap.size ≤ q) s b (5 * k) n zc zm H locs ls → W p l e room_1 s m #[Value.ref b] below meth c H locs (18 + (k + 1)) (5580 + 9 * (k + 1)) (lw_Z below #[Value.ref b] s) (F0 m 472 ls []))
    {n : Nat} {zc : SC} {zm : SM} {H : Heap} {locs : List Loc} {ls : Array Slot} (hn : n ≤ k) (hI : lw_I G cy cyO ac am (fun q : Nat => s.heap.size ≤ q) s b (5 * k) n zc zm H locs ls) : W p l e room_1 s m #[Value.ref b] below meth c H locs (18 + k) (5580 + 9 * k) (lw_Z below #[Value.ref b] s) (F0 m 271 ls []) := by
  obtain ⟨hx, hb, hml, hown, hts⟩ := id X
  obtain ⟨hR, hPc, hDc, hPm, hDm, hap, hS, hl⟩ := hI
  have hA : ∀ q : Nat, s.heap.size ≤ q → (fun q : Nat => s.heap.size ≤ q) q := fun _ h => h
  have hbA : ¬ (fun q : Nat => s.heap.size ≤ q) b := Nat.not_le.mpr hbl
  have h1 : vp_in (nI (5 * k) + 1) L := by rw [ix_add (5 * k) 1 1 rfl]; exact vp_in_nI (by omega) (by omega)
  obtain ⟨x1, ex1⟩ : ∃ y : Int32, y = xs (nI (5 * k) + 1).toNatClampNeg := ⟨_, rfl⟩
  obtain ⟨r, zd, zn, e1, e2, hR2⟩ := t_unlead hR x1
  refine lv_aload_n hx hb dL_law_271 rfl (lv_at hl 1 rfl) ?_
  refine lv_aload_n hx hb dL_law_272 rfl (lv_at hl 0 rfl) ?_
  refine lv_iload_n hx hb dL_law_273 rfl (lv_at hl 3 rfl) ?_
  refine lv_iconst (v := 1) hx hb dL_law_274 (by decide) ?_
  refine lv_iadd hx hb dL_law_275 ?_
  refine va_sld hx hb hX hbl hbA hS h1 dL_law_276 ?_
  refine w_top ex1 ?_
  refine lc_C (C := RX1) (rest := []) X hK hN hA hPc hDc hPm hap hS (kX1_unlead l G cy cyO ac zc x1 r zd e1) (cwV 1 hts gL_law_X1_unlead rfl rfl rfl (by decide +kernel) ⟨Nat.le_of_ble_eq_true rfl, Nat.le_of_ble_eq_true rfl⟩) (va_recv hK hPc (ci := 1) (q0 := 0) rfl rfl) rfl hl.1 rfl (Nat.le_of_ble_eq_true rfl) dL_law_277 ⟨show 18 + k ≤ 600000 by omega, show 5580 + 9 * k ≤ 7302250 by omega⟩ (fun H locs hPc hDc hPm hap hS => ?_)
  refine W.eq (g2 := F0 m 280 ls [.int r]) rfl ?_
  refine lv_aload_n hx hb dL_law_280 rfl (lv_at hl 2 rfl) ?_
  refine lv_aload_n hx hb dL_law_281 rfl (lv_at hl 0 rfl) ?_
  refine lv_iload_n hx hb dL_law_282 rfl (lv_at hl 3 rfl) ?_
  refine lv_iconst (v := 1) hx hb dL_law_283 (by decide) ?_
  refine lv_iadd hx hb dL_law_284 ?_
  refine va_sld hx hb hX hbl hbA hS h1 dL_law_285 ?_
  refine w_top ex1 ?_
  refine lc_C (C := RX2) (rest := [.int r]) X hK hN hA hPm hDm hPc hap.symm hS (kX2_unlead l G cy cyO am zm x1 r zn e2) (cwV 1 hts gL_law_X2_unlead rfl rfl rfl (by decide +kernel) ⟨Nat.le_of_ble_eq_true rfl, Nat.le_of_ble_eq_true rfl⟩) (va_recv hK hPm (ci := 2) (q0 := 0) rfl rfl) rfl hl.1 rfl (Nat.le_of_ble_eq_true rfl) dL_law_286 ⟨show 18 + k ≤ 600000 by omega, show 5580 + 9 * k ≤ 7302250 by omega⟩ (fun H locs hPm hDm hPc hap hS => ?_)
  refine W.eq (g2 := F0 m 289 ls [.int r, .int r]) rfl ?_
  refine lv_icmp_eq (tgt := 472) hx hb dL_law_289 (by decide) (fun _ => ?_) (fun h9 => absurd rfl h9)
  refine W.widen (k := 18 + (k + 1)) (n := 5580 + 9 * (k + 1)) (by omega) (by omega) ?_
  exact next n zd zn H locs ls (by omega) ⟨hR2, hPc, hDc, hPm, hDm, hap.symm, hS, hl⟩
set_option maxRecDepth 100000 in
set_option maxHeartbeats 4000000 in
theorem lw_run {p : Program} {l : Launch} {e : Env} {s : State} {m : MethodId} {below : List Frame} {meth : Method} {c : Code} {G : va_G} {cy cyO : ClassId} {ac am : Nat → Nat} {b L : Nat} {xs : Nat → Int32} (X : CallFix p m c code 4 s #[Value.ref b] wsL_law RL) (hK : va_K G vwCl (tys_ cy cyO) s) (hN : nw s) (hX : va_X b L xs s s.heap) (hbl : b < s.heap.size) (hL : L ≤ 2560) {k : Nat} (hk : 5 * k + 5 ≤ L) (next : ∀ (n : Nat) (zc : SC) (zm : SM) (H : Heap) (locs : List Loc) (ls : Array Slot), n ≤ k + 1 → lw_I G cy cyO ac am (fun q : Nat => s.heap.size ≤ q) s b (5 * k) n zc zm H locs ls → W p l e room_1 s m #[Value.ref b] below meth c H locs (18 + (k + 1)) (5580 + 9 * (k + 1)) (lw_Z below #[Value.ref b] s) (F0 m 472 ls []))
    {n : Nat} {zc : SC} {zm : SM} {H : Heap} {locs : List Loc} {ls : Array Slot} (hn : n ≤ k) (hI : lw_I G cy cyO ac am (fun q : Nat => s.heap.size ≤ q) s b (5 * k) n zc zm H locs ls) : W p l e room_1 s m #[Value.ref b] below meth c H locs (18 + k) (5580 + 9 * k) (lw_Z below #[Value.ref b] s) (F0 m 294 ls []) := by
  obtain ⟨hx, hb, hml, hown, hts⟩ := id X
  obtain ⟨hR, hPc, hDc, hPm, hDm, hap, hS, hl⟩ := hI
  have hA : ∀ q : Nat, s.heap.size ≤ q → (fun q : Nat => s.heap.size ≤ q) q := fun _ h => h
  have hbA : ¬ (fun q : Nat => s.heap.size ≤ q) b := Nat.not_le.mpr hbl
  have h1 : vp_in (nI (5 * k) + 1) L := by rw [ix_add (5 * k) 1 1 rfl]; exact vp_in_nI (by omega) (by omega)
  obtain ⟨x1, ex1⟩ : ∃ y : Int32, y = xs (nI (5 * k) + 1).toNatClampNeg := ⟨_, rfl⟩
  have h2 : vp_in (nI (5 * k) + 2) L := by rw [ix_add (5 * k) 2 2 rfl]; exact vp_in_nI (by omega) (by omega)
  obtain ⟨x2, ex2⟩ : ∃ y : Int32, y = xs (nI (5 * k) + 2).toNatClampNeg := ⟨_, rfl⟩
  have h3 : vp_in (nI (5 * k) + 3) L := by rw [ix_add (5 * k) 3 3 rfl]; exact vp_in_nI (by omega) (by omega)
  obtain ⟨x3, ex3⟩ : ∃ y : Int32, y = xs (nI (5 * k) + 3).toNatClampNeg := ⟨_, rfl⟩
  obtain ⟨r, zd, zn, e1, e2, hR2⟩ := t_run hR x1 x2 x3
  refine lv_aload_n hx hb dL_law_294 rfl (lv_at hl 1 rfl) ?_
  refine lv_aload_n hx hb dL_law_295 rfl (lv_at hl 0 rfl) ?_
  refine lv_iload_n hx hb dL_law_296 rfl (lv_at hl 3 rfl) ?_
  refine lv_iconst (v := 1) hx hb dL_law_297 (by decide) ?_
  refine lv_iadd hx hb dL_law_298 ?_
  refine va_sld hx hb hX hbl hbA hS h1 dL_law_299 ?_
  refine w_top ex1 ?_
  refine lv_aload_n hx hb dL_law_300 rfl (lv_at hl 0 rfl) ?_
  refine lv_iload_n hx hb dL_law_301 rfl (lv_at hl 3 rfl) ?_
  refine lv_iconst (v := 2) hx hb dL_law_302 (by decide) ?_
  refine lv_iadd hx hb dL_law_303 ?_
  refine va_sld hx hb hX hbl hbA hS h2 dL_law_304 ?_
  refine w_top ex2 ?_
  refine lv_aload_n hx hb dL_law_305 rfl (lv_at hl 0 rfl) ?_
  refine lv_iload_n hx hb dL_law_306 rfl (lv_at hl 3 rfl) ?_
  refine lv_iconst (v := 3) hx hb dL_law_307 (by decide) ?_
  refine lv_iadd hx hb dL_law_308 ?_
  refine va_sld hx hb hX hbl hbA hS h3 dL_law_309 ?_
  refine w_top ex3 ?_
  refine lc_C (C := RX1) (rest := []) X hK hN hA hPc hDc hPm hap hS (kX1_run l G cy cyO ac zc x1 x2 x3 r zd e1) (cwV 3 hts gL_law_X1_run rfl rfl rfl (by decide +kernel) ⟨Nat.le_of_ble_eq_true rfl, Nat.le_of_ble_eq_true rfl⟩) (va_recv hK hPc (ci := 1) (q0 := 0) rfl rfl) rfl hl.1 rfl (Nat.le_of_ble_eq_true rfl) dL_law_310 ⟨show 18 + k ≤ 600000 by omega, show 5580 + 9 * k ≤ 7302250 by omega⟩ (fun H locs hPc hDc hPm hap hS => ?_)
  refine W.eq (g2 := F0 m 313 ls [.int r]) rfl ?_
  refine lv_aload_n hx hb dL_law_313 rfl (lv_at hl 2 rfl) ?_
  refine lv_aload_n hx hb dL_law_314 rfl (lv_at hl 0 rfl) ?_
  refine lv_iload_n hx hb dL_law_315 rfl (lv_at hl 3 rfl) ?_
  refine lv_iconst (v := 1) hx hb dL_law_316 (by decide) ?_
  refine lv_iadd hx hb dL_law_317 ?_
  refine va_sld hx hb hX hbl hbA hS h1 dL_law_318 ?_
  refine w_top ex1 ?_
  refine lv_aload_n hx hb dL_law_319 rfl (lv_at hl 0 rfl) ?_
  refine lv_iload_n hx hb dL_law_320 rfl (lv_at hl 3 rfl) ?_
  refine lv_iconst (v := 2) hx hb dL_law_321 (by decide) ?_
  refine lv_iadd hx hb dL_law_322 ?_
  refine va_sld hx hb hX hbl hbA hS h2 dL_law_323 ?_
  refine w_top ex2 ?_
  refine lv_aload_n hx hb dL_law_324 rfl (lv_at hl 0 rfl) ?_
  refine lv_iload_n hx hb dL_law_325 rfl (lv_at hl 3 rfl) ?_
  refine lv_iconst (v := 3) hx hb dL_law_326 (by decide) ?_
  refine lv_iadd hx hb dL_law_327 ?_
  refine va_sld hx hb hX hbl hbA hS h3 dL_law_328 ?_
  refine w_top ex3 ?_
  refine lc_C (C := RX2) (rest := [.int r]) X hK hN hA hPm hDm hPc hap.symm hS (kX2_run l G cy cyO am zm x1 x2 x3 r zn e2) (cwV 3 hts gL_law_X2_run rfl rfl rfl (by decide +kernel) ⟨Nat.le_of_ble_eq_true rfl, Nat.le_of_ble_eq_true rfl⟩) (va_recv hK hPm (ci := 2) (q0 := 0) rfl rfl) rfl hl.1 rfl (Nat.le_of_ble_eq_true rfl) dL_law_329 ⟨show 18 + k ≤ 600000 by omega, show 5580 + 9 * k ≤ 7302250 by omega⟩ (fun H locs hPm hDm hPc hap hS => ?_)
  refine W.eq (g2 := F0 m 332 ls [.int r, .int r]) rfl ?_
  refine lv_icmp_eq (tgt := 472) hx hb dL_law_332 (by decide) (fun _ => ?_) (fun h9 => absurd rfl h9)
  refine W.widen (k := 18 + (k + 1)) (n := 5580 + 9 * (k + 1)) (by omega) (by omega) ?_
  exact next n zd zn H locs ls (by omega) ⟨hR2, hPc, hDc, hPm, hDm, hap.symm, hS, hl⟩
set_option maxRecDepth 100000 in
set_option maxHeartbeats 4000000 in
theorem lw_shunt {p : Program} {l : Launch} {e : Env} {s : State} {m : MethodId} {below : List Frame} {meth : Method} {c : Code} {G : va_G} {cy cyO : ClassId} {ac am : Nat → Nat} {b L : Nat} {xs : Nat → Int32} (X : CallFix p m c code 4 s #[Value.ref b] wsL_law RL) (hK : va_K G vwCl (tys_ cy cyO) s) (hN : nw s) (hX : va_X b L xs s s.heap) (hbl : b < s.heap.size) (hL : L ≤ 2560) {k : Nat} (hk : 5 * k + 5 ≤ L) (next : ∀ (n : Nat) (zc : SC) (zm : SM) (H : Heap) (locs : List Loc) (ls : Array Slot), n ≤ k + 1 → lw_I G cy cyO ac am (fun q : Nat => s.heap.size ≤ q) s b (5 * k) n zc zm H locs ls → W p l e room_1 s m #[Value.ref b] below meth c H locs (18 + (k + 1)) (5580 + 9 * (k + 1)) (lw_Z below #[Value.ref b] s) (F0 m 472 ls []))
    {n : Nat} {zc : SC} {zm : SM} {H : Heap} {locs : List Loc} {ls : Array Slot} (hn : n ≤ k) (hI : lw_I G cy cyO ac am (fun q : Nat => s.heap.size ≤ q) s b (5 * k) n zc zm H locs ls) : W p l e room_1 s m #[Value.ref b] below meth c H locs (18 + k) (5580 + 9 * k) (lw_Z below #[Value.ref b] s) (F0 m 337 ls []) := by
  obtain ⟨hx, hb, hml, hown, hts⟩ := id X
  obtain ⟨hR, hPc, hDc, hPm, hDm, hap, hS, hl⟩ := hI
  have hA : ∀ q : Nat, s.heap.size ≤ q → (fun q : Nat => s.heap.size ≤ q) q := fun _ h => h
  have hbA : ¬ (fun q : Nat => s.heap.size ≤ q) b := Nat.not_le.mpr hbl
  have h1 : vp_in (nI (5 * k) + 1) L := by rw [ix_add (5 * k) 1 1 rfl]; exact vp_in_nI (by omega) (by omega)
  obtain ⟨x1, ex1⟩ : ∃ y : Int32, y = xs (nI (5 * k) + 1).toNatClampNeg := ⟨_, rfl⟩
  have h2 : vp_in (nI (5 * k) + 2) L := by rw [ix_add (5 * k) 2 2 rfl]; exact vp_in_nI (by omega) (by omega)
  obtain ⟨x2, ex2⟩ : ∃ y : Int32, y = xs (nI (5 * k) + 2).toNatClampNeg := ⟨_, rfl⟩
  have h3 : vp_in (nI (5 * k) + 3) L := by rw [ix_add (5 * k) 3 3 rfl]; exact vp_in_nI (by omega) (by omega)
  obtain ⟨x3, ex3⟩ : ∃ y : Int32, y = xs (nI (5 * k) + 3).toNatClampNeg := ⟨_, rfl⟩
  obtain ⟨r, zd, zn, e1, e2, hR2⟩ := t_shunt hR x1 x2 x3
  refine lv_aload_n hx hb dL_law_337 rfl (lv_at hl 1 rfl) ?_
  refine lv_aload_n hx hb dL_law_338 rfl (lv_at hl 0 rfl) ?_
  refine lv_iload_n hx hb dL_law_339 rfl (lv_at hl 3 rfl) ?_
  refine lv_iconst (v := 1) hx hb dL_law_340 (by decide) ?_
  refine lv_iadd hx hb dL_law_341 ?_
  refine va_sld hx hb hX hbl hbA hS h1 dL_law_342 ?_
  refine w_top ex1 ?_
  refine lv_aload_n hx hb dL_law_343 rfl (lv_at hl 0 rfl) ?_
  refine lv_iload_n hx hb dL_law_344 rfl (lv_at hl 3 rfl) ?_
  refine lv_iconst (v := 2) hx hb dL_law_345 (by decide) ?_
  refine lv_iadd hx hb dL_law_346 ?_
  refine va_sld hx hb hX hbl hbA hS h2 dL_law_347 ?_
  refine w_top ex2 ?_
  refine lv_aload_n hx hb dL_law_348 rfl (lv_at hl 0 rfl) ?_
  refine lv_iload_n hx hb dL_law_349 rfl (lv_at hl 3 rfl) ?_
  refine lv_iconst (v := 3) hx hb dL_law_350 (by decide) ?_
  refine lv_iadd hx hb dL_law_351 ?_
  refine va_sld hx hb hX hbl hbA hS h3 dL_law_352 ?_
  refine w_top ex3 ?_
  refine lc_C (C := RX1) (rest := []) X hK hN hA hPc hDc hPm hap hS (kX1_shunt l G cy cyO ac zc x1 x2 x3 r zd e1) (cwV 3 hts gL_law_X1_shunt rfl rfl rfl (by decide +kernel) ⟨Nat.le_of_ble_eq_true rfl, Nat.le_of_ble_eq_true rfl⟩) (va_recv hK hPc (ci := 1) (q0 := 0) rfl rfl) rfl hl.1 rfl (Nat.le_of_ble_eq_true rfl) dL_law_353 ⟨show 18 + k ≤ 600000 by omega, show 5580 + 9 * k ≤ 7302250 by omega⟩ (fun H locs hPc hDc hPm hap hS => ?_)
  refine W.eq (g2 := F0 m 356 ls [.int r]) rfl ?_
  refine lv_aload_n hx hb dL_law_356 rfl (lv_at hl 2 rfl) ?_
  refine lv_aload_n hx hb dL_law_357 rfl (lv_at hl 0 rfl) ?_
  refine lv_iload_n hx hb dL_law_358 rfl (lv_at hl 3 rfl) ?_
  refine lv_iconst (v := 1) hx hb dL_law_359 (by decide) ?_
  refine lv_iadd hx hb dL_law_360 ?_
  refine va_sld hx hb hX hbl hbA hS h1 dL_law_361 ?_
  refine w_top ex1 ?_
  refine lv_aload_n hx hb dL_law_362 rfl (lv_at hl 0 rfl) ?_
  refine lv_iload_n hx hb dL_law_363 rfl (lv_at hl 3 rfl) ?_
  refine lv_iconst (v := 2) hx hb dL_law_364 (by decide) ?_
  refine lv_iadd hx hb dL_law_365 ?_
  refine va_sld hx hb hX hbl hbA hS h2 dL_law_366 ?_
  refine w_top ex2 ?_
  refine lv_aload_n hx hb dL_law_367 rfl (lv_at hl 0 rfl) ?_
  refine lv_iload_n hx hb dL_law_368 rfl (lv_at hl 3 rfl) ?_
  refine lv_iconst (v := 3) hx hb dL_law_369 (by decide) ?_
  refine lv_iadd hx hb dL_law_370 ?_
  refine va_sld hx hb hX hbl hbA hS h3 dL_law_371 ?_
  refine w_top ex3 ?_
  refine lc_C (C := RX2) (rest := [.int r]) X hK hN hA hPm hDm hPc hap.symm hS (kX2_shunt l G cy cyO am zm x1 x2 x3 r zn e2) (cwV 3 hts gL_law_X2_shunt rfl rfl rfl (by decide +kernel) ⟨Nat.le_of_ble_eq_true rfl, Nat.le_of_ble_eq_true rfl⟩) (va_recv hK hPm (ci := 2) (q0 := 0) rfl rfl) rfl hl.1 rfl (Nat.le_of_ble_eq_true rfl) dL_law_372 ⟨show 18 + k ≤ 600000 by omega, show 5580 + 9 * k ≤ 7302250 by omega⟩ (fun H locs hPm hDm hPc hap hS => ?_)
  refine W.eq (g2 := F0 m 375 ls [.int r, .int r]) rfl ?_
  refine lv_icmp_eq (tgt := 472) hx hb dL_law_375 (by decide) (fun _ => ?_) (fun h9 => absurd rfl h9)
  refine W.widen (k := 18 + (k + 1)) (n := 5580 + 9 * (k + 1)) (by omega) (by omega) ?_
  exact next n zd zn H locs ls (by omega) ⟨hR2, hPc, hDc, hPm, hDm, hap.symm, hS, hl⟩
set_option maxRecDepth 100000 in
set_option maxHeartbeats 4000000 in
theorem lw_passed {p : Program} {l : Launch} {e : Env} {s : State} {m : MethodId} {below : List Frame} {meth : Method} {c : Code} {G : va_G} {cy cyO : ClassId} {ac am : Nat → Nat} {b L : Nat} {xs : Nat → Int32} (X : CallFix p m c code 4 s #[Value.ref b] wsL_law RL) (hK : va_K G vwCl (tys_ cy cyO) s) (hN : nw s) (hX : va_X b L xs s s.heap) (hbl : b < s.heap.size) (hL : L ≤ 2560) {k : Nat} (hk : 5 * k + 5 ≤ L) (next : ∀ (n : Nat) (zc : SC) (zm : SM) (H : Heap) (locs : List Loc) (ls : Array Slot), n ≤ k + 1 → lw_I G cy cyO ac am (fun q : Nat => s.heap.size ≤ q) s b (5 * k) n zc zm H locs ls → W p l e room_1 s m #[Value.ref b] below meth c H locs (18 + (k + 1)) (5580 + 9 * (k + 1)) (lw_Z below #[Value.ref b] s) (F0 m 472 ls []))
    {n : Nat} {zc : SC} {zm : SM} {H : Heap} {locs : List Loc} {ls : Array Slot} (hn : n ≤ k) (hI : lw_I G cy cyO ac am (fun q : Nat => s.heap.size ≤ q) s b (5 * k) n zc zm H locs ls) : W p l e room_1 s m #[Value.ref b] below meth c H locs (18 + k) (5580 + 9 * k) (lw_Z below #[Value.ref b] s) (F0 m 380 ls []) := by
  obtain ⟨hx, hb, hml, hown, hts⟩ := id X
  obtain ⟨hR, hPc, hDc, hPm, hDm, hap, hS, hl⟩ := hI
  have hA : ∀ q : Nat, s.heap.size ≤ q → (fun q : Nat => s.heap.size ≤ q) q := fun _ h => h
  have hbA : ¬ (fun q : Nat => s.heap.size ≤ q) b := Nat.not_le.mpr hbl
  obtain ⟨r, zd, zn, e1, e2, hR2⟩ := t_passed hR 
  refine lv_aload_n hx hb dL_law_380 rfl (lv_at hl 1 rfl) ?_
  refine lc_C (C := RX1) (rest := []) X hK hN hA hPc hDc hPm hap hS (kX1_passed l G cy cyO ac zc  r zd e1) (cwV 0 hts gL_law_X1_passed rfl rfl rfl (by decide +kernel) ⟨Nat.le_of_ble_eq_true rfl, Nat.le_of_ble_eq_true rfl⟩) (va_recv hK hPc (ci := 1) (q0 := 0) rfl rfl) rfl hl.1 rfl (Nat.le_of_ble_eq_true rfl) dL_law_381 ⟨show 18 + k ≤ 600000 by omega, show 5580 + 9 * k ≤ 7302250 by omega⟩ (fun H locs hPc hDc hPm hap hS => ?_)
  refine W.eq (g2 := F0 m 384 ls [.int r]) rfl ?_
  refine lv_aload_n hx hb dL_law_384 rfl (lv_at hl 2 rfl) ?_
  refine lc_C (C := RX2) (rest := [.int r]) X hK hN hA hPm hDm hPc hap.symm hS (kX2_passed l G cy cyO am zm  r zn e2) (cwV 0 hts gL_law_X2_passed rfl rfl rfl (by decide +kernel) ⟨Nat.le_of_ble_eq_true rfl, Nat.le_of_ble_eq_true rfl⟩) (va_recv hK hPm (ci := 2) (q0 := 0) rfl rfl) rfl hl.1 rfl (Nat.le_of_ble_eq_true rfl) dL_law_385 ⟨show 18 + k ≤ 600000 by omega, show 5580 + 9 * k ≤ 7302250 by omega⟩ (fun H locs hPm hDm hPc hap hS => ?_)
  refine W.eq (g2 := F0 m 388 ls [.int r, .int r]) rfl ?_
  refine lv_icmp_eq (tgt := 472) hx hb dL_law_388 (by decide) (fun _ => ?_) (fun h9 => absurd rfl h9)
  refine W.widen (k := 18 + (k + 1)) (n := 5580 + 9 * (k + 1)) (by omega) (by omega) ?_
  exact next n zd zn H locs ls (by omega) ⟨hR2, hPc, hDc, hPm, hDm, hap.symm, hS, hl⟩
set_option maxRecDepth 100000 in
set_option maxHeartbeats 4000000 in
theorem lw_trace {p : Program} {l : Launch} {e : Env} {s : State} {m : MethodId} {below : List Frame} {meth : Method} {c : Code} {G : va_G} {cy cyO : ClassId} {ac am : Nat → Nat} {b L : Nat} {xs : Nat → Int32} (X : CallFix p m c code 4 s #[Value.ref b] wsL_law RL) (hK : va_K G vwCl (tys_ cy cyO) s) (hN : nw s) (hX : va_X b L xs s s.heap) (hbl : b < s.heap.size) (hL : L ≤ 2560) {k : Nat} (hk : 5 * k + 5 ≤ L) (next : ∀ (n : Nat) (zc : SC) (zm : SM) (H : Heap) (locs : List Loc) (ls : Array Slot), n ≤ k + 1 → lw_I G cy cyO ac am (fun q : Nat => s.heap.size ≤ q) s b (5 * k) n zc zm H locs ls → W p l e room_1 s m #[Value.ref b] below meth c H locs (18 + (k + 1)) (5580 + 9 * (k + 1)) (lw_Z below #[Value.ref b] s) (F0 m 472 ls []))
    {n : Nat} {zc : SC} {zm : SM} {H : Heap} {locs : List Loc} {ls : Array Slot} (hn : n ≤ k) (hI : lw_I G cy cyO ac am (fun q : Nat => s.heap.size ≤ q) s b (5 * k) n zc zm H locs ls) : W p l e room_1 s m #[Value.ref b] below meth c H locs (18 + k) (5580 + 9 * k) (lw_Z below #[Value.ref b] s) (F0 m 393 ls []) := by
  obtain ⟨hx, hb, hml, hown, hts⟩ := id X
  obtain ⟨hR, hPc, hDc, hPm, hDm, hap, hS, hl⟩ := hI
  have hA : ∀ q : Nat, s.heap.size ≤ q → (fun q : Nat => s.heap.size ≤ q) q := fun _ h => h
  have hbA : ¬ (fun q : Nat => s.heap.size ≤ q) b := Nat.not_le.mpr hbl
  have h1 : vp_in (nI (5 * k) + 1) L := by rw [ix_add (5 * k) 1 1 rfl]; exact vp_in_nI (by omega) (by omega)
  obtain ⟨x1, ex1⟩ : ∃ y : Int32, y = xs (nI (5 * k) + 1).toNatClampNeg := ⟨_, rfl⟩
  obtain ⟨r, zd, zn, e1, e2, hR2⟩ := t_trace hR x1
  refine lv_aload_n hx hb dL_law_393 rfl (lv_at hl 1 rfl) ?_
  refine lv_aload_n hx hb dL_law_394 rfl (lv_at hl 0 rfl) ?_
  refine lv_iload_n hx hb dL_law_395 rfl (lv_at hl 3 rfl) ?_
  refine lv_iconst (v := 1) hx hb dL_law_396 (by decide) ?_
  refine lv_iadd hx hb dL_law_397 ?_
  refine va_sld hx hb hX hbl hbA hS h1 dL_law_398 ?_
  refine w_top ex1 ?_
  refine lc_C (C := RX1) (rest := []) X hK hN hA hPc hDc hPm hap hS (kX1_trace l G cy cyO ac zc x1 r zd e1) (cwV 1 hts gL_law_X1_trace rfl rfl rfl (by decide +kernel) ⟨Nat.le_of_ble_eq_true rfl, Nat.le_of_ble_eq_true rfl⟩) (va_recv hK hPc (ci := 1) (q0 := 0) rfl rfl) rfl hl.1 rfl (Nat.le_of_ble_eq_true rfl) dL_law_399 ⟨show 18 + k ≤ 600000 by omega, show 5580 + 9 * k ≤ 7302250 by omega⟩ (fun H locs hPc hDc hPm hap hS => ?_)
  refine W.eq (g2 := F0 m 402 ls [.int r]) rfl ?_
  refine lv_aload_n hx hb dL_law_402 rfl (lv_at hl 2 rfl) ?_
  refine lv_aload_n hx hb dL_law_403 rfl (lv_at hl 0 rfl) ?_
  refine lv_iload_n hx hb dL_law_404 rfl (lv_at hl 3 rfl) ?_
  refine lv_iconst (v := 1) hx hb dL_law_405 (by decide) ?_
  refine lv_iadd hx hb dL_law_406 ?_
  refine va_sld hx hb hX hbl hbA hS h1 dL_law_407 ?_
  refine w_top ex1 ?_
  refine lc_C (C := RX2) (rest := [.int r]) X hK hN hA hPm hDm hPc hap.symm hS (kX2_trace l G cy cyO am zm x1 r zn e2) (cwV 1 hts gL_law_X2_trace rfl rfl rfl (by decide +kernel) ⟨Nat.le_of_ble_eq_true rfl, Nat.le_of_ble_eq_true rfl⟩) (va_recv hK hPm (ci := 2) (q0 := 0) rfl rfl) rfl hl.1 rfl (Nat.le_of_ble_eq_true rfl) dL_law_408 ⟨show 18 + k ≤ 600000 by omega, show 5580 + 9 * k ≤ 7302250 by omega⟩ (fun H locs hPm hDm hPc hap hS => ?_)
  refine W.eq (g2 := F0 m 411 ls [.int r, .int r]) rfl ?_
  refine lv_icmp_eq (tgt := 472) hx hb dL_law_411 (by decide) (fun _ => ?_) (fun h9 => absurd rfl h9)
  refine W.widen (k := 18 + (k + 1)) (n := 5580 + 9 * (k + 1)) (by omega) (by omega) ?_
  exact next n zd zn H locs ls (by omega) ⟨hR2, hPc, hDc, hPm, hDm, hap.symm, hS, hl⟩
set_option maxRecDepth 100000 in
set_option maxHeartbeats 4000000 in
theorem lw_told {p : Program} {l : Launch} {e : Env} {s : State} {m : MethodId} {below : List Frame} {meth : Method} {c : Code} {G : va_G} {cy cyO : ClassId} {ac am : Nat → Nat} {b L : Nat} {xs : Nat → Int32} (X : CallFix p m c code 4 s #[Value.ref b] wsL_law RL) (hK : va_K G vwCl (tys_ cy cyO) s) (hN : nw s) (hX : va_X b L xs s s.heap) (hbl : b < s.heap.size) (hL : L ≤ 2560) {k : Nat} (hk : 5 * k + 5 ≤ L) (next : ∀ (n : Nat) (zc : SC) (zm : SM) (H : Heap) (locs : List Loc) (ls : Array Slot), n ≤ k + 1 → lw_I G cy cyO ac am (fun q : Nat => s.heap.size ≤ q) s b (5 * k) n zc zm H locs ls → W p l e room_1 s m #[Value.ref b] below meth c H locs (18 + (k + 1)) (5580 + 9 * (k + 1)) (lw_Z below #[Value.ref b] s) (F0 m 472 ls []))
    {n : Nat} {zc : SC} {zm : SM} {H : Heap} {locs : List Loc} {ls : Array Slot} (hn : n ≤ k) (hI : lw_I G cy cyO ac am (fun q : Nat => s.heap.size ≤ q) s b (5 * k) n zc zm H locs ls) : W p l e room_1 s m #[Value.ref b] below meth c H locs (18 + k) (5580 + 9 * k) (lw_Z below #[Value.ref b] s) (F0 m 416 ls []) := by
  obtain ⟨hx, hb, hml, hown, hts⟩ := id X
  obtain ⟨hR, hPc, hDc, hPm, hDm, hap, hS, hl⟩ := hI
  have hA : ∀ q : Nat, s.heap.size ≤ q → (fun q : Nat => s.heap.size ≤ q) q := fun _ h => h
  have hbA : ¬ (fun q : Nat => s.heap.size ≤ q) b := Nat.not_le.mpr hbl
  have h1 : vp_in (nI (5 * k) + 1) L := by rw [ix_add (5 * k) 1 1 rfl]; exact vp_in_nI (by omega) (by omega)
  obtain ⟨x1, ex1⟩ : ∃ y : Int32, y = xs (nI (5 * k) + 1).toNatClampNeg := ⟨_, rfl⟩
  have h2 : vp_in (nI (5 * k) + 2) L := by rw [ix_add (5 * k) 2 2 rfl]; exact vp_in_nI (by omega) (by omega)
  obtain ⟨x2, ex2⟩ : ∃ y : Int32, y = xs (nI (5 * k) + 2).toNatClampNeg := ⟨_, rfl⟩
  obtain ⟨r, zd, zn, e1, e2, hR2⟩ := t_told hR x1 x2
  refine lv_aload_n hx hb dL_law_416 rfl (lv_at hl 1 rfl) ?_
  refine lv_aload_n hx hb dL_law_417 rfl (lv_at hl 0 rfl) ?_
  refine lv_iload_n hx hb dL_law_418 rfl (lv_at hl 3 rfl) ?_
  refine lv_iconst (v := 1) hx hb dL_law_419 (by decide) ?_
  refine lv_iadd hx hb dL_law_420 ?_
  refine va_sld hx hb hX hbl hbA hS h1 dL_law_421 ?_
  refine w_top ex1 ?_
  refine lv_aload_n hx hb dL_law_422 rfl (lv_at hl 0 rfl) ?_
  refine lv_iload_n hx hb dL_law_423 rfl (lv_at hl 3 rfl) ?_
  refine lv_iconst (v := 2) hx hb dL_law_424 (by decide) ?_
  refine lv_iadd hx hb dL_law_425 ?_
  refine va_sld hx hb hX hbl hbA hS h2 dL_law_426 ?_
  refine w_top ex2 ?_
  refine lc_C (C := RX1) (rest := []) X hK hN hA hPc hDc hPm hap hS (kX1_told l G cy cyO ac zc x1 x2 r zd e1) (cwV 2 hts gL_law_X1_told rfl rfl rfl (by decide +kernel) ⟨Nat.le_of_ble_eq_true rfl, Nat.le_of_ble_eq_true rfl⟩) (va_recv hK hPc (ci := 1) (q0 := 0) rfl rfl) rfl hl.1 rfl (Nat.le_of_ble_eq_true rfl) dL_law_427 ⟨show 18 + k ≤ 600000 by omega, show 5580 + 9 * k ≤ 7302250 by omega⟩ (fun H locs hPc hDc hPm hap hS => ?_)
  refine W.eq (g2 := F0 m 430 ls [.int r]) rfl ?_
  refine lv_aload_n hx hb dL_law_430 rfl (lv_at hl 2 rfl) ?_
  refine lv_aload_n hx hb dL_law_431 rfl (lv_at hl 0 rfl) ?_
  refine lv_iload_n hx hb dL_law_432 rfl (lv_at hl 3 rfl) ?_
  refine lv_iconst (v := 1) hx hb dL_law_433 (by decide) ?_
  refine lv_iadd hx hb dL_law_434 ?_
  refine va_sld hx hb hX hbl hbA hS h1 dL_law_435 ?_
  refine w_top ex1 ?_
  refine lv_aload_n hx hb dL_law_436 rfl (lv_at hl 0 rfl) ?_
  refine lv_iload_n hx hb dL_law_437 rfl (lv_at hl 3 rfl) ?_
  refine lv_iconst (v := 2) hx hb dL_law_438 (by decide) ?_
  refine lv_iadd hx hb dL_law_439 ?_
  refine va_sld hx hb hX hbl hbA hS h2 dL_law_440 ?_
  refine w_top ex2 ?_
  refine lc_C (C := RX2) (rest := [.int r]) X hK hN hA hPm hDm hPc hap.symm hS (kX2_told l G cy cyO am zm x1 x2 r zn e2) (cwV 2 hts gL_law_X2_told rfl rfl rfl (by decide +kernel) ⟨Nat.le_of_ble_eq_true rfl, Nat.le_of_ble_eq_true rfl⟩) (va_recv hK hPm (ci := 2) (q0 := 0) rfl rfl) rfl hl.1 rfl (Nat.le_of_ble_eq_true rfl) dL_law_441 ⟨show 18 + k ≤ 600000 by omega, show 5580 + 9 * k ≤ 7302250 by omega⟩ (fun H locs hPm hDm hPc hap hS => ?_)
  refine W.eq (g2 := F0 m 444 ls [.int r, .int r]) rfl ?_
  refine lv_icmp_eq (tgt := 472) hx hb dL_law_444 (by decide) (fun _ => ?_) (fun h9 => absurd rfl h9)
  refine W.widen (k := 18 + (k + 1)) (n := 5580 + 9 * (k + 1)) (by omega) (by omega) ?_
  exact next n zd zn H locs ls (by omega) ⟨hR2, hPc, hDc, hPm, hDm, hap.symm, hS, hl⟩
set_option maxRecDepth 100000 in
set_option maxHeartbeats 4000000 in
theorem lw_count {p : Program} {l : Launch} {e : Env} {s : State} {m : MethodId} {below : List Frame} {meth : Method} {c : Code} {G : va_G} {cy cyO : ClassId} {ac am : Nat → Nat} {b L : Nat} {xs : Nat → Int32} (X : CallFix p m c code 4 s #[Value.ref b] wsL_law RL) (hK : va_K G vwCl (tys_ cy cyO) s) (hN : nw s) (hX : va_X b L xs s s.heap) (hbl : b < s.heap.size) (hL : L ≤ 2560) {k : Nat} (hk : 5 * k + 5 ≤ L) (next : ∀ (n : Nat) (zc : SC) (zm : SM) (H : Heap) (locs : List Loc) (ls : Array Slot), n ≤ k + 1 → lw_I G cy cyO ac am (fun q : Nat => s.heap.size ≤ q) s b (5 * k) n zc zm H locs ls → W p l e room_1 s m #[Value.ref b] below meth c H locs (18 + (k + 1)) (5580 + 9 * (k + 1)) (lw_Z below #[Value.ref b] s) (F0 m 472 ls []))
    {n : Nat} {zc : SC} {zm : SM} {H : Heap} {locs : List Loc} {ls : Array Slot} (hn : n ≤ k) (hI : lw_I G cy cyO ac am (fun q : Nat => s.heap.size ≤ q) s b (5 * k) n zc zm H locs ls) : W p l e room_1 s m #[Value.ref b] below meth c H locs (18 + k) (5580 + 9 * k) (lw_Z below #[Value.ref b] s) (F0 m 449 ls []) := by
  obtain ⟨hx, hb, hml, hown, hts⟩ := id X
  obtain ⟨hR, hPc, hDc, hPm, hDm, hap, hS, hl⟩ := hI
  have hA : ∀ q : Nat, s.heap.size ≤ q → (fun q : Nat => s.heap.size ≤ q) q := fun _ h => h
  have hbA : ¬ (fun q : Nat => s.heap.size ≤ q) b := Nat.not_le.mpr hbl
  have h1 : vp_in (nI (5 * k) + 1) L := by rw [ix_add (5 * k) 1 1 rfl]; exact vp_in_nI (by omega) (by omega)
  obtain ⟨x1, ex1⟩ : ∃ y : Int32, y = xs (nI (5 * k) + 1).toNatClampNeg := ⟨_, rfl⟩
  obtain ⟨r, zd, zn, e1, e2, hR2⟩ := t_count hR x1
  refine lv_aload_n hx hb dL_law_449 rfl (lv_at hl 1 rfl) ?_
  refine lv_aload_n hx hb dL_law_450 rfl (lv_at hl 0 rfl) ?_
  refine lv_iload_n hx hb dL_law_451 rfl (lv_at hl 3 rfl) ?_
  refine lv_iconst (v := 1) hx hb dL_law_452 (by decide) ?_
  refine lv_iadd hx hb dL_law_453 ?_
  refine va_sld hx hb hX hbl hbA hS h1 dL_law_454 ?_
  refine w_top ex1 ?_
  refine lc_C (C := RX1) (rest := []) X hK hN hA hPc hDc hPm hap hS (kX1_count l G cy cyO ac zc x1 r zd e1) (cwV 1 hts gL_law_X1_count rfl rfl rfl (by decide +kernel) ⟨Nat.le_of_ble_eq_true rfl, Nat.le_of_ble_eq_true rfl⟩) (va_recv hK hPc (ci := 1) (q0 := 0) rfl rfl) rfl hl.1 rfl (Nat.le_of_ble_eq_true rfl) dL_law_455 ⟨show 18 + k ≤ 600000 by omega, show 5580 + 9 * k ≤ 7302250 by omega⟩ (fun H locs hPc hDc hPm hap hS => ?_)
  refine W.eq (g2 := F0 m 458 ls [.int r]) rfl ?_
  refine lv_aload_n hx hb dL_law_458 rfl (lv_at hl 2 rfl) ?_
  refine lv_aload_n hx hb dL_law_459 rfl (lv_at hl 0 rfl) ?_
  refine lv_iload_n hx hb dL_law_460 rfl (lv_at hl 3 rfl) ?_
  refine lv_iconst (v := 1) hx hb dL_law_461 (by decide) ?_
  refine lv_iadd hx hb dL_law_462 ?_
  refine va_sld hx hb hX hbl hbA hS h1 dL_law_463 ?_
  refine w_top ex1 ?_
  refine lc_C (C := RX2) (rest := [.int r]) X hK hN hA hPm hDm hPc hap.symm hS (kX2_count l G cy cyO am zm x1 r zn e2) (cwV 1 hts gL_law_X2_count rfl rfl rfl (by decide +kernel) ⟨Nat.le_of_ble_eq_true rfl, Nat.le_of_ble_eq_true rfl⟩) (va_recv hK hPm (ci := 2) (q0 := 0) rfl rfl) rfl hl.1 rfl (Nat.le_of_ble_eq_true rfl) dL_law_464 ⟨show 18 + k ≤ 600000 by omega, show 5580 + 9 * k ≤ 7302250 by omega⟩ (fun H locs hPm hDm hPc hap hS => ?_)
  refine W.eq (g2 := F0 m 467 ls [.int r, .int r]) rfl ?_
  refine lv_icmp_eq (tgt := 472) hx hb dL_law_467 (by decide) (fun _ => ?_) (fun h9 => absurd rfl h9)
  refine W.widen (k := 18 + (k + 1)) (n := 5580 + 9 * (k + 1)) (by omega) (by omega) ?_
  exact next n zd zn H locs ls (by omega) ⟨hR2, hPc, hDc, hPm, hDm, hap.symm, hS, hl⟩
