/-! ===== the words that the decompiled functions are made of ===== -/
def let_ {α β : Type} (v : β) (f : β → α) : α := f v
def opt_ {α : Type} (o : Option Nat) (x : Option α) (f : Nat → Option α) : Option α := match o with
  | none => x
  | some y => f y
def bd_ {α β γ : Type} (x : Option (α × β)) (f : α → β → Option γ) : Option γ := match x with
  | none => none
  | some q => f q.1 q.2
theorem o_t {α : Type} {c : Prop} {h : Decidable c} {t e : Option α} {z : α} (hc : c) (hF : (@ite (Option α) c h t e) = some z) : t = some z := by rw [if_pos hc] at hF; exact hF
theorem o_f {α : Type} {c : Prop} {h : Decidable c} {t e : Option α} {z : α} (hc : ¬ c) (hF : (@ite (Option α) c h t e) = some z) : e = some z := by rw [if_neg hc] at hF; exact hF
theorem o_n {α : Type} {c : Prop} {h : Decidable c} {e : Option α} {z : α} (hF : (@ite (Option α) c h none e) = some z) : ¬ c ∧ e = some z := by
  by_cases hc : c
  · rw [if_pos hc] at hF; cases hF
  · rw [if_neg hc] at hF; exact ⟨hc, hF⟩
theorem o_i {α : Type} {c : Prop} {h : Decidable c} {t : Option α} {z : α} (hF : (@ite (Option α) c h t none) = some z) : c ∧ t = some z := by
  by_cases hc : c
  · rw [if_pos hc] at hF; exact ⟨hc, hF⟩
  · rw [if_neg hc] at hF; cases hF
theorem o_l {α β : Type} {v : β} {f : β → Option α} {z : α} (hF : let_ v f = some z) : ∃ w, w = v ∧ f w = some z := ⟨v, rfl, hF⟩
theorem o_b {α β γ : Type} {x : Option (α × β)} {f : α → β → Option γ} {z : γ} (hF : bd_ x f = some z) : ∃ r u, x = some (r, u) ∧ f r u = some z := by
  cases x with
  | none => cases hF
  | some q => exact ⟨q.1, q.2, rfl, hF⟩
theorem o_mn {α : Type} {o : Option Nat} {x : Option α} {f : Nat → Option α} {z : α} (ho : o = none) (hF : opt_ o x f = some z) : x = some z := by subst ho; exact hF
theorem o_ms {α : Type} {o : Option Nat} {x : Option α} {f : Nat → Option α} {z : α} {y : Nat} (ho : o = some y) (hF : opt_ o x f = some z) : f y = some z := by subst ho; exact hF
theorem o_s {α β : Type} {v r : α} {x u : β} (h : some (v, x) = some (r, u)) : r = v ∧ u = x := by cases h; exact ⟨rfl, rfl⟩
/-! ===== contracts over a whole world ===== -/
def nestF : List (Nat × String) := [(39, "number"), (86, "kind"), (89, "limit"), (92, "mark"), (95, "axles"), (98, "leg"), (101, "claims"), (104, "held"), (107, "most")]
def nestM : List (Nat × MethodName) := [(36, yX0_init), (139, yX0_hasRoomFor)]
def nw (U : State) : Prop := (∀ q ∈ nestF, va_Nw (.fieldLinkNest RX1 q.1 RX0 q.2 "I" RX1) U) ∧ ∀ q ∈ nestM, va_Nw (.methodLinkNest RX1 q.1 q.2 RX1) U
theorem nw.warm {s U : State} (h : nw s) (hW : s.WarmedH U.vm) : nw U := ⟨fun q hq => va_Nw.warmF hW (h.1 q hq), fun q hq => va_Nw.warmM hW (h.2 q hq)⟩
abbrev tys_ (cy cyO : ClassId) : List (ClassId × FieldType) := [(cy, .int), (cyO, .object RX0)]
def wPre (G : va_G) (ty : List (ClassId × FieldType)) (w : va_W) (sz : Nat) (U : State) : Prop := U.heap.size = sz ∧ va_P G vwCl w U.heap ∧ va_K G vwCl ty U ∧ va_D (fun _ => True) w ∧ nw U
def wPost (G : va_G) (A : Nat → Prop) (w : va_W) (t : State) : Prop := va_P G vwCl w t.heap ∧ va_D A w
def qg (v : Option Value) (B : State → Prop) (A : Nat → Prop) : Array Value → State → Outcome → State → Prop := fun _ st oc t => (oc = .returned v ∧ B t) ∧ va_F A st t
theorem wPre_blind {av : List Value} {G : va_G} {ty : List (ClassId × FieldType)} {w : va_W} {sz : Nat} : FrameBlind (va_Pc av (wPre G ty w sz)) := fun a U g mk q => by
  obtain ⟨q0, q1, qP, qK, qD, qN⟩ := q
  exact ⟨q0, q1, qP, va_K.moved (u := U) (U := U.calling g mk a) (Vm.Alike.refl U.vm) qK, qD, ⟨fun q hq => va_Nw.same rfl rfl (qN.1 q hq), fun q hq => va_Nw.same rfl rfl (qN.2 q hq)⟩⟩
theorem wPre_at {s U : State} {H : Heap} {av : List Value} {G : va_G} {ty : List (ClassId × FieldType)} {w : va_W} {A : Nat → Prop} (hK : va_K G vwCl ty s) (hN : nw s) (hP : va_P G vwCl w H) (hD : va_D A w) (hU : U.heap = H) (hW : s.WarmedH U.vm) : va_Pc av (wPre G ty w H.size) av.toArray U :=
  ⟨rfl, by rw [hU], by rw [hU]; exact hP, va_K.moved hW.alike hK, hD.weaken (fun _ _ _ _ => trivial), hN.warm hW⟩
theorem wFree {s : State} {H : Heap} {w : va_W} {A : Nat → Prop} {locs : List Loc} (hD : va_D A w) (hS : va_S A s.heap H locs) (hA : ∀ q, s.heap.size ≤ q → A q) : ∀ q, va_A w H.size q → A q := fun q h => by
  rcases h with ⟨k, e, hk⟩ | h
  · exact hD.2 k (q, e) hk
  · exact hA q (Nat.le_trans hS.1 h)
def CtB (l : Launch) (G : va_G) (ty : List (ClassId × FieldType)) (y : MethodName) (ws : List Cond) (rm : Room) (av : List Value) (w : va_W) (v : Option Value) (B : (Nat → Prop) → State → Prop) (mc ms : Nat) : Prop := ∀ sz : Nat, Met l y ws rm (va_Pc av (wPre G ty w sz)) (qg v (B (va_A w sz)) (va_A w sz)) mc ms (va_A w sz)
abbrev Ct (l : Launch) (G : va_G) (ty : List (ClassId × FieldType)) (y : MethodName) (ws : List Cond) (rm : Room) (av : List Value) (w : va_W) (v : Option Value) (w' : va_W) : Prop := CtB l G ty y ws rm av w v (fun A t => wPost G A w' t) 0 0
theorem ct_of {l : Launch} {G : va_G} {ty : List (ClassId × FieldType)} {y : MethodName} {ws ws' : List Cond} {rm : Room} {av : List Value} {w : va_W} {v : Option Value} {B : (Nat → Prop) → State → Prop} {mc ms : Nat} {cc : ByteArray} {maxL : Nat} {ret : Option FieldType} {own : String}
    (hy : plainName y.cls = true) (hw : ws = Cond.code y cc maxL ret :: ws') (hlen : (lg_sl av).length ≤ maxL) (hown : y.cls = own)
    (body : ∀ (p : Program) (e : Env) (s : State) (m : MethodId) (below : List Frame) (meth : Method) (c : Code) (A : Nat → Prop) (ls : Array Slot), CallFix p m c cc maxL s av.toArray ws own → meth.sig.returnType = ret → meth.locks = false → (∀ nm : String, y.name = nm → meth.name = nm) → va_K G vwCl ty s → nw s → (∀ q, s.heap.size ≤ q → A q) → va_P G vwCl w s.heap → va_D A w → lv_has ls maxL (lv_args 0 av) →
      W p l e rm s m av.toArray below meth c s.heap [] 0 0 (MQ below (qg v (B A) A) av.toArray s mc ms A) (F0 m 0 ls [])) : CtB l G ty y ws rm av w v B mc ms := by
  intro sz
  refine Met.ofW (cc := cc) (maxL := maxL) (ret := ret) hy hw ?_
  intro p e s m args below meth c s₁ Bd hml hv
  obtain ⟨rfl, hsz, hP, hK, hD0, hN⟩ := hv
  subst hsz
  have hD := hD0.self (sz := s.heap.size)
  rw [lg_entry_eq]
  subst hown
  exact body p e s m below meth c (va_A w s.heap.size) _ ⟨Bd.exec, Bd.bytes, hml, findClass_of_methodNamed Bd.named, atoms_spec (ws := ws) Bd.pre⟩ Bd.returns Bd.notSynchronized (fun nm h => h ▸ (name_of_methodNamed Bd.named Bd.method).1) hK hN (fun q h => Or.inr h) hP hD (lv_entry av hlen)
section CLS
variable {p : Program} {l : Launch} {e : Env} {R : Room} {s : State} {m : MethodId} {args : Array Value} {below : List Frame} {meth : Method} {c : Code} {H : Heap} {locs : List Loc} {cells slots : Nat} {Q : State → Prop}
variable {cc bytes : ByteArray} {nL maxL index n mc ms pc : Nat} {Ts ws : List Cond} {own C host : String} {y : MethodName} {ret : Option FieldType} {rm : Room} {G : va_G} {ty : List (ClassId × FieldType)} {w w' : va_W} {v : Option Value} {A : Nat → Prop} {ls : Array Slot} {st0 rest As : List Value} {b : Nat} {B : (Nat → Prop) → State → Prop}
theorem w_call {Bq : State → Prop} {A1 : Nat → Prop} {a : Array Value} {free : Addr → Prop} (hr : va_Run p l e R s m args below meth c H locs cells slots mc ms (F0 m pc ls st0) rest (qg v Bq A1 a) free) (hS : va_S A s.heap H locs) (hA : ∀ q, q < H.size → A1 q → A q) (hf : ∀ q, free q → A q)
    (kk : ∀ (t : State) (H1 : Heap) (locs1 : List Loc), t.heap = H1 → s.vm.Alike t.vm → Bq t → H.size ≤ H1.size → (∀ q : Nat, q < H.size → ¬ A1 q → H1[q]? = H[q]?) → va_S A s.heap H1 locs1 → W p l e R s m args below meth c H1 locs1 (cells + mc) (slots + ms) Q (F0 m (pc + 3) ls (v.toList ++ rest))) : W p l e R s m args below meth c H locs cells slots Q (F0 m pc ls st0) := by
  intro T hT X
  obtain ⟨v1, st₀, t, T', L, h0, X', hL, e1, e2, ⟨⟨hv, hb⟩, hz, hk⟩, st⟩ := hr T hT X
  cases hv
  rw [h0] at hz hk
  obtain ⟨t2, a1, b1⟩ := kk t T'.heap (locs ++ L) e1.symm (by rw [← e2]; exact X'.warmed.alike) hb (by rw [e1]; exact hz) (fun q h1 h2 => by rw [e1]; exact hk q h1 h2)
    ⟨Nat.le_trans hS.1 (by rw [e1]; exact hz), fun q h1 h2 => by rw [e1, hk q (Nat.lt_of_lt_of_le h1 hS.1) (fun z => h2 (hA q (Nat.lt_of_lt_of_le h1 hS.1) z))]; exact hS.2.1 q h1 h2, fun q hq => by
      rcases List.mem_append.mp hq with h | h
      · exact hS.2.2 q h
      · exact hf _ (hL q h)⟩ T' rfl X'
  exact ⟨t2, st t2 a1, b1⟩
/-- a private or public method of an object of the world, by its contract -/
theorem cl_V (X : CallFix p m c cc nL s args Ts own) (hK : va_K G vwCl ty s) (hN : nw s) (hA : ∀ q, s.heap.size ≤ q → A q) (hP : va_P G vwCl w H) (hD : va_D A w) (hS : va_S A s.heap H locs) (hC : Ct l G ty y ws rm (.ref b :: As) w v w') (cw : CallW R s args own C index y bytes maxL ret ws rm 0 0 n)
    (hrecv : ∃ cellB : Cell, H[b]? = some cellB ∧ cellB.vm.isStatics = false ∧ s.vm.findClass C = some cellB.cls) (hn : As.length = n) (hsize : ls.size = nL) (hst : st0 = As.reverse ++ .ref b :: rest) (hroom : (rest.map fun v => v.category).sum ≤ 8) (hdg : decode cc pc = .ok (.invokevirtual index, 3)) (hf : cells ≤ R.cells ∧ slots ≤ R.slots)
    (kk : ∀ (H1 : Heap) (locs1 : List Loc), va_P G vwCl w' H1 → va_D A w' → va_S A s.heap H1 locs1 → W p l e R s m args below meth c H1 locs1 cells slots Q (F0 m (pc + 3) ls (v.toList ++ rest))) : W p l e R s m args below meth c H locs cells slots Q (F0 m pc ls st0) := by
  have hFc := wFree hD hS hA
  refine w_call (va_runV (g := F0 m pc ls st0) (As := As) (rest := rest) X (hC H.size) cw ⟨wPre_blind, hrecv, fun U hU hW => wPre_at hK hN hP hD hU hW⟩ rfl hn hsize hst (lv_room hroom) hdg hf) hS (fun q _ h => hFc q h) hFc (fun t H1 locs1 ht _ hB _ _ hS1 => ?_)
  obtain ⟨hP1, hD1⟩ := hB
  rw [ht] at hP1
  exact kk H1 locs1 hP1 (hD1.weaken (fun _ _ _ h => hFc _ h)) hS1
/-- a private method of a nest mate -/
theorem cl_N (X : CallFix p m c cc nL s args Ts own) (hK : va_K G vwCl ty s) (hN : nw s) (hA : ∀ q, s.heap.size ≤ q → A q) (hP : va_P G vwCl w H) (hD : va_D A w) (hS : va_S A s.heap H locs) (hC : Ct l G ty y ws rm (.ref b :: As) w v w') (cw : va_CN R s args own index y host bytes maxL ret ws rm 0 0 n ∧ (Cond.instanceMethod y).before args s = true ∧ (Cond.selects C y y).before args s = true)
    (hrecv : ∃ cellB : Cell, H[b]? = some cellB ∧ cellB.vm.isStatics = false ∧ s.vm.findClass C = some cellB.cls) (hn : As.length = n) (hsize : ls.size = nL) (hst : st0 = As.reverse ++ .ref b :: rest) (hroom : (rest.map fun v => v.category).sum ≤ 8) (hdg : decode cc pc = .ok (.invokevirtual index, 3)) (hf : cells ≤ R.cells ∧ slots ≤ R.slots)
    (kk : ∀ (H1 : Heap) (locs1 : List Loc), va_P G vwCl w' H1 → va_D A w' → va_S A s.heap H1 locs1 → W p l e R s m args below meth c H1 locs1 cells slots Q (F0 m (pc + 3) ls (v.toList ++ rest))) : W p l e R s m args below meth c H locs cells slots Q (F0 m pc ls st0) := by
  have hFc := wFree hD hS hA
  refine w_call (va_runVN (g := F0 m pc ls st0) (As := As) (rest := rest) X (hC H.size) cw ⟨wPre_blind, hrecv, fun U hU hW => wPre_at hK hN hP hD hU hW⟩ rfl hn hsize hst (lv_room hroom) hdg hf) hS (fun q _ h => hFc q h) hFc (fun t H1 locs1 ht _ hB _ _ hS1 => ?_)
  obtain ⟨hP1, hD1⟩ := hB
  rw [ht] at hP1
  exact kk H1 locs1 hP1 (hD1.weaken (fun _ _ _ h => hFc _ h)) hS1
/-- a static method -/
theorem cl_S (X : CallFix p m c cc nL s args Ts own) (hK : va_K G vwCl ty s) (hN : nw s) (hA : ∀ q, s.heap.size ≤ q → A q) (hP : va_P G vwCl w H) (hD : va_D A w) (hS : va_S A s.heap H locs) (hC : Ct l G ty y ws rm As w v w') (cw : CallB R s args own index y bytes maxL ret ws rm 0 0 n ∧ (Cond.static y).before args s = true)
    (hn : As.length = n) (hsize : ls.size = nL) (hst : st0 = As.reverse ++ rest) (hroom : (rest.map fun v => v.category).sum ≤ 8) (hdg : decode cc pc = .ok (.invokestatic index, 3)) (hf : cells ≤ R.cells ∧ slots ≤ R.slots)
    (kk : ∀ (H1 : Heap) (locs1 : List Loc), va_P G vwCl w' H1 → va_D A w' → va_S A s.heap H1 locs1 → W p l e R s m args below meth c H1 locs1 cells slots Q (F0 m (pc + 3) ls (v.toList ++ rest))) : W p l e R s m args below meth c H locs cells slots Q (F0 m pc ls st0) := by
  have hFc := wFree hD hS hA
  refine w_call (va_runS (g := F0 m pc ls st0) (As := As) (rest := rest) X (hC H.size) cw ⟨wPre_blind, fun U hU hW => wPre_at hK hN hP hD hU hW⟩ rfl hn hsize hst (lv_room hroom) hdg hf) hS (fun q _ h => hFc q h) hFc (fun t H1 locs1 ht _ hB _ _ hS1 => ?_)
  obtain ⟨hP1, hD1⟩ := hB
  rw [ht] at hP1
  exact kk H1 locs1 hP1 (hD1.weaken (fun _ _ _ h => hFc _ h)) hS1
theorem rt_i {x : Int32} (X : CallFix p m c cc nL s args Ts own) (hr : meth.sig.returnType = some .int) (hlocks : meth.locks = false) (hP : va_P G vwCl w H) (hD : va_D A w) (hS : va_S A s.heap H locs) (hdg : decode cc pc = .ok (.ireturn, 1)) : W p l e R s m args below meth c H locs cells slots (MQ below (qg (some (.int x)) (fun t => wPost G A w t) A) args s cells slots A) (F0 m pc ls [.int x]) :=
  W.iret X.1 X.2.1 hr (fun t ht _ => ⟨⟨rfl, by rw [ht]; exact hP, hD⟩, hS.F ht⟩) hS.2.2 hdg hlocks
theorem rt_z {x : Int32} (X : CallFix p m c cc nL s args Ts own) (hr : meth.sig.returnType = some .boolean) (hlocks : meth.locks = false) (hP : va_P G vwCl w H) (hD : va_D A w) (hS : va_S A s.heap H locs) (hx : narrow .boolean (.int x) = .int x) (hdg : decode cc pc = .ok (.ireturn, 1)) : W p l e R s m args below meth c H locs cells slots (MQ below (qg (some (.int x)) (fun t => wPost G A w t) A) args s cells slots A) (F0 m pc ls [.int x]) :=
  W.zret X.1 X.2.1 hr hx (fun t ht _ => ⟨⟨rfl, by rw [ht]; exact hP, hD⟩, hS.F ht⟩) hS.2.2 hdg hlocks
theorem rt_v (X : CallFix p m c cc nL s args Ts own) (hr : meth.sig.returnType = none) (hlocks : meth.locks = false) (hP : va_P G vwCl w H) (hD : va_D A w) (hS : va_S A s.heap H locs) (hdg : decode cc pc = .ok (.return_, 1)) : W p l e R s m args below meth c H locs cells slots (MQ below (qg none (fun t => wPost G A w t) A) args s cells slots A) (F0 m pc ls []) :=
  W.vret X.1 X.2.1 hr (fun t ht _ => ⟨⟨rfl, by rw [ht]; exact hP, hD⟩, hS.F ht⟩) hS.2.2 hdg hlocks
theorem rt_a {o : Option Nat} {nm : String} (X : CallFix p m c cc nL s args Ts own) (hr : meth.sig.returnType = some (.object nm)) (hlocks : meth.locks = false) (hP : va_P G vwCl w H) (hD : va_D A w) (hS : va_S A s.heap H locs) (hdg : decode cc pc = .ok (.areturn, 1)) : W p l e R s m args below meth c H locs cells slots (MQ below (qg (some (va_rf o)) (fun t => wPost G A w t) A) args s cells slots A) (F0 m pc ls [va_rf o]) :=
  W.aret X.1 X.2.1 hr (Or.inl ⟨nm, rfl⟩) (by cases o with
    | none => exact Or.inl rfl
    | some q => exact Or.inr ⟨q, rfl⟩) (fun t ht _ => ⟨⟨rfl, by rw [ht]; exact hP, hD⟩, hS.F ht⟩) hS.2.2 hdg hlocks
theorem w_top {x y : Int32} (h : y = x) (k : W p l e R s m args below meth c H locs cells slots Q (F0 m pc ls (.int y :: rest))) : W p l e R s m args below meth c H locs cells slots Q (F0 m pc ls (.int x :: rest)) := h ▸ k
theorem w_none {o : Option Nat} (h : o = none) (k : W p l e R s m args below meth c H locs cells slots Q (F0 m pc ls (.null :: rest))) : W p l e R s m args below meth c H locs cells slots Q (F0 m pc ls (va_rf o :: rest)) := by rw [h]; exact k
theorem w_some {o : Option Nat} {x : Nat} (h : o = some x) (k : W p l e R s m args below meth c H locs cells slots Q (F0 m pc ls (.ref x :: rest))) : W p l e R s m args below meth c H locs cells slots Q (F0 m pc ls (va_rf o :: rest)) := by rw [h]; exact k
end CLS
/-! ===== the two states ===== -/
/-- what both have: the routes' places, their lengths, the trace; traced, made, runs, nulls, fulls, passed -/
abbrev CC : Type := (Nat → Int32) × (Nat → Int32) × (Nat → Int32) × Int32 × Int32 × Int32 × Int32 × Int32 × Int32
/-- the class: section's fields by address and field; the addresses as they were made; what stands at a place; the rest -/
abbrev SC : Type := (Nat → Nat → Int32) × List Nat × (Nat → Option Nat) × CC
/-- the reference: field by number; the place's section; the rest -/
abbrev SM : Type := (Nat → Nat → Int32) × (Nat → Int32) × CC
def secE (f : Nat → Nat → Int32) (a : Nat) : va_E := .inr (0, [.int (f a 0), .int (f a 1), .int (f a 2), .int (f a 3), .int (f a 4), .int (f a 5), .int (f a 6), .int (f a 7), .int (f a 8)])
def cX (a : Nat → Nat) (cy cyO : ClassId) (σ : SC) : va_W := [(a 0, .inr (1, [.ref (a 1), .ref (a 2), .ref (a 3), .ref (a 4), .int σ.2.2.2.2.2.2.1, .int σ.2.2.2.2.2.2.2.1, .int σ.2.2.2.2.2.2.2.2.1, .int σ.2.2.2.2.2.2.2.2.2.1, .int σ.2.2.2.2.2.2.2.2.2.2.1, .int σ.2.2.2.2.2.2.2.2.2.2.2])), (a 1, .inl (cyO, 12, .inr (.inr (.inr (.inr σ.2.2.1))))), (a 2, .inl (cy, 48, .inl σ.2.2.2.1)), (a 3, .inl (cy, 6, .inl σ.2.2.2.2.1)), (a 4, .inl (cy, 150, .inl σ.2.2.2.2.2.1))]
def cW (a : Nat → Nat) (cy cyO : ClassId) (σ : SC) : va_W := cX a cy cyO σ ++ va_pl σ.2.1 (secE σ.1)
def mW (a : Nat → Nat) (cy : ClassId) (σ : SM) : va_W := [(a 0, .inr (2, [.int σ.2.2.2.2.2.2.1, .ref (a 1), .ref (a 2), .ref (a 3), .ref (a 4), .ref (a 5), .ref (a 6), .ref (a 7), .ref (a 8), .ref (a 9), .ref (a 10), .ref (a 11), .ref (a 12), .int σ.2.2.2.2.2.1, .int σ.2.2.2.2.2.2.2.2.2.2, .int σ.2.2.2.2.2.2.2.1, .int σ.2.2.2.2.2.2.2.2.1, .int σ.2.2.2.2.2.2.2.2.2.1])),
  (a 1, .inl (cy, 640, .inl (σ.1 1))), (a 2, .inl (cy, 640, .inl (σ.1 2))), (a 3, .inl (cy, 640, .inl (σ.1 3))), (a 4, .inl (cy, 640, .inl (σ.1 4))), (a 5, .inl (cy, 640, .inl (σ.1 5))), (a 6, .inl (cy, 640, .inl (σ.1 6))), (a 7, .inl (cy, 640, .inl (σ.1 7))), (a 8, .inl (cy, 640, .inl (σ.1 8))), (a 9, .inl (cy, 12, .inl σ.2.1)), (a 10, .inl (cy, 48, .inl σ.2.2.1)), (a 11, .inl (cy, 6, .inl σ.2.2.2.1)), (a 12, .inl (cy, 150, .inl σ.2.2.2.2.1))]
/-- field k of the section at x becomes v -/
def setS (f : Nat → Nat → Int32) (x k : Nat) (v : Int32) : Nat → Nat → Int32 := fun b j => if b = x ∧ j = k then v else f b j
/-- row k becomes g -/
def setA (f : Nat → Nat → Int32) (k : Nat) (g : Nat → Int32) : Nat → Nat → Int32 := fun j => if j = k then g else f j
theorem cW_up {a : Nat → Nat} {cy cyO : ClassId} {σ : SC} {A : Nat → Prop} {x q k : Nat} {v : Int32} (hD : va_D A (cW a cy cyO σ)) (hx : x ∈ σ.2.1) (hk : k < 9) (hq : (cW a cy cyO σ)[q]? = some (x, secE σ.1 x)) :
    (cW a cy cyO σ).set q (x, .inr (0, ([.int (σ.1 x 0), .int (σ.1 x 1), .int (σ.1 x 2), .int (σ.1 x 3), .int (σ.1 x 4), .int (σ.1 x 5), .int (σ.1 x 6), .int (σ.1 x 7), .int (σ.1 x 8)] : List Value).set k (.int v))) = cW a cy cyO (setS σ.1 x k v, σ.2) := by
  unfold cW at hD hq ⊢
  rw [va_pl_set hD hx hq]
  refine congrArg (fun l => cX a cy cyO σ ++ l) (va_pl_congr (fun b => ?_))
  by_cases hb : b = x
  · subst hb
    rw [va_up_self]
    have h9 : k = 0 ∨ k = 1 ∨ k = 2 ∨ k = 3 ∨ k = 4 ∨ k = 5 ∨ k = 6 ∨ k = 7 ∨ k = 8 := by omega
    rcases h9 with h | h | h | h | h | h | h | h | h <;> subst h <;> simp [secE, setS]
  · rw [va_up_ne _ _ hb]
    simp [secE, setS, hb]
theorem cW_at {a : Nat → Nat} {cy cyO : ClassId} {σ : SC} {x : Nat} (hx : x ∈ σ.2.1) : ∃ q : Nat, (cW a cy cyO σ)[q]? = some (x, secE σ.1 x) := va_pl_get hx
section SECS
variable {p : Program} {l : Launch} {e : Env} {R : Room} {s : State} {m : MethodId} {args : Array Value} {below : List Frame} {meth : Method} {c : Code} {H : Heap} {locs : List Loc} {cells slots : Nat} {Q : State → Prop}
variable {cc : ByteArray} {nL pc index : Nat} {Ts : List Cond} {G : va_G} {cy cyO : ClassId} {A : Nat → Prop} {ls : Array Slot} {rest : List Value} {a : Nat → Nat} {σ : SC} {x : Nat}
theorem cs_recv (hK : va_K G vwCl (tys_ cy cyO) s) (hP : va_P G vwCl (cW a cy cyO σ) H) (hx : x ∈ σ.2.1) : ∃ cell : Cell, H[x]? = some cell ∧ cell.vm.isStatics = false ∧ s.vm.findClass RX0 = some cell.cls := by
  obtain ⟨q, hq⟩ := cW_at (a := a) (cy := cy) (cyO := cyO) hx
  exact va_recv (q := (RX0, TX0, 9)) hK hP (ci := 0) rfl hq
/-- a section's field is read, out of SignalBox -/
theorem cs_get (X : CallFix p m c cc nL s args Ts RX1) (hin : ∀ w ∈ wsX00, w ∈ Ts) (hK : va_K G vwCl (tys_ cy cyO) s) (hN : nw s) (hP : va_P G vwCl (cW a cy cyO σ) H) (hx : x ∈ σ.2.1) (k : Nat) (hk : k < 9) (hlink : (index, (TX0 k).2.1) ∈ nestF) (hd : (TX0 k).2.2.1 = "I" ∧ (TX0 k).1 = RX0) {v : Value} (hv : ([.int (σ.1 x 0), .int (σ.1 x 1), .int (σ.1 x 2), .int (σ.1 x 3), .int (σ.1 x 4), .int (σ.1 x 5), .int (σ.1 x 6), .int (σ.1 x 7), .int (σ.1 x 8)] : List Value)[k]? = some v) (hdg : decode cc pc = .ok (.getfield index, 3))
    (kk : W p l e R s m args below meth c H locs cells slots Q (F0 m (pc + 3) ls (v :: rest))) : W p l e R s m args below meth c H locs cells slots Q (F0 m pc ls (.ref x :: rest)) := by
  obtain ⟨q, hq⟩ := cW_at (a := a) (cy := cy) (cyO := cyO) hx
  have hl := hN.1 _ hlink
  exact va_getN (host := RX1) (ref := RX0) X.1 X.2.1 X.2.2.2.2 hin X.2.2.2.1 hK hP q hq (ci := 0) (C := RX0) (T := TX0) (N := 9) rfl k hk (by rw [hd.1]; exact va_Nw.use rfl hl) (fun z h => by rw [hd.2] at h; exact h) hv hdg kk
/-- a section's field is written, out of SignalBox -/
theorem cs_put {v : Int32} (X : CallFix p m c cc nL s args Ts RX1) (hin : ∀ w ∈ wsX00, w ∈ Ts) (hK : va_K G vwCl (tys_ cy cyO) s) (hN : nw s) (hP : va_P G vwCl (cW a cy cyO σ) H) (hD : va_D A (cW a cy cyO σ)) (hS : va_S A s.heap H locs) (hx : x ∈ σ.2.1) (k : Nat) (hk : k < 9) (hlink : (index, (TX0 k).2.1) ∈ nestF) (hd : (TX0 k).2.2.1 = "I" ∧ (TX0 k).1 = RX0) (hfin : (TX0 k).2.2.2 = false) (hdg : decode cc pc = .ok (.putfield index, 3))
    (kk : ∀ (H1 : Heap) (locs1 : List Loc), va_P G vwCl (cW a cy cyO (setS σ.1 x k v, σ.2)) H1 → va_D A (cW a cy cyO (setS σ.1 x k v, σ.2)) → va_S A s.heap H1 locs1 → W p l e R s m args below meth c H1 locs1 cells slots Q (F0 m (pc + 3) ls rest)) : W p l e R s m args below meth c H locs cells slots Q (F0 m pc ls (.int v :: .ref x :: rest)) := by
  obtain ⟨q, hq⟩ := cW_at (a := a) (cy := cy) (cyO := cyO) hx
  have hl := hN.1 _ hlink
  refine va_putN (host := RX1) (ref := RX0) X.1 X.2.1 X.2.2.2.2 hin tyX0 tyX0_ok nmX0 X.2.2.2.1 hK hP hD hS q hq (ci := 0) (C := RX0) (T := TX0) (N := 9) rfl k hk (by rw [hd.1]; exact va_Nw.use rfl hl) (fun z h => by rw [hd.2] at h; exact h) hfin (ty := .int) (by rw [hd.1]; decide +kernel) rfl rfl (by exact hk) hdg (fun H1 locs1 hP1 hD1 hS1 => ?_)
  rw [cW_up hD hx hk hq] at hP1 hD1
  exact kk H1 locs1 hP1 hD1 hS1
end SECS
