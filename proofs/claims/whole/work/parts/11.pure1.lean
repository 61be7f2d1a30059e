/-! ===== the class beside the reference: what holds of both states ===== -/
theorem bd_some {α β γ : Type} (r : α) (u : β) (f : α → β → Option γ) : bd_ (some (r, u)) f = f r u := rfl
theorem setS_at (f : Nat → Nat → Int32) (x k : Nat) (v : Int32) (j : Nat) : setS f x k v x j = if j = k then v else f x j := by simp [setS]
theorem setA_at (f : Nat → Nat → Int32) (k : Nat) (g : Nat → Int32) (j : Nat) : setA f k g j = if j = k then g else f j := rfl
theorem setA_id (f : Nat → Nat → Int32) (k i : Nat) : setA f k (upd (f k) i (f k i)) = f := by
  funext j m
  by_cases h : j = k
  · subst h
    by_cases h2 : m = i
    · subst h2; simp [setA, upd]
    · simp [setA, upd, h2]
  · simp [setA, h]
def Ci (C : CC) : Prop := (∀ q, q < 48 → ∃ p, p < 12 ∧ C.1 q = nI p) ∧ (∀ r, r < 6 → ∃ j, j ≤ 8 ∧ C.2.1 r = nI j) ∧ ∃ t, t ≤ 150 ∧ C.2.2.2.1 = nI t
/-- one of n sections -/
def Rs (zc : SC) (zm : SM) : Prop := ∀ k x, zc.2.1[k]? = some x → zc.1 x 0 = nI k ∧ (zc.1 x 1 = 0 ∨ zc.1 x 1 = 1 ∨ zc.1 x 1 = 2) ∧ ∀ f, 1 ≤ f → f ≤ 8 → zc.1 x f = zm.1 f k
def Rp (zc : SC) (zm : SM) : Prop := ∀ p, p < 12 → (zc.2.2.1 p = none ∧ zm.2.1 p = -1) ∨ ∃ k x, zc.2.1[k]? = some x ∧ zc.2.2.1 p = some x ∧ zm.2.1 p = nI k
def Li (L : List Nat) : Prop := ∀ (i j x : Nat), L[i]? = some x → L[j]? = some x → i = j
/-- the reference's rows hold nothing yet beyond what was made -/
def Rz (n : Nat) (zm : SM) : Prop := ∀ f k, 4 ≤ f → f ≤ 8 → n ≤ k → zm.1 f k = 0
def Rl (n : Nat) (zc : SC) (zm : SM) : Prop := zc.2.2.2 = zm.2.2 ∧ (zc.2.1.length = n ∧ (n ≤ 600 ∧ Rz n zm) ∧ Li zc.2.1) ∧ Rs zc zm ∧ Rp zc zm ∧ Ci zc.2.2.2 ∧ zc.2.2.2.2.2.2.2.1 = nI n
theorem Rl.lt {n : Nat} {zc : SC} {zm : SM} (h : Rl n zc zm) {k x : Nat} (hk : zc.2.1[k]? = some x) : k < 640 := by
  have h1 := (List.getElem?_eq_some_iff.mp hk).1
  have h2 := h.2.1.1
  have h3 := h.2.1.2.1.1
  omega
theorem Rl.mem {zc : SC} {k x : Nat} (hk : zc.2.1[k]? = some x) : x ∈ zc.2.1 := List.mem_of_getElem? hk
theorem Rl.set {n : Nat} {zc : SC} {zm : SM} (h : Rl n zc zm) {k x : Nat} (hk : zc.2.1[k]? = some x) (f : Nat) (hf : 2 ≤ f) (v : Int32) : Rl n (setS zc.1 x f v, zc.2) (setA zm.1 f (upd (zm.1 f) k v), zm.2) := by
  obtain ⟨h1, h2, h3, h4, h5, h6⟩ := h
  have hkn := (List.getElem?_eq_some_iff.mp hk).1
  refine ⟨h1, ⟨h2.1, ⟨h2.2.1.1, fun f' k' ha hb hc => ?_⟩, h2.2.2⟩, ?_, h4, h5, h6⟩
  · show setA zm.1 f (upd (zm.1 f) k v) f' k' = 0
    rw [setA_at]
    by_cases hff : f' = f
    · rw [if_pos hff, pk_un (show k' ≠ k by have := h2.1; omega), ← hff]; exact h2.2.1.2 f' k' ha hb hc
    · rw [if_neg hff]; exact h2.2.1.2 f' k' ha hb hc
  intro k' x' hk'
  obtain ⟨a1, a2, a3⟩ := h3 k' x' hk'
  by_cases hx : x' = x
  · subst hx
    have hkk := h2.2.2 k' k x' hk' hk
    subst hkk
    refine ⟨?_, ?_, ?_⟩
    · show setS zc.1 x' f v x' 0 = _
      rw [setS_at, if_neg (by omega)]; exact a1
    · show setS zc.1 x' f v x' 1 = 0 ∨ setS zc.1 x' f v x' 1 = 1 ∨ setS zc.1 x' f v x' 1 = 2
      rw [setS_at, if_neg (by omega)]; exact a2
    · intro g hg1 hg8
      show setS zc.1 x' f v x' g = setA zm.1 f (upd (zm.1 f) k' v) g k'
      rw [setS_at, setA_at]
      by_cases hgf : g = f
      · rw [if_pos hgf, if_pos hgf, pk_us]
      · rw [if_neg hgf, if_neg hgf]; exact a3 g hg1 hg8
  · have hne : k' ≠ k := fun e => hx (by subst e; exact Option.some.inj (hk'.symm.trans hk))
    have e1 : ∀ j, setS zc.1 x f v x' j = zc.1 x' j := fun j => by simp [setS, hx]
    refine ⟨(e1 0).trans a1, ?_, ?_⟩
    · show setS zc.1 x f v x' 1 = 0 ∨ setS zc.1 x f v x' 1 = 1 ∨ setS zc.1 x f v x' 1 = 2
      rw [e1]; exact a2
    · intro g hg1 hg8
      show setS zc.1 x f v x' g = setA zm.1 f (upd (zm.1 f) k v) g k'
      rw [e1, setA_at]
      by_cases hgf : g = f
      · rw [if_pos hgf, pk_un hne, ← hgf]; exact a3 g hg1 hg8
      · rw [if_neg hgf]; exact a3 g hg1 hg8
theorem Rl.com {n : Nat} {zc : SC} {zm : SM} (h : Rl n zc zm) {C : CC} (hC : Ci C) (hm : C.2.2.2.2.1 = nI n) : Rl n (zc.1, zc.2.1, zc.2.2.1, C) (zm.1, zm.2.1, C) := by
  obtain ⟨h1, h2, h3, h4, h5, h6⟩ := h
  exact ⟨rfl, h2, h3, h4, hC, hm⟩
def lvC (v : Int32) (C : CC) : CC := if 150 ≤ C.2.2.2.1 then C else (C.1, C.2.1, upd C.2.2.1 C.2.2.2.1.toNatClampNeg v, C.2.2.2.1 + 1, C.2.2.2.2)
theorem tr_lt {t : Nat} {y : Int32} (ht : t ≤ 150) (e : y = nI t) (hc : ¬ 150 ≤ y) : t < 150 := by
  rcases Nat.lt_or_ge t 150 with h | h
  · exact h
  · exact absurd (by rw [e]; exact nI_le (a := 150) h (by omega)) hc
theorem Ci.lv {C : CC} (h : Ci C) (v : Int32) : Ci (lvC v C) := by
  obtain ⟨h1, h2, t, ht, e⟩ := h
  unfold lvC
  by_cases hc : 150 ≤ C.2.2.2.1
  · rw [if_pos hc]; exact ⟨h1, h2, t, ht, e⟩
  · rw [if_neg hc]
    have hlt := tr_lt ht e hc
    exact ⟨h1, h2, t + 1, hlt, by show C.2.2.2.1 + 1 = _; rw [e]; exact nI_1 t⟩
theorem lvC_1 (v : Int32) (C : CC) : (lvC v C).1 = C.1 ∧ (lvC v C).2.1 = C.2.1 ∧ (lvC v C).2.2.2.2 = C.2.2.2.2 := by
  unfold lvC
  by_cases hc : 150 ≤ C.2.2.2.1
  · rw [if_pos hc]; exact ⟨rfl, rfl, rfl⟩
  · rw [if_neg hc]; exact ⟨rfl, rfl, rfl⟩
theorem m_leave {zm : SM} (h : Ci zm.2.2) (v : Int32) : fX2_leave zm v = some (0, (zm.1, zm.2.1, lvC v zm.2.2)) := by
  obtain ⟨-, -, t, ht, e⟩ := h
  unfold fX2_leave lvC
  by_cases hc : 150 ≤ zm.2.2.2.2.2.1
  · rw [if_pos hc, if_pos hc]
  · have hlt := tr_lt ht e hc
    rw [if_neg hc, if_neg hc, if_neg (by rw [e]; exact nI_in hlt (by omega))]
    rfl
theorem c_leave {zc : SC} (h : Ci zc.2.2.2) {x : Nat} (hx : x ∈ zc.2.1) : fX1_claim_j39 zc x = some (0, (zc.1, zc.2.1, zc.2.2.1, lvC (1000 + zc.1 x 0) zc.2.2.2)) := by
  obtain ⟨-, -, t, ht, e⟩ := h
  unfold fX1_claim_j39 lvC
  by_cases hc : 150 ≤ zc.2.2.2.2.2.2.1
  · rw [if_pos hc, if_pos hc]
  · have hlt := tr_lt ht e hc
    rw [if_neg hc, if_neg hc]
    simp only [let_]
    rw [if_pos hx, if_neg (by rw [e]; exact nI_in hlt (by omega))]
theorem c_let {zc : SC} (h : Ci zc.2.2.2) {x : Nat} (hx : x ∈ zc.2.1) : fX1_let zc x = some (0, (setS zc.1 x 7 (zc.1 x 7 - 1), zc.2.1, zc.2.2.1, lvC (2000 + zc.1 x 0) zc.2.2.2)) := by
  obtain ⟨-, -, t, ht, e⟩ := h
  unfold fX1_let lvC
  simp only [let_]
  rw [if_pos hx, if_pos hx]
  by_cases hc : 150 ≤ zc.2.2.2.2.2.2.1
  · rw [if_pos hc, if_pos hc]
  · have hlt := tr_lt ht e hc
    rw [if_neg hc, if_neg hc, if_pos hx, if_neg (by rw [e]; exact nI_in hlt (by omega)), setS_at]
    rfl
theorem m_let {zm : SM} (h : Ci zm.2.2) {k : Nat} (hk : k < 640) : fX2_let zm (nI k) = some (0, (setA zm.1 7 (upd (zm.1 7) k (zm.1 7 k - 1)), zm.2.1, lvC (2000 + nI k) zm.2.2)) := by
  have hc := nI_in hk (by omega)
  have e := nI_clamp (n := k) (by omega)
  unfold fX2_let
  simp only [let_]
  rw [if_neg hc, e, if_neg (by rw [e] at hc; exact hc), m_leave (zm := (setA zm.1 7 (upd (zm.1 7) k (zm.1 7 k - 1)), zm.2)) h, bd_some]
def Fq (zc zd : SC) : Prop := zd.2.1 = zc.2.1 ∧ zd.2.2.1 = zc.2.2.1 ∧ zd.2.2.2.1 = zc.2.2.2.1 ∧ zd.2.2.2.2.1 = zc.2.2.2.2.1 ∧ zd.2.2.2.2.2.2.2 = zc.2.2.2.2.2.2.2
theorem Fq.rf {zc : SC} : Fq zc zc := ⟨rfl, rfl, rfl, rfl, rfl⟩
theorem Fq.tr {a b c : SC} (h : Fq a b) (g : Fq b c) : Fq a c := ⟨g.1.trans h.1, g.2.1.trans h.2.1, g.2.2.1.trans h.2.2.1, g.2.2.2.1.trans h.2.2.2.1, g.2.2.2.2.trans h.2.2.2.2⟩
theorem Fq.at {zc zd : SC} (h : Fq zc zd) {k x : Nat} (hk : zc.2.1[k]? = some x) : zd.2.1[k]? = some x := by rw [h.1]; exact hk
theorem Rl.leave {n : Nat} {zc : SC} {zm : SM} (h : Rl n zc zm) (v : Int32) : Rl n (zc.1, zc.2.1, zc.2.2.1, lvC v zc.2.2.2) (zm.1, zm.2.1, lvC v zm.2.2) := by
  have e := h.1
  rw [← e]
  exact h.com (h.2.2.2.2.1.lv v) (by rw [(lvC_1 v zc.2.2.2).2.2]; exact h.2.2.2.2.2)
theorem Fq.leave {zc : SC} (f : Nat → Nat → Int32) (v : Int32) : Fq zc (f, zc.2.1, zc.2.2.1, lvC v zc.2.2.2) := ⟨rfl, rfl, (lvC_1 v _).1, (lvC_1 v _).2.1, (lvC_1 v _).2.2⟩
theorem s_let {n : Nat} {zc : SC} {zm : SM} (h : Rl n zc zm) {k x : Nat} (hk : zc.2.1[k]? = some x) : ∃ zd zn, fX1_let zc x = some (0, zd) ∧ fX2_let zm (nI k) = some (0, zn) ∧ Rl n zd zn ∧ Fq zc zd := by
  obtain ⟨q0, -, q⟩ := h.2.2.1 k x hk
  have q7 := q 7 (by omega) (by omega)
  refine ⟨_, _, c_let h.2.2.2.2.1 (Rl.mem hk), m_let (h.1 ▸ h.2.2.2.2.1) (h.lt hk), ?_, Fq.leave _ _⟩
  rw [q0, q7]
  exact (h.set hk 7 (by omega) _).leave (2000 + nI k)
theorem s_claim {n : Nat} {zc : SC} {zm : SM} (h : Rl n zc zm) {k x : Nat} (hk : zc.2.1[k]? = some x) : ∃ zd zn, fX1_claim zc x = some (0, zd) ∧ fX2_claim zm (nI k) = some (0, zn) ∧ Rl n zd zn ∧ Fq zc zd := by
  obtain ⟨q0, -, q⟩ := h.2.2.1 k x hk
  have q7 := q 7 (by omega) (by omega)
  have q6 := q 6 (by omega) (by omega)
  have q8 := q 8 (by omega) (by omega)
  have hx := Rl.mem hk
  have hc := nI_in (h.lt hk) (by omega)
  have e := nI_clamp (n := k) (by have := h.lt hk; omega)
  rw [e] at hc
  have R2 := (h.set hk 7 (by omega) (zm.1 7 k + 1)).set hk 6 (by omega) (zm.1 6 k + 1)
  have hCi : Ci zm.2.2 := h.1 ▸ h.2.2.2.2.1
  unfold fX1_claim fX2_claim
  simp only [let_, if_pos hx, e, if_neg hc, setS_at, setA_at, pk_us, q7, q6, q8, if_true, if_false, Nat.reduceEqDiff]
  by_cases hm : zm.1 7 k + 1 ≤ zm.1 8 k
  · rw [if_pos hm, if_pos hm]
    rw [m_leave (zm := (setA (setA (setA zm.1 7 (upd (zm.1 7) k (zm.1 7 k + 1))) 6 (upd (zm.1 6) k (zm.1 6 k + 1))) 8 (upd (zm.1 8) k (zm.1 8 k)), zm.2)) hCi, c_leave (zc := (setS (setS zc.1 x 7 (zm.1 7 k + 1)) x 6 (zm.1 6 k + 1), zc.2)) h.2.2.2.2.1 hx]
    refine ⟨_, _, rfl, rfl, ?_, Fq.leave _ _⟩
    have e8 : setA (setA (setA zm.1 7 (upd (zm.1 7) k (zm.1 7 k + 1))) 6 (upd (zm.1 6) k (zm.1 6 k + 1))) 8 (upd (zm.1 8) k (zm.1 8 k)) = setA (setA zm.1 7 (upd (zm.1 7) k (zm.1 7 k + 1))) 6 (upd (zm.1 6) k (zm.1 6 k + 1)) := setA_id (setA (setA zm.1 7 (upd (zm.1 7) k (zm.1 7 k + 1))) 6 (upd (zm.1 6) k (zm.1 6 k + 1))) 8 k
    rw [e8]
    have e0 : setS (setS zc.1 x 7 (zm.1 7 k + 1)) x 6 (zm.1 6 k + 1) x 0 = nI k := by simp [setS_at, q0]
    have R3 := R2.leave (1000 + nI k)
    show Rl n (_, _, _, lvC (1000 + setS (setS zc.1 x 7 (zm.1 7 k + 1)) x 6 (zm.1 6 k + 1) x 0) _) _
    rw [e0]
    exact R3
  · rw [if_neg hm, if_neg hm]
    rw [m_leave (zm := (setA (setA (setA zm.1 7 (upd (zm.1 7) k (zm.1 7 k + 1))) 6 (upd (zm.1 6) k (zm.1 6 k + 1))) 8 (upd (zm.1 8) k (zm.1 7 k + 1)), zm.2)) hCi, c_leave (zc := (setS (setS (setS zc.1 x 7 (zm.1 7 k + 1)) x 6 (zm.1 6 k + 1)) x 8 (zm.1 7 k + 1), zc.2)) h.2.2.2.2.1 hx]
    refine ⟨_, _, rfl, rfl, ?_, Fq.leave _ _⟩
    have e0 : setS (setS (setS zc.1 x 7 (zm.1 7 k + 1)) x 6 (zm.1 6 k + 1)) x 8 (zm.1 7 k + 1) x 0 = nI k := by simp [setS_at, q0]
    have R3 := (R2.set hk 8 (by omega) (zm.1 7 k + 1)).leave (1000 + nI k)
    show Rl n (_, _, _, lvC (1000 + setS (setS (setS zc.1 x 7 (zm.1 7 k + 1)) x 6 (zm.1 6 k + 1)) x 8 (zm.1 7 k + 1) x 0) _) _
    rw [e0]
    exact R3
