/-! ===== a pass ===== -/
theorem not_pos (c : Int32) : c ≤ 0 ↔ ¬ 0 < c := by
  constructor
  · intro h g; exact absurd (Int32.lt_iff_toInt_lt.mp g) (by have := Int32.le_iff_toInt_le.mp h; omega)
  · intro h; exact Int32.le_iff_toInt_le.mpr (by
      rcases Int.lt_or_le (0 : Int32).toInt c.toInt with g | g
      · exact absurd (Int32.lt_iff_toInt_lt.mpr g) h
      · exact g)
theorem c_room {zc : SC} {x : Nat} (hx : x ∈ zc.2.1) (v : Int32) : fX0_hasRoomFor zc x v = some (if 0 < lg_cmp ((zc.1 x 4).toInt64 + v.toInt64) (zc.1 x 2).toInt64 then 0 else 1, zc) := by
  unfold fX0_hasRoomFor
  rw [if_pos hx, if_pos hx]
  by_cases h : 0 < lg_cmp ((zc.1 x 4).toInt64 + v.toInt64) (zc.1 x 2).toInt64
  · rw [if_pos h, if_pos h]
  · rw [if_neg h, if_neg h]
theorem s_plain {n : Nat} {zc : SC} {zm : SM} (h : Rl n zc zm) {k x : Nat} (hk : zc.2.1[k]? = some x) (v : Int32) : ∃ r zd zn, fX1_passPlain zc x v = some (r, zd) ∧ fX2_passPlain zm (nI k) v = some (r, zn) ∧ Rl n zd zn ∧ Fq zc zd := by
  obtain ⟨zc1, zm1, e1, e2, R1, F1⟩ := s_claim h hk
  have hk1 := F1.at hk
  obtain ⟨q0, -, q⟩ := R1.2.2.1 k x hk1
  have q4 := q 4 (by omega) (by omega)
  have q2 := q 2 (by omega) (by omega)
  have hx := Rl.mem hk1
  have hc := nI_in (h.lt hk) (by omega)
  have e := nI_clamp (n := k) (by have := h.lt hk; omega)
  rw [e] at hc
  unfold fX1_passPlain fX2_passPlain fX2_passPlain_j32
  simp only [e1, e2, bd_some, let_, if_pos hx, e, if_neg hc, c_room hx, q4, q2, not_pos, ite_not]
  by_cases hl : 0 < lg_cmp ((zm1.1 4 k).toInt64 + v.toInt64) (zm1.1 2 k).toInt64
  · simp only [if_pos hl, if_true]
    rw [if_neg (by decide)]
    obtain ⟨zd, zn, a1, a2, R2, F2⟩ := s_let R1 hk1
    have e4 : (setA zm1.1 4 (upd (zm1.1 4) k (zm1.1 4 k + 0)), zm1.2) = zm1 := by rw [Int32.add_zero, setA_id]
    rw [e4, a1, a2]
    exact ⟨-30, zd, zn, rfl, rfl, R2, F1.tr F2⟩
  · simp only [if_neg hl, if_true]
    rw [if_neg (by decide)]
    have R1' := R1.set hk1 4 (by omega) (zm1.1 4 k + v)
    obtain ⟨zd, zn, a1, a2, R2, F2⟩ := s_let R1' hk1
    rw [a1, a2]
    exact ⟨0, zd, zn, rfl, rfl, R2, F1.tr F2⟩
theorem s_points {n : Nat} {zc : SC} {zm : SM} (h : Rl n zc zm) {k x : Nat} (hk : zc.2.1[k]? = some x) (v : Int32) : ∃ r zd zn, fX1_passPoints zc x v = some (r, zd) ∧ fX2_passPoints zm (nI k) v = some (r, zn) ∧ Rl n zd zn ∧ Fq zc zd := by
  obtain ⟨zc1, zm1, e1, e2, R1, F1⟩ := s_claim h hk
  have hk1 := F1.at hk
  obtain ⟨q0, -, q⟩ := R1.2.2.1 k x hk1
  have q5 := q 5 (by omega) (by omega)
  have hx := Rl.mem hk1
  have hc := nI_in (h.lt hk) (by omega)
  have e := nI_clamp (n := k) (by have := h.lt hk; omega)
  rw [e] at hc
  unfold fX1_passPoints fX2_passPoints
  simp only [e1, e2, bd_some, let_, if_pos hx, e, if_neg hc, q5]
  by_cases hl : zm1.1 5 k = 1
  · rw [if_pos hl, if_pos hl]
    obtain ⟨zd, zn, a1, a2, R2, F2⟩ := s_let (R1.set hk1 5 (by omega) 0) hk1
    rw [a1, a2]
    exact ⟨1, zd, zn, rfl, rfl, R2, F1.tr F2⟩
  · rw [if_neg hl, if_neg hl]
    obtain ⟨r, zd, zn, a1, a2, R2, F2⟩ := s_plain (R1.set hk1 5 (by omega) 1) hk1 v
    obtain ⟨zd', zn', b1, b2, R3, F3⟩ := s_let R2 (F2.at hk1)
    simp only [a1, a2, bd_some, b1, b2]
    exact ⟨r, zd', zn', rfl, rfl, R3, (F1.tr F2).tr F3⟩
theorem s_bridge {n : Nat} {zc : SC} {zm : SM} (h : Rl n zc zm) {k x : Nat} (hk : zc.2.1[k]? = some x) (v : Int32) : ∃ r zd zn, fX1_passBridge zc x v = some (r, zd) ∧ fX2_passBridge zm (nI k) v = some (r, zn) ∧ Rl n zd zn ∧ Fq zc zd := by
  obtain ⟨zc1, zm1, e1, e2, R1, F1⟩ := s_claim h hk
  have hk1 := F1.at hk
  obtain ⟨q0, -, q⟩ := R1.2.2.1 k x hk1
  have q3 := q 3 (by omega) (by omega)
  have hx := Rl.mem hk1
  have hc := nI_in (h.lt hk) (by omega)
  have e := nI_clamp (n := k) (by have := h.lt hk; omega)
  rw [e] at hc
  unfold fX1_passBridge fX2_passBridge
  simp only [e1, e2, bd_some, let_, if_pos hx, e, if_neg hc, q3]
  by_cases hl : zm1.1 3 k < v
  · rw [if_pos hl, if_pos hl]
    obtain ⟨zd, zn, a1, a2, R2, F2⟩ := s_let R1 hk1
    rw [a1, a2]
    exact ⟨2, zd, zn, rfl, rfl, R2, F1.tr F2⟩
  · rw [if_neg hl, if_neg hl]
    obtain ⟨r, zd, zn, a1, a2, R2, F2⟩ := s_points R1 hk1 v
    have hk2 := F2.at hk1
    obtain ⟨-, -, p⟩ := R2.2.2.1 k x hk2
    have p3 := p 3 (by omega) (by omega)
    have hx2 := Rl.mem hk2
    simp only [a1, a2, bd_some, if_pos hx2, p3]
    by_cases hr : r = 0
    · rw [if_pos hr, if_pos hr]
      obtain ⟨zd', zn', b1, b2, R3, F3⟩ := s_let (R2.set hk2 3 (by omega) (zn.1 3 k - 1)) hk2
      rw [b1, b2]
      exact ⟨r, zd', zn', rfl, rfl, R3, (F1.tr F2).tr F3⟩
    · rw [if_neg hr, if_neg hr]
      obtain ⟨zd', zn', b1, b2, R3, F3⟩ := s_let R2 hk2
      have e4 : (setA zn.1 3 (upd (zn.1 3) k (zn.1 3 k - 0)), zn.2) = zn := by rw [Int32.sub_zero, setA_id]
      rw [e4, b1, b2]
      exact ⟨r, zd', zn', rfl, rfl, R3, (F1.tr F2).tr F3⟩
/-- what a pass keeps; PASSED grows by one at most -/
def Fl (zc zd : SC) : Prop := zd.2.1 = zc.2.1 ∧ zd.2.2.1 = zc.2.2.1 ∧ zd.2.2.2.1 = zc.2.2.2.1 ∧ zd.2.2.2.2.1 = zc.2.2.2.2.1
theorem Fl.rf {zc : SC} : Fl zc zc := ⟨rfl, rfl, rfl, rfl⟩
theorem Fl.tr {a b c : SC} (h : Fl a b) (g : Fl b c) : Fl a c := ⟨g.1.trans h.1, g.2.1.trans h.2.1, g.2.2.1.trans h.2.2.1, g.2.2.2.trans h.2.2.2⟩
theorem Fl.at {zc zd : SC} (h : Fl zc zd) {k x : Nat} (hk : zc.2.1[k]? = some x) : zd.2.1[k]? = some x := by rw [h.1]; exact hk
theorem Fq.l {a b : SC} (h : Fq a b) : Fl a b := ⟨h.1, h.2.1, h.2.2.1, h.2.2.2.1⟩
def pb (b : Nat) (zc : SC) : Prop := ∃ t, t ≤ b ∧ zc.2.2.2.2.2.2.2.2.2.2.2 = nI t
theorem Fq.p {a b : SC} (h : Fq a b) {n : Nat} (g : pb n a) : pb n b := by
  obtain ⟨t, h1, h2⟩ := g
  exact ⟨t, h1, by rw [h.2.2.2.2]; exact h2⟩
theorem pb.mono {n m : Nat} {z : SC} (h : pb n z) (hm : n ≤ m) : pb m z := by
  obtain ⟨t, h1, h2⟩ := h
  exact ⟨t, by omega, h2⟩
theorem s_passj {n : Nat} {zc : SC} {zm : SM} (h : Rl n zc zm) (r : Int32) : ∃ zd zn, fX1_pass_j59 zc r = some (r, zd) ∧ fX2_pass_j43 zm r = some (r, zn) ∧ Rl n zd zn ∧ Fl zc zd ∧ ∀ b, pb b zc → pb (b + 1) zd := by
  unfold fX1_pass_j59 fX2_pass_j43
  simp only [let_]
  by_cases hr : r = 0
  · rw [if_pos hr, if_pos hr]
    refine ⟨_, _, rfl, rfl, ?_, ⟨rfl, rfl, rfl, rfl⟩, fun b hb => ?_⟩
    · have e := h.1
      rw [← e]
      exact h.com (C := (zc.2.2.2.1, zc.2.2.2.2.1, zc.2.2.2.2.2.1, zc.2.2.2.2.2.2.1, zc.2.2.2.2.2.2.2.1, zc.2.2.2.2.2.2.2.2.1, zc.2.2.2.2.2.2.2.2.2.1, zc.2.2.2.2.2.2.2.2.2.2.1, zc.2.2.2.2.2.2.2.2.2.2.2 + 1)) h.2.2.2.2.1 h.2.2.2.2.2
    · obtain ⟨t, h1, h2⟩ := hb
      exact ⟨t + 1, by omega, by show zc.2.2.2.2.2.2.2.2.2.2.2 + 1 = _; rw [h2]; exact nI_1 t⟩
  · rw [if_neg hr, if_neg hr]
    refine ⟨zc, zm, rfl, ?_, h, Fl.rf, fun b hb => hb.mono (by omega)⟩
    rw [Int32.add_zero]
theorem s_pass {n : Nat} {zc : SC} {zm : SM} (h : Rl n zc zm) {k x : Nat} (hk : zc.2.1[k]? = some x) (v : Int32) : ∃ r zd zn, fX1_pass zc x v = some (r, zd) ∧ fX2_pass zm (nI k) v = some (r, zn) ∧ Rl n zd zn ∧ Fl zc zd ∧ ∀ b, pb b zc → pb (b + 1) zd := by
  obtain ⟨q0, qk, q⟩ := h.2.2.1 k x hk
  have q1 := q 1 (by omega) (by omega)
  have hx := Rl.mem hk
  have hc := nI_in (h.lt hk) (by omega)
  have e := nI_clamp (n := k) (by have := h.lt hk; omega)
  rw [e] at hc
  rw [q1] at qk
  unfold fX1_pass fX2_pass
  simp only [let_, if_pos hx, e, if_neg hc, q1]
  rcases qk with g | g | g
  · obtain ⟨r, zd, zn, a1, a2, R2, F2⟩ := s_plain h hk v
    obtain ⟨zd', zn', b1, b2, R3, F3, P3⟩ := s_passj R2 r
    rw [g, if_neg (by decide), if_neg (by decide), if_pos rfl, a1, a2, bd_some, bd_some, b1, b2]
    exact ⟨r, zd', zn', rfl, rfl, R3, F2.l.tr F3, fun b hb => P3 b (F2.p hb)⟩
  · obtain ⟨r, zd, zn, a1, a2, R2, F2⟩ := s_points h hk v
    obtain ⟨zd', zn', b1, b2, R3, F3, P3⟩ := s_passj R2 r
    rw [g, if_pos rfl, if_neg (by decide), if_pos rfl, a1, a2, bd_some, bd_some, b1, b2]
    exact ⟨r, zd', zn', rfl, rfl, R3, F2.l.tr F3, fun b hb => P3 b (F2.p hb)⟩
  · obtain ⟨r, zd, zn, a1, a2, R2, F2⟩ := s_bridge h hk v
    obtain ⟨zd', zn', b1, b2, R3, F3, P3⟩ := s_passj R2 r
    rw [g, if_neg (by decide), if_pos rfl, if_neg (by decide), if_neg (by decide), a1, a2, bd_some, bd_some, b1, b2]
    exact ⟨r, zd', zn', rfl, rfl, R3, F2.l.tr F3, fun b hb => P3 b (F2.p hb)⟩
/-- the section of the i-th place of a route, on both sides -/
theorem s_sec {n : Nat} {zc : SC} {zm : SM} (h : Rl n zc zm) {r i : Nat} (hr : r < 6) (hi : i < 8) : (fX1_sectionOn zc (nI r) (nI i) = some (none, zc) ∧ fX2_sectionOf zm (nI r) (nI i) = some (-1, zm)) ∨ ∃ k x, zc.2.1[k]? = some x ∧ fX1_sectionOn zc (nI r) (nI i) = some (some x, zc) ∧ fX2_sectionOf zm (nI r) (nI i) = some (nI k, zm) := by
  have e1 : nI r * 8 + nI i = nI (r * 8 + i) := by rw [show (8 : Int32) = nI 8 from rfl, pk_mul, nI_add]
  have e2 : 8 * nI r + nI i = nI (r * 8 + i) := by rw [show (8 : Int32) = nI 8 from rfl, pk_mul, nI_add, Nat.mul_comm]
  obtain ⟨p, hp, ep⟩ := h.2.2.2.2.1.1 (r * 8 + i) (by omega)
  have hin := nI_in (c := r * 8 + i) (N := 48) (by omega) (by omega)
  have cl := nI_clamp (n := r * 8 + i) (by omega)
  have hin2 := nI_in (c := p) (N := 12) hp (by omega)
  have cl2 := nI_clamp (n := p) (by omega)
  rw [cl] at hin
  rw [cl2] at hin2
  have ep' : zm.2.2.1 (r * 8 + i) = nI p := by rw [← h.1]; exact ep
  unfold fX1_sectionOn fX2_sectionOf
  simp only [let_, e1, e2, cl, if_neg hin, ep, ep', cl2, if_neg hin2]
  rcases h.2.2.2.1 p hp with ⟨a, b⟩ | ⟨k, x, a, b, c⟩
  · left
    rw [a, b]
    exact ⟨rfl, rfl⟩
  · right
    refine ⟨k, x, a, ?_, ?_⟩
    · rw [b]; rfl
    · rw [c]
