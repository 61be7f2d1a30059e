/-! ===== all of a route ===== -/
theorem sec_keep {zc zd : SC} (F : Fl zc zd) {y z : Int32} {o : Option Nat} (h : fX1_sectionOn zc y z = some (o, zc)) : fX1_sectionOn zd y z = some (o, zd) := by
  unfold fX1_sectionOn at h ⊢
  simp only [let_] at h ⊢
  rw [F.2.1, F.2.2.1]
  by_cases c1 : y * 8 + z < 0 ∨ 48 ≤ (y * 8 + z).toNatClampNeg
  · rw [if_pos c1] at h; cases h
  · rw [if_neg c1] at h ⊢
    by_cases c2 : zc.2.2.2.1 (y * 8 + z).toNatClampNeg < 0 ∨ 12 ≤ (zc.2.2.2.1 (y * 8 + z).toNatClampNeg).toNatClampNeg
    · rw [if_pos c2] at h; cases h
    · rw [if_neg c2] at h ⊢
      cases hs : zc.2.2.1 (zc.2.2.2.1 (y * 8 + z).toNatClampNeg).toNatClampNeg with
      | none =>
        rw [hs] at h
        have e := (o_s (h : some ((none : Option Nat), zc) = some (o, zc))).1
        rw [e]; rfl
      | some w =>
        rw [hs] at h
        have e := (o_s (h : some ((some w : Option Nat), zc) = some (o, zc))).1
        rw [e]; rfl
/-- the place has a section -/
def nn (zc : SC) (r q : Nat) : Prop := ∃ x, fX1_sectionOn zc (nI r) (nI q) = some (some x, zc)
theorem nn.keep {zc zd : SC} (F : Fl zc zd) {r q : Nat} (h : nn zc r q) : nn zd r q := by
  obtain ⟨x, hx⟩ := h
  exact ⟨x, sec_keep F hx⟩
theorem nn.sec {n : Nat} {zc : SC} {zm : SM} (h : Rl n zc zm) {r i : Nat} (hr : r < 6) (hi : i < 8) (hn : nn zc r i) : ∃ k x, zc.2.1[k]? = some x ∧ fX1_sectionOn zc (nI r) (nI i) = some (some x, zc) ∧ fX2_sectionOf zm (nI r) (nI i) = some (nI k, zm) := by
  obtain ⟨x, hx⟩ := hn
  rcases s_sec h hr hi with ⟨a, -⟩ | g
  · rw [a] at hx; cases hx
  · exact g
theorem s_claimAll {n r : Nat} (hr : r < 6) (v : Int32) {j : Nat} (hj : j ≤ 8) :
    ∀ (d i : Nat), i + d = j → ∀ (fc fm : Nat) (zc : SC) (zm : SM), d < fc → d < fm → Rl n zc zm → zc.2.2.2.2.1 r = nI j →
    ∃ q zd zn, i ≤ q ∧ q ≤ j ∧ fX1_claimAll_j2 fc zc (nI r) (nI i) = some (nI q, zd) ∧ fX2_all_j2 fm zm (nI r) v (nI i) = fX2_all_j37 zn (nI r) v (nI q) ∧ Rl n zd zn ∧ Fq zc zd ∧ ∀ p, i ≤ p → p < q → nn zc r p := by
  have hin := nI_in (c := r) (N := 6) hr (by omega)
  have cl := nI_clamp (n := r) (by omega)
  rw [cl] at hin
  intro d
  induction d with
  | zero =>
    intro i hi fc fm zc zm hfc hfm h hlen
    have hlm : zm.2.2.2.1 r = nI j := by rw [← h.1]; exact hlen
    obtain ⟨fc, rfl⟩ : ∃ q, fc = q + 1 := ⟨fc - 1, by omega⟩
    obtain ⟨fm, rfl⟩ : ∃ q, fm = q + 1 := ⟨fm - 1, by omega⟩
    have hle : nI j ≤ nI i := nI_le (by omega) (by omega)
    rw [fX1_claimAll_j2, fX2_all_j2]
    simp only [let_, cl, if_neg hin, hlm, hlen, if_pos hle]
    exact ⟨j, zc, zm, by omega, by omega, rfl, by rw [show j = i by omega], h, Fq.rf, fun p h1 h2 => by omega⟩
  | succ d ih =>
    intro i hi fc fm zc zm hfc hfm h hlen
    have hlm : zm.2.2.2.1 r = nI j := by rw [← h.1]; exact hlen
    obtain ⟨fc, rfl⟩ : ∃ q, fc = q + 1 := ⟨fc - 1, by omega⟩
    obtain ⟨fm, rfl⟩ : ∃ q, fm = q + 1 := ⟨fm - 1, by omega⟩
    have hnl : ¬ nI j ≤ nI i := nI_ge (by omega) (by omega)
    rw [fX1_claimAll_j2, fX2_all_j2]
    simp only [let_, cl, if_neg hin, hlm, hlen, if_neg hnl]
    rcases s_sec h hr (i := i) (by omega) with ⟨a1, a2⟩ | ⟨k, x, hk, a1, a2⟩
    · rw [a1, a2, bd_some, bd_some, if_pos (by decide)]
      exact ⟨i, zc, zm, by omega, by omega, rfl, rfl, h, Fq.rf, fun p h1 h2 => by omega⟩
    · obtain ⟨zc1, zm1, b1, b2, R1, F1⟩ := s_claim h hk
      rw [a1, a2, bd_some, bd_some, if_neg (nI_pos (by have := h.lt hk; omega)), a2, bd_some]
      simp only [opt_, b1, b2, bd_some, nI_1]
      obtain ⟨q, zd, zn, g1, g2, g3, g4, g5, g6, g7⟩ := ih (i + 1) (by omega) fc fm zc1 zm1 (by omega) (by omega) R1 (by rw [F1.2.2.2.1]; exact hlen)
      refine ⟨q, zd, zn, by omega, g2, g3, g4, g5, F1.tr g6, fun p h1 h2 => ?_⟩
      by_cases hp : p = i
      · rw [hp]; exact ⟨x, a1⟩
      · obtain ⟨y, hy⟩ := g7 p (by omega) h2
        exact ⟨y, sec_keep ⟨F1.1.symm, F1.2.1.symm, F1.2.2.1.symm, F1.2.2.2.1.symm⟩ hy⟩
theorem s_letAll {n r : Nat} (hr : r < 6) (t : Int32) :
    ∀ (q : Nat), q ≤ 8 → ∀ (fc fm : Nat) (zc : SC) (zm : SM) (y : Int32), q < fc → q < fm → Rl n zc zm → (∀ p, p < q → nn zc r p) → y = nI q - 1 →
    ∃ zd zn, fX1_letAll_j4 fc zc (nI r) y = some (0, zd) ∧ fX2_all_j99 fm zm (nI r) t y = some (t, zn) ∧ Rl n zd zn ∧ Fq zc zd := by
  intro q
  induction q with
  | zero =>
    intro _ fc fm zc zm y hfc hfm h hn hy
    obtain ⟨fc, rfl⟩ : ∃ q, fc = q + 1 := ⟨fc - 1, by omega⟩
    obtain ⟨fm, rfl⟩ : ∃ q, fm = q + 1 := ⟨fm - 1, by omega⟩
    have hl : y < 0 := by rw [hy]; decide
    rw [fX1_letAll_j4, fX2_all_j99, if_pos hl, if_pos hl]
    exact ⟨zc, zm, rfl, rfl, h, Fq.rf⟩
  | succ q ih =>
    intro hq fc fm zc zm y hfc hfm h hn hy
    obtain ⟨fc, rfl⟩ : ∃ q, fc = q + 1 := ⟨fc - 1, by omega⟩
    obtain ⟨fm, rfl⟩ : ∃ q, fm = q + 1 := ⟨fm - 1, by omega⟩
    rw [nI_pred] at hy
    subst hy
    have hl : ¬ nI q < 0 := nI_pos (by omega)
    rw [fX1_letAll_j4, fX2_all_j99, if_neg hl, if_neg hl]
    obtain ⟨k, x, hk, a1, a2⟩ := nn.sec h hr (by omega) (hn q (by omega))
    obtain ⟨zc1, zm1, b1, b2, R1, F1⟩ := s_let h hk
    rw [a1, a2, bd_some, bd_some]
    simp only [opt_, b1, b2, bd_some, fX1_letAll_j27]
    obtain ⟨zd, zn, g1, g2, g3, g4⟩ := ih (by omega) fc fm zc1 zm1 (nI q + -1) (by omega) (by omega) R1 (fun p hp => (hn p (by omega)).keep F1.l) (by rw [Int32.sub_eq_add_neg])
    exact ⟨zd, zn, g1, g2, g3, F1.tr g4⟩
/-- the end of 'all': each is let, the latest first; what it answers stays -/
theorem s_allEnd {n r : Nat} (hr : r < 6) (t : Int32) {q : Nat} (hq : q ≤ 8) {zc : SC} {zm : SM} (h : Rl n zc zm) (hn : ∀ p, p < q → nn zc r p) {b : Nat} (hb : pb b zc) :
    Rn n b zc (bd_ (fX1_letAll zc (nI r) (nI q)) (fun _ z2 => some (fin_ t (psC zc), z2))) (fX2_all_j94 zm (nI r) (nI q) t) := by
  obtain ⟨zd, zn, g1, g2, g3, g4⟩ := s_letAll hr t q hq 20 20 zc zm (nI q - 1) (by omega) (by omega) h hn rfl
  have e1 : fX1_letAll zc (nI r) (nI q) = some (0, zd) := g1
  have e2 : fX2_all_j94 zm (nI r) (nI q) t = some (t, zn) := g2
  have e3 : psC zc = psC zd := by
    have := g4.2.2.2.2
    unfold psC
    rw [this]
  rw [e1, e2, bd_some, e3]
  exact ⟨t, zd, zn, rfl, rfl, g3, g4.l, g4.p hb⟩
/-- at the head of the passes, something other than 0 was told already -/
theorem s_allStop {n r : Nat} (hr : r < 6) (v t : Int32) (tc : Int32) (htc : ¬ tc = 0) (ht : ¬ t = 0) {q : Nat} (hq : q ≤ 8) {zc : SC} {zm : SM} (h : Rl n zc zm) (hn : ∀ p, p < q → nn zc r p) {b : Nat} (hb : pb b zc) (y : Int32) (fc fm : Nat) :
    Rn n b zc (fX1_goAll_j36 (fc + 1) zc (nI r) v (nI q) tc (fin_ t (psC zc)) y) (fX2_all_j58 (fm + 1) zm (nI r) v (nI q) t y) := by
  have E := s_allEnd hr t hq h hn hb
  rw [fX1_goAll_j36, fX2_all_j58]
  by_cases c : nI q ≤ y
  · rw [if_pos c, if_pos c]; exact E
  · rw [if_neg c, if_neg c, if_neg htc, if_neg ht]; exact E
theorem s_allPass {n r : Nat} (hr : r < 6) (v : Int32) {q : Nat} (hq : q ≤ 8) :
    ∀ (d i : Nat), i + d = q → ∀ (fc fm b : Nat) (zc : SC) (zm : SM), d < fc → d < fm → Rl n zc zm → (∀ p, p < q → nn zc r p) → pb b zc →
    Rn n (b + d) zc (fX1_goAll_j36 (fc + 1) zc (nI r) v (nI q) 0 (psC zc) (nI i)) (fX2_all_j58 (fm + 1) zm (nI r) v (nI q) 0 (nI i)) := by
  intro d
  induction d with
  | zero =>
    intro i hi fc fm b zc zm hfc hfm h hn hb
    have hle : nI q ≤ nI i := nI_le (by omega) (by omega)
    rw [fX1_goAll_j36, fX2_all_j58, if_pos hle, if_pos hle]
    exact s_allEnd hr 0 hq h hn hb
  | succ d ih =>
    intro i hi fc fm b zc zm hfc hfm h hn hb
    have hnl : ¬ nI q ≤ nI i := nI_ge (by omega) (by omega)
    have hi8 : i < 8 := by omega
    rw [fX1_goAll_j36, fX2_all_j58, if_neg hnl, if_neg hnl, if_pos rfl, if_pos rfl]
    obtain ⟨k, x, hk, a1, a2⟩ := nn.sec h hr hi8 (hn i (by omega))
    obtain ⟨t, zc2, zm2, c1, c2, R2, F2, P2⟩ := s_pass h hk v
    rw [a1, a2, bd_some, bd_some]
    simp only [opt_, c1, c2, bd_some, m_ended, fX1_goAll_j73, c_answer hi8, nI_1]
    obtain ⟨fc, rfl⟩ : ∃ q, fc = q + 1 := ⟨fc - 1, by omega⟩
    obtain ⟨fm, rfl⟩ : ∃ q, fm = q + 1 := ⟨fm - 1, by omega⟩
    have hn2 : ∀ p, p < q → nn zc2 r p := fun p hp => (hn p hp).keep F2
    by_cases ht : t = 0
    · have e0 : en_ t i = 0 := (en_0 hi8).mpr ht
      rw [e0, ht]
      obtain ⟨t', zd', zn', g1, g2, g3, g4, g5⟩ := ih (i + 1) (by omega) fc fm (b + 1) zc2 zm2 (by omega) (by omega) R2 hn2 (P2 b hb)
      exact ⟨t', zd', zn', g1, g2, g3, F2.tr g4, g5.mono (by omega)⟩
    · have e0 : ¬ en_ t i = 0 := fun q => ht ((en_0 hi8).mp q)
      obtain ⟨t', zd', zn', g1, g2, g3, g4, g5⟩ := s_allStop hr v (en_ t i) t ht e0 hq R2 hn2 (P2 b hb) (nI (i + 1)) fc fm
      exact ⟨t', zd', zn', g1, g2, g3, F2.tr g4, g5.mono (by omega)⟩
theorem s_goAll {n r : Nat} (hr : r < 6) (v : Int32) {zc : SC} {zm : SM} (h : Rl n zc zm) (hb : pb 0 zc) : Rn n 100 zc (fX1_goAll zc (nI r) v) (fX2_all zm (nI r) v) := by
  have hin := nI_in (c := r) (N := 6) hr (by omega)
  have cl := nI_clamp (n := r) (by omega)
  rw [cl] at hin
  obtain ⟨j, hj, e, -⟩ := len_of h hr
  obtain ⟨q, zd, zn, g1, g2, g3, g4, g5, g6, g7⟩ := s_claimAll hr v hj j 0 (by omega) 20 20 zc zm (by omega) (by omega) h e
  have e1 : fX1_claimAll zc (nI r) = some (nI q, zd) := g3
  have e2 : fX2_all zm (nI r) v = fX2_all_j37 zn (nI r) v (nI q) := g4
  have ed : zd.2.2.2.2.1 r = nI j := by rw [g6.2.2.2.1]; exact e
  have en : zn.2.2.2.1 r = nI j := by rw [← g5.1]; exact ed
  have hn : ∀ p, p < q → nn zd r p := fun p hp => (g7 p (by omega) hp).keep g6.l
  have hb1 : pb 0 zd := g6.p hb
  rw [e2]
  unfold fX1_goAll fX2_all_j37 fX1_goAll_j22 fX2_all_j53
  simp only [e1, bd_some, let_, cl, if_neg hin, ed, en]
  by_cases hl : nI j ≤ nI q
  · rw [if_pos hl, if_pos hl]
    have ea : fX1_answerTo zd 0 0 = some (psC zd, zd) := by
      have := c_answer (zc := zd) (t := 0) (i := 0) (by omega)
      exact this
    rw [ea, bd_some]
    obtain ⟨t', zd', zn', a1, a2, a3, a4, a5⟩ := s_allPass hr v (q := q) (by omega) q 0 (by omega) 19 19 0 zd zn (by omega) (by omega) g5 hn hb1
    exact ⟨t', zd', zn', a1, a2, a3, g6.l.tr a4, a5.mono (by omega)⟩
  · rw [if_neg hl, if_neg hl]
    have ea : fX1_answerTo zd (-11) 0 = some (fin_ (-11) (psC zd), zd) := by
      have := c_answer (zc := zd) (t := -11) (i := 0) (by omega)
      exact this
    rw [ea, bd_some]
    obtain ⟨t', zd', zn', a1, a2, a3, a4, a5⟩ := s_allStop hr v (-11) (-11) (by decide) (by decide) (q := q) (by omega) g5 hn hb1 0 19 19
    exact ⟨t', zd', zn', a1, a2, a3, g6.l.tr a4, a5.mono (by omega)⟩
