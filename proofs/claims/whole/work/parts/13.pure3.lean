/-! ===== a run's ways ===== -/
def fin_ (r p : Int32) : Int32 := if r < 0 then r else p
def psC (z : SC) : Int32 := z.2.2.2.2.2.2.2.2.2.2.2
/-- a way's end: the class answers what the reference's number means -/
def Rn (n b : Nat) (zc : SC) (oc : Option (Int32 × SC)) (om : Option (Int32 × SM)) : Prop := ∃ r zd zn, om = some (r, zn) ∧ oc = some (fin_ r (psC zd), zd) ∧ Rl n zd zn ∧ Fl zc zd ∧ pb b zd
theorem end_ne {i : Nat} (hi : i < 8) : ¬ ((-100 : Int32) - nI i = 0) ∧ ((-100 : Int32) - nI i < 0) := by
  have h : i = 0 ∨ i = 1 ∨ i = 2 ∨ i = 3 ∨ i = 4 ∨ i = 5 ∨ i = 6 ∨ i = 7 := by omega
  rcases h with h | h | h | h | h | h | h | h <;> subst h <;> decide
/-- what the reference makes of a told number -/
def en_ (t : Int32) (i : Nat) : Int32 := if t = 2 then -100 - nI i else t
theorem m_ended (zm : SM) (t : Int32) (i : Nat) : fX2_ended zm t (nI i) = some (en_ t i, zm) := by
  unfold fX2_ended en_
  by_cases h : t = 2
  · rw [if_pos h, if_pos h]
  · rw [if_neg h, if_neg h]
theorem en_0 {t : Int32} {i : Nat} (hi : i < 8) : en_ t i = 0 ↔ t = 0 := by
  unfold en_
  by_cases h : t = 2
  · rw [if_pos h, h]
    exact ⟨fun q => absurd q (end_ne hi).1, fun q => absurd q (by decide)⟩
  · rw [if_neg h]
theorem nlt_iff (c : Int32) : (0 ≤ c) ↔ ¬ c < 0 := by
  constructor
  · intro h g; exact absurd (Int32.lt_iff_toInt_lt.mp g) (by have := Int32.le_iff_toInt_le.mp h; omega)
  · intro h; exact Int32.le_iff_toInt_le.mpr (by
      rcases Int.lt_or_le c.toInt (0 : Int32).toInt with g | g
      · exact absurd (Int32.lt_iff_toInt_lt.mpr g) h
      · exact g)
theorem c_answer {zc : SC} {t : Int32} {i : Nat} (hi : i < 8) : fX1_answerTo zc t (nI i) = some (fin_ (en_ t i) (psC zc), zc) := by
  unfold fX1_answerTo fin_ en_
  by_cases h2 : t = 2
  · rw [h2, if_pos (by decide), if_pos rfl, if_pos rfl, if_pos (end_ne hi).2]
  · rw [if_neg h2, if_neg h2]
    by_cases h0 : 0 ≤ t
    · rw [if_pos h0, if_neg ((nlt_iff t).mp h0)]; rfl
    · rw [if_neg h0, if_pos (by
        rcases Int.lt_or_le t.toInt (0 : Int32).toInt with g | g
        · exact Int32.lt_iff_toInt_lt.mpr g
        · exact absurd (Int32.le_iff_toInt_le.mpr g) h0)]
theorem m_alone_stop {zm : SM} {r : Nat} {v t : Int32} (y : Int32) (hr : r < 6) (ht : ¬ t = 0) (f : Nat) : fX2_alone_j5 (f + 1) zm (nI r) v t y = some (t, zm) := by
  have hin := nI_in hr (by omega)
  rw [fX2_alone_j5, if_neg hin]
  simp only [let_]
  by_cases h : zm.2.2.2.1 (nI r).toNatClampNeg ≤ y
  · rw [if_pos h]
  · rw [if_neg h, if_neg ht]
theorem len_of {n : Nat} {zc : SC} {zm : SM} (h : Rl n zc zm) {r : Nat} (hr : r < 6) : ∃ j, j ≤ 8 ∧ zc.2.2.2.2.1 r = nI j ∧ zm.2.2.2.1 r = nI j := by
  obtain ⟨j, hj, e⟩ := h.2.2.2.2.1.2.1 r hr
  exact ⟨j, hj, e, by rw [← h.1]; exact e⟩
theorem s_alone {n r : Nat} (hr : r < 6) (v : Int32) (K : SC → Int32 → Int32 → Int32 → Int32 → Option (Int32 × SC)) (y3 y4 : Int32) {j : Nat} (hj : j ≤ 8) :
    ∀ (d i : Nat), i + d = j → ∀ (fc fm b : Nat) (zc : SC) (zm : SM), d < fc → d + 1 < fm → Rl n zc zm → zc.2.2.2.2.1 r = nI j → pb b zc →
    ∃ t zd zn, fX2_alone_j5 fm zm (nI r) v 0 (nI i) = some (t, zn) ∧ Rl n zd zn ∧ Fl zc zd ∧ pb (b + d) zd ∧ ((t = 0 ∧ fX1_goAlone_j12 K fc zc (nI r) v y3 y4 (nI i) = K zd (nI r) v y3 (y4 + 1)) ∨ (¬ t = 0 ∧ fX1_goAlone_j12 K fc zc (nI r) v y3 y4 (nI i) = some (fin_ t (psC zd), zd))) := by
  have hin := nI_in (c := r) (N := 6) hr (by omega)
  have cl := nI_clamp (n := r) (by omega)
  intro d
  induction d with
  | zero =>
    intro i hi fc fm b zc zm hfc hfm h hlen hb
    have hlm : zm.2.2.2.1 r = nI j := by rw [← h.1]; exact hlen
    obtain ⟨fc, rfl⟩ : ∃ q, fc = q + 1 := ⟨fc - 1, by omega⟩
    obtain ⟨fm, rfl⟩ : ∃ q, fm = q + 1 := ⟨fm - 1, by omega⟩
    have hle : nI j ≤ nI i := nI_le (by omega) (by omega)
    refine ⟨0, zc, zm, ?_, h, Fl.rf, hb, Or.inl ⟨rfl, ?_⟩⟩
    · rw [fX2_alone_j5, if_neg hin]
      simp only [let_]
      rw [cl, hlm, if_pos hle]
    · rw [fX1_goAlone_j12, if_neg hin]
      simp only [let_]
      rw [cl, hlen, if_pos hle]
  | succ d ih =>
    intro i hi fc fm b zc zm hfc hfm h hlen hb
    have hlm : zm.2.2.2.1 r = nI j := by rw [← h.1]; exact hlen
    obtain ⟨fc, rfl⟩ : ∃ q, fc = q + 1 := ⟨fc - 1, by omega⟩
    obtain ⟨fm, rfl⟩ : ∃ q, fm = q + 1 := ⟨fm - 1, by omega⟩
    have hnl : ¬ nI j ≤ nI i := nI_ge (by omega) (by omega)
    have hi8 : i < 8 := by omega
    rw [fX2_alone_j5, fX1_goAlone_j12, if_neg hin, if_neg hin]
    simp only [let_]
    rw [cl, hlm, hlen, if_neg hnl, if_neg hnl, if_pos trivial]
    rcases s_sec h hr hi8 with ⟨a1, a2⟩ | ⟨k, x, hk, a1, a2⟩
    · rw [a1, a2, bd_some, bd_some, if_neg (by decide)]
      exact ⟨-11, zc, zm, rfl, h, Fl.rf, hb.mono (by omega), Or.inr ⟨by decide, rfl⟩⟩
    · rw [a1, a2, bd_some, bd_some, if_pos (nI_pos' (by have := h.lt hk; omega))]
      obtain ⟨zc1, zm1, b1, b2, R1, F1⟩ := s_claim h hk
      have hk1 := F1.at hk
      obtain ⟨t, zc2, zm2, c1, c2, R2, F2, P2⟩ := s_pass R1 hk1 v
      have hk2 := F2.at hk1
      obtain ⟨zc3, zm3, d1, d2, R3, F3⟩ := s_let R2 hk2
      have FF : Fl zc zc3 := (F1.l.tr F2).tr F3.l
      have P3 : pb (b + 1) zc3 := F3.p (P2 b (F1.p hb))
      simp only [opt_, b1, b2, bd_some, c1, c2, d1, m_ended, d2]
      by_cases ht : t = 0
      · have e0 : en_ t i = 0 := (en_0 hi8).mpr ht
        rw [e0, if_pos ht, nI_1]
        obtain ⟨t', zd, zn, g1, g2, g3, g4, g5⟩ := ih (i + 1) (by omega) fc fm (b + 1) zc3 zm3 (by omega) (by omega) R3 (by rw [FF.2.2.2]; exact hlen) P3
        exact ⟨t', zd, zn, g1, g2, FF.tr g3, g4.mono (by omega), g5⟩
      · have e0 : ¬ en_ t i = 0 := fun q => ht ((en_0 hi8).mp q)
        obtain ⟨fm, rfl⟩ : ∃ q, fm = q + 1 := ⟨fm - 1, by omega⟩
        rw [if_neg ht, c_answer hi8, bd_some, m_alone_stop _ hr e0]
        exact ⟨en_ t i, zc3, zm3, rfl, R3, FF, P3.mono (by omega), Or.inr ⟨e0, rfl⟩⟩
theorem s_goAlone1 {n r : Nat} (hr : r < 6) (v : Int32) {zc : SC} {zm : SM} (h : Rl n zc zm) (hb : pb 0 zc) : Rn n 100 zc (fX1_goAlone zc (nI r) v 1) (fX2_alone zm (nI r) v) := by
  obtain ⟨j, hj, e, -⟩ := len_of h hr
  obtain ⟨t, zd, zn, g1, g2, g3, g4, g5⟩ := s_alone hr v (fX1_goAlone_j3 19) 1 0 hj j 0 (by omega) 20 20 0 zc zm (by omega) (by omega) h e hb
  refine ⟨t, zd, zn, g1, ?_, g2, g3, g4.mono (by omega)⟩
  have e1 : fX1_goAlone zc (nI r) v 1 = fX1_goAlone_j12 (fX1_goAlone_j3 19) 20 zc (nI r) v 1 0 (nI 0) := by
    rw [fX1_goAlone, fX1_goAlone_j3, if_neg (by decide)]; rfl
  rw [e1]
  rcases g5 with ⟨rfl, g⟩ | ⟨-, g⟩
  · rw [g, fX1_goAlone_j3, if_pos (by decide)]; rfl
  · exact g
theorem s_round {n r : Nat} (hr : r < 6) (v : Int32) :
    ∀ (d i : Nat), i + d = 10 → ∀ (fc fm b : Nat) (zc : SC) (zm : SM), d < fc → d + 1 < fm → Rl n zc zm → pb b zc → Rn n (b + 8 * d) zc (fX1_goAlone_j3 fc zc (nI r) v 10 (nI i)) (fX2_round_j5 fm zm (nI r) v 0 (nI i)) := by
  intro d
  induction d with
  | zero =>
    intro i hi fc fm b zc zm hfc hfm h hb
    obtain ⟨fc, rfl⟩ : ∃ q, fc = q + 1 := ⟨fc - 1, by omega⟩
    obtain ⟨fm, rfl⟩ : ∃ q, fm = q + 1 := ⟨fm - 1, by omega⟩
    have hi : i = 10 := by omega
    subst hi
    rw [fX1_goAlone_j3, fX2_round_j5, if_pos (by decide), if_pos (by decide)]
    exact ⟨0, zc, zm, rfl, rfl, h, Fl.rf, hb⟩
  | succ d ih =>
    intro i hi fc fm b zc zm hfc hfm h hb
    obtain ⟨fc, rfl⟩ : ∃ q, fc = q + 1 := ⟨fc - 1, by omega⟩
    obtain ⟨fm, rfl⟩ : ∃ q, fm = q + 1 := ⟨fm - 1, by omega⟩
    have hnl : ¬ (10 : Int32) ≤ nI i := nI_ge (b := 10) (by omega) (by omega)
    obtain ⟨j, hj, e, -⟩ := len_of h hr
    rw [fX1_goAlone_j3, fX2_round_j5, if_neg hnl, if_neg hnl, if_pos rfl]
    obtain ⟨t, zd, zn, g1, g2, g3, g4, g5⟩ := s_alone hr v (fX1_goAlone_j3 fc) 10 (nI i) hj j 0 (by omega) 20 20 b zc zm (by omega) (by omega) h e hb
    have e2 : fX2_alone zm (nI r) v = some (t, zn) := g1
    rw [e2, bd_some, nI_1]
    rw [nI_1] at g5
    rcases g5 with ⟨rfl, g⟩ | ⟨ht, g⟩
    · have g' : fX1_goAlone_j12 (fX1_goAlone_j3 fc) 20 zc (nI r) v 10 (nI i) 0 = _ := g
      rw [g']
      obtain ⟨t', zd', zn', a1, a2, a3, a4, a5⟩ := ih (i + 1) (by omega) fc fm (b + j) zd zn (by omega) (by omega) g2 g4
      exact ⟨t', zd', zn', a1, a2, a3, g3.tr a4, a5.mono (by omega)⟩
    · have g' : fX1_goAlone_j12 (fX1_goAlone_j3 fc) 20 zc (nI r) v 10 (nI i) 0 = _ := g
      rw [g']
      obtain ⟨fm, rfl⟩ : ∃ q, fm = q + 1 := ⟨fm - 1, by omega⟩
      refine ⟨t, zd, zn, ?_, rfl, g2, g3, g4.mono (by omega)⟩
      rw [fX2_round_j5, if_neg ht]
      by_cases hq : (10 : Int32) ≤ nI (i + 1)
      · rw [if_pos hq]
      · rw [if_neg hq]
theorem s_goRound {n r : Nat} (hr : r < 6) (v : Int32) {zc : SC} {zm : SM} (h : Rl n zc zm) (hb : pb 0 zc) : Rn n 100 zc (fX1_goAlone zc (nI r) v 10) (fX2_round zm (nI r) v) := by
  obtain ⟨t, zd, zn, a1, a2, a3, a4, a5⟩ := s_round hr v 10 0 (by omega) 20 20 0 zc zm (by omega) (by omega) h hb
  exact ⟨t, zd, zn, a1, a2, a3, a4, a5.mono (by omega)⟩
