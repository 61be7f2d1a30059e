/-! ===== two by two, the first, all ===== -/
theorem m_two_stop {zm : SM} {r : Nat} {v t : Int32} (y : Int32) (hr : r < 6) (ht : ¬ t = 0) (f : Nat) : fX2_twoByTwo_j5 (f + 1) zm (nI r) v t y = some (t, zm) := by
  have hin := nI_in hr (by omega)
  rw [fX2_twoByTwo_j5, if_neg hin]
  simp only [let_]
  by_cases h : zm.2.2.2.1 (nI r).toNatClampNeg ≤ y
  · rw [if_pos h]
  · rw [if_neg h, if_neg ht]
/-- between the claim of the section and its letting: both come to one told number -/
theorem s_two_mid {n r i : Nat} (hr : r < 6) (v : Int32) {j : Nat} (hj : j ≤ 8) (hi : i < j) (K2 : SC → Int32 → Int32 → Int32 → Option (Int32 × SC)) (K5 : SM → Int32 → Int32 → Int32 → Int32 → Option (Int32 × SM)) {zc : SC} {zm : SM} {k x b : Nat} (h : Rl n zc zm) (hk : zc.2.1[k]? = some x) (hb : pb b zc) :
    ∃ t zd zn, (if nI i + 1 = nI j then fX1_goTwoByTwo_j51 K2 zc (nI r) v (nI i) x 1 else fX1_goTwoByTwo_j51 K2 zc (nI r) v (nI i) x 0) = fX1_goTwoByTwo_j119 K2 zd (nI r) v (nI i) x t ∧ (if nI j ≤ nI i + 1 then fX2_twoByTwo_j61 K5 zm (nI r) v (nI i) (nI k) 0 else fX2_twoByTwo_j61 K5 zm (nI r) v (nI i) (nI k) 1) = fX2_twoByTwo_j134 K5 zn (nI r) v (en_ t i) (nI i) (nI k) ∧ Rl n zd zn ∧ Fl zc zd ∧ pb (b + 1) zd := by
  rw [nI_1]
  by_cases hl : i + 1 = j
  · rw [if_pos (by rw [hl]), if_pos (nI_le (by omega) (by omega))]
    unfold fX1_goTwoByTwo_j51 fX2_twoByTwo_j61 fX2_twoByTwo_j81 fX2_twoByTwo_j99 fX2_twoByTwo_j110
    rw [if_neg (by decide), if_neg (by decide), if_pos rfl, if_pos rfl, if_pos rfl]
    obtain ⟨t, zd, zn, c1, c2, R2, F2, P2⟩ := s_pass h hk v
    simp only [c1, c2, bd_some, m_ended, if_true]
    exact ⟨t, zd, zn, rfl, rfl, R2, F2, P2 b hb⟩
  · rw [if_neg (fun q => hl ((nI_eq (by omega) (by omega)).mp q)), if_neg (nI_ge (by omega) (by omega))]
    unfold fX1_goTwoByTwo_j51 fX2_twoByTwo_j61
    rw [if_pos rfl, if_neg (by decide), nI_1]
    rcases s_sec h hr (i := i + 1) (by omega) with ⟨a1, a2⟩ | ⟨k2, x2, hk2, a1, a2⟩
    · rw [a1, a2, bd_some, bd_some]
      simp only [opt_, if_true]
      unfold fX2_twoByTwo_j81
      rw [if_neg (by decide), if_neg (by decide)]
      exact ⟨-11, zc, zm, rfl, rfl, h, Fl.rf, hb.mono (by omega)⟩
    · rw [a1, a2, bd_some, bd_some]
      simp only [opt_]
      unfold fX2_twoByTwo_j81 fX2_twoByTwo_j99 fX2_twoByTwo_j110
      rw [if_neg (by decide), if_pos (nI_pos' (by have := h.lt hk2; omega)), if_neg (by decide)]
      obtain ⟨zc1, zm1, b1, b2, R1, F1⟩ := s_claim h hk2
      have hk1 := F1.at hk
      obtain ⟨t, zc2, zm2, c1, c2, R2, F2, P2⟩ := s_pass R1 hk1 v
      obtain ⟨zc3, zm3, d1, d2, R3, F3⟩ := s_let R2 (F2.at (F1.at hk2))
      simp only [b1, b2, bd_some, c1, c2, m_ended, d1]
      rw [if_neg (by decide), d2, bd_some]
      exact ⟨t, zc3, zm3, rfl, rfl, R3, (F1.l.tr F2).tr F3.l, F3.p (P2 b (F1.p hb))⟩
theorem s_two {n r : Nat} (hr : r < 6) (v : Int32) {j : Nat} (hj : j ≤ 8) :
    ∀ (d i : Nat), i + d = j → ∀ (fc fm b : Nat) (zc : SC) (zm : SM), d < fc → d + 1 < fm → Rl n zc zm → zc.2.2.2.2.1 r = nI j → pb b zc → Rn n (b + d) zc (fX1_goTwoByTwo_j2 fc zc (nI r) v (nI i)) (fX2_twoByTwo_j5 fm zm (nI r) v 0 (nI i)) := by
  have hin := nI_in (c := r) (N := 6) hr (by omega)
  have cl := nI_clamp (n := r) (by omega)
  intro d
  induction d with
  | zero =>
    intro i hi fc fm b zc zm hfc hfm h hlen hb
    have hlm : zm.2.2.2.1 r = nI j := by rw [← h.1]; exact hlen
    obtain ⟨fc, rfl⟩ : ∃ q, fc = q + 1 := ⟨fc - 1, by omega⟩
    obtain ⟨fm, rfl⟩ : ∃ q, fm = q + 1 := ⟨fm - 1, by omega⟩
    have hle : nI j ≤ nI i := nI_le (by omega) (by omega)
    rw [fX1_goTwoByTwo_j2, fX2_twoByTwo_j5, if_neg hin, if_neg hin]
    simp only [let_]
    rw [cl, hlm, hlen, if_pos hle, if_pos hle]
    exact ⟨0, zc, zm, rfl, rfl, h, Fl.rf, hb⟩
  | succ d ih =>
    intro i hi fc fm b zc zm hfc hfm h hlen hb
    have hlm : zm.2.2.2.1 r = nI j := by rw [← h.1]; exact hlen
    obtain ⟨fc, rfl⟩ : ∃ q, fc = q + 1 := ⟨fc - 1, by omega⟩
    obtain ⟨fm, rfl⟩ : ∃ q, fm = q + 1 := ⟨fm - 1, by omega⟩
    have hnl : ¬ nI j ≤ nI i := nI_ge (by omega) (by omega)
    have hi8 : i < 8 := by omega
    rw [fX1_goTwoByTwo_j2, fX2_twoByTwo_j5, if_neg hin, if_neg hin]
    simp only [let_]
    rw [cl, hlm, hlen, if_neg hnl, if_neg hnl, if_pos trivial]
    rcases s_sec h hr hi8 with ⟨a1, a2⟩ | ⟨k, x, hk, a1, a2⟩
    · rw [a1, a2, bd_some, bd_some, if_neg (by decide)]
      exact ⟨-11, zc, zm, rfl, rfl, h, Fl.rf, hb.mono (by omega)⟩
    · rw [a1, a2, bd_some, bd_some, if_pos (nI_pos' (by have := h.lt hk; omega))]
      obtain ⟨zc1, zm1, b1, b2, R1, F1⟩ := s_claim h hk
      have hk1 := F1.at hk
      have hl1 : zc1.2.2.2.2.1 r = nI j := by rw [F1.2.2.2.1]; exact hlen
      have hm1 : zm1.2.2.2.1 r = nI j := by rw [← R1.1]; exact hl1
      rw [cl] at hin
      simp only [opt_, b1, b2, bd_some, if_neg hin, hl1, hm1]
      obtain ⟨t, zd, zn, m1, m2, R2, F2, P2⟩ := s_two_mid hr v hj (by omega) (fX1_goTwoByTwo_j2 fc) (fX2_twoByTwo_j5 fm) R1 hk1 (F1.p hb) (i := i)
      rw [m1, m2]
      unfold fX1_goTwoByTwo_j119 fX2_twoByTwo_j134
      obtain ⟨zc3, zm3, d1, d2, R3, F3⟩ := s_let R2 (F2.at hk1)
      have FF : Fl zc zc3 := (F1.l.tr F2).tr F3.l
      have P3 : pb (b + 1) zc3 := F3.p P2
      rw [d1, d2, bd_some, bd_some, nI_1]
      by_cases ht : t = 0
      · have e0 : en_ t i = 0 := (en_0 hi8).mpr ht
        rw [e0, if_pos ht]
        obtain ⟨t', zd', zn', g1, g2, g3, g4, g5⟩ := ih (i + 1) (by omega) fc fm (b + 1) zc3 zm3 (by omega) (by omega) R3 (by rw [FF.2.2.2]; exact hlen) P3
        exact ⟨t', zd', zn', g1, g2, g3, FF.tr g4, g5.mono (by omega)⟩
      · have e0 : ¬ en_ t i = 0 := fun q => ht ((en_0 hi8).mp q)
        obtain ⟨fm, rfl⟩ : ∃ q, fm = q + 1 := ⟨fm - 1, by omega⟩
        rw [if_neg ht, c_answer hi8, bd_some, m_two_stop _ hr e0]
        exact ⟨en_ t i, zc3, zm3, rfl, rfl, R3, FF, P3.mono (by omega)⟩
theorem s_goTwo {n r : Nat} (hr : r < 6) (v : Int32) {zc : SC} {zm : SM} (h : Rl n zc zm) (hb : pb 0 zc) : Rn n 100 zc (fX1_goTwoByTwo zc (nI r) v) (fX2_twoByTwo zm (nI r) v) := by
  obtain ⟨j, hj, e, -⟩ := len_of h hr
  obtain ⟨t, zd, zn, a1, a2, a3, a4, a5⟩ := s_two hr v hj j 0 (by omega) 20 20 0 zc zm (by omega) (by omega) h e hb
  exact ⟨t, zd, zn, a1, a2, a3, a4, a5.mono (by omega)⟩
theorem s_first {n r : Nat} (hr : r < 6) (v : Int32) {j : Nat} (hj : j ≤ 8) :
    ∀ (d i : Nat), i + d = j → ∀ (fc fm b : Nat) (zc : SC) (zm : SM), d < fc → d < fm → Rl n zc zm → zc.2.2.2.2.1 r = nI j → pb b zc → Rn n (b + 1) zc (fX1_goFirst_j2 fc zc (nI r) v (nI i)) (fX2_first_j2 fm zm (nI r) v (nI i)) := by
  have hin := nI_in (c := r) (N := 6) hr (by omega)
  have cl := nI_clamp (n := r) (by omega)
  intro d
  induction d with
  | zero =>
    intro i hi fc fm b zc zm hfc hfm h hlen hb
    have hlm : zm.2.2.2.1 r = nI j := by rw [← h.1]; exact hlen
    obtain ⟨fc, rfl⟩ : ∃ q, fc = q + 1 := ⟨fc - 1, by omega⟩
    obtain ⟨fm, rfl⟩ : ∃ q, fm = q + 1 := ⟨fm - 1, by omega⟩
    have hle : nI j ≤ nI i := nI_le (by omega) (by omega)
    rw [fX1_goFirst_j2, fX2_first_j2, if_neg hin, if_neg hin]
    simp only [let_]
    rw [cl, hlm, hlen, if_pos hle, if_pos hle]
    exact ⟨0, zc, zm, rfl, rfl, h, Fl.rf, hb.mono (by omega)⟩
  | succ d ih =>
    intro i hi fc fm b zc zm hfc hfm h hlen hb
    have hlm : zm.2.2.2.1 r = nI j := by rw [← h.1]; exact hlen
    obtain ⟨fc, rfl⟩ : ∃ q, fc = q + 1 := ⟨fc - 1, by omega⟩
    obtain ⟨fm, rfl⟩ : ∃ q, fm = q + 1 := ⟨fm - 1, by omega⟩
    have hnl : ¬ nI j ≤ nI i := nI_ge (by omega) (by omega)
    have hi8 : i < 8 := by omega
    rw [fX1_goFirst_j2, fX2_first_j2, if_neg hin, if_neg hin]
    simp only [let_]
    rw [cl, hlm, hlen, if_neg hnl, if_neg hnl]
    rcases s_sec h hr hi8 with ⟨a1, a2⟩ | ⟨k, x, hk, a1, a2⟩
    · rw [a1, a2, bd_some, bd_some, if_neg (by decide)]
      unfold fX1_goFirst_j95 fX2_first_j110
      simp only [opt_]
      rw [nI_1]
      exact ih (i + 1) (by omega) fc fm b zc zm (by omega) (by omega) h hlen hb
    · rw [a1, a2, bd_some, bd_some, if_pos (nI_pos' (by have := h.lt hk; omega))]
      obtain ⟨zc1, zm1, b1, b2, R1, F1⟩ := s_claim h hk
      have hk1 := F1.at hk
      obtain ⟨q0, -, q⟩ := R1.2.2.1 k x hk1
      have q2 := q 2 (by omega) (by omega)
      have q4 := q 4 (by omega) (by omega)
      have q5 := q 5 (by omega) (by omega)
      have hx := Rl.mem hk1
      have hc := nI_in (h.lt hk) (by omega)
      have e := nI_clamp (n := k) (by have := h.lt hk; omega)
      rw [e] at hc
      simp only [opt_, b1, b2, bd_some, if_pos hx, c_room hx, e, if_neg hc, q2, q4, q5]
      have skip : ∀ zc' : SC, ∀ zm' : SM, Rl n zc' zm' → Fl zc zc' → pb b zc' → zc'.2.1[k]? = some x → Rn n (b + 1) zc (fX1_goFirst_j55 (fX1_goFirst_j2 fc) zc' (nI r) v (nI i) x) (fX2_first_j71 (fX2_first_j2 fm) zm' (nI r) v (nI i) (nI k)) := by
        intro zc' zm' R' F' P' hk'
        unfold fX1_goFirst_j55 fX1_goFirst_j56 fX1_goFirst_j74 fX1_goFirst_j95 fX2_first_j71 fX2_first_j72 fX2_first_j94 fX2_first_j110
        obtain ⟨zc3, zm3, d1, d2, R3, F3⟩ := s_let R' hk'
        rw [if_pos rfl, if_pos rfl, d1, d2, bd_some, bd_some, if_pos rfl, if_pos rfl, nI_1]
        obtain ⟨t', zd', zn', g1, g2, g3, g4, g5⟩ := ih (i + 1) (by omega) fc fm b zc3 zm3 (by omega) (by omega) R3 (by rw [F3.2.2.2.1, F'.2.2.2]; exact hlen) (F3.p P')
        exact ⟨t', zd', zn', g1, g2, g3, (F'.tr F3.l).tr g4, g5⟩
      by_cases hl : 0 < lg_cmp ((zm1.1 4 k).toInt64 + v.toInt64) (zm1.1 2 k).toInt64
      · simp only [if_pos hl, if_true]
        exact skip zc1 zm1 R1 F1.l (F1.p hb) hk1
      · simp only [if_neg hl]
        rw [if_neg (by decide)]
        by_cases h5 : zm1.1 5 k = 0
        · rw [if_pos h5, if_pos h5]
          unfold fX1_goFirst_j56 fX1_goFirst_j74 fX2_first_j72 fX2_first_j94
          obtain ⟨t, zc2, zm2, c1, c2, R2, F2, P2⟩ := s_pass R1 hk1 v
          obtain ⟨zc3, zm3, d1, d2, R3, F3⟩ := s_let R2 (F2.at hk1)
          rw [if_neg (by decide), if_neg (by decide), c1, c2, bd_some, bd_some, m_ended, bd_some, d1, d2, bd_some, bd_some, if_neg (by decide), if_neg (by decide), c_answer hi8, bd_some]
          exact ⟨en_ t i, zc3, zm3, rfl, rfl, R3, (F1.l.tr F2).tr F3.l, F3.p (P2 b (F1.p hb))⟩
        · rw [if_neg h5, if_neg h5]
          exact skip zc1 zm1 R1 F1.l (F1.p hb) hk1
theorem s_goFirst {n r : Nat} (hr : r < 6) (v : Int32) {zc : SC} {zm : SM} (h : Rl n zc zm) (hb : pb 0 zc) : Rn n 100 zc (fX1_goFirst zc (nI r) v) (fX2_first zm (nI r) v) := by
  obtain ⟨j, hj, e, -⟩ := len_of h hr
  obtain ⟨t, zd, zn, a1, a2, a3, a4, a5⟩ := s_first hr v hj j 0 (by omega) 20 20 0 zc zm (by omega) (by omega) h e hb
  exact ⟨t, zd, zn, a1, a2, a3, a4, a5.mono (by omega)⟩
