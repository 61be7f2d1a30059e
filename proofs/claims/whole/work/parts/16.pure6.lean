/-! ===== the public calls beside the reference's ===== -/
theorem ne10 : ¬ (1 : Int32) = 0 := by decide
theorem lt_of_sle {x : Int32} {N : Nat} (hN : N < 2 ^ 30) (h : nI (N + 1) ≤ x) : nI N < x := by
  have h1 := Int32.le_iff_toInt_le.mp h
  rw [nI_toInt (by omega)] at h1
  exact Int32.lt_iff_toInt_lt.mpr (by rw [nI_toInt (by omega)]; omega)
theorem sle_of_lt {x : Int32} {N : Nat} (hN : N < 2 ^ 30) (h : nI N < x) : nI (N + 1) ≤ x := by
  have h1 := Int32.lt_iff_toInt_lt.mp h
  rw [nI_toInt (by omega)] at h1
  exact Int32.le_iff_toInt_le.mpr (by rw [nI_toInt (by omega)]; omega)
theorem in_cases (x : Int32) (N : Nat) (hN : N < 2 ^ 30) : ((x < 0 ∨ (¬ x < 0 ∧ nI N < x)) ∧ ∀ zm, fX2_in zm x 0 (nI N) = some (0, zm)) ∨ ∃ j, j ≤ N ∧ x = nI j ∧ ∀ zm, fX2_in zm x 0 (nI N) = some (1, zm) := by
  by_cases h0 : x < 0
  · left
    exact ⟨Or.inl h0, fun zm => by unfold fX2_in; rw [if_pos h0]⟩
  · rcases pk_ix x (n := N + 1) (by omega) with h | h | ⟨j, hj, e⟩
    · exact absurd h h0
    · left
      have h1 := lt_of_sle hN h
      exact ⟨Or.inr ⟨h0, h1⟩, fun zm => by unfold fX2_in; rw [if_neg h0, if_pos h1]⟩
    · right
      refine ⟨j, by omega, e, fun zm => ?_⟩
      unfold fX2_in
      rw [if_neg h0, if_neg (by rw [e]; exact nI_nlt (by omega) (by omega))]
theorem pl_cases (x : Int32) : (∀ zc zm, fX1_isPlace zc x = some (0, zc) ∧ fX2_isPlace zm x = some (0, zm)) ∨ ∃ p, p < 12 ∧ x = nI p ∧ ∀ zc zm, fX1_isPlace zc x = some (1, zc) ∧ fX2_isPlace zm x = some (1, zm) := by
  rcases in_cases x 11 (by omega) with ⟨h, g⟩ | ⟨j, hj, e, g⟩
  · left
    intro zc zm
    refine ⟨?_, ?_⟩
    · unfold fX1_isPlace
      rcases h with h | ⟨h, h1⟩
      · rw [if_pos h]
      · rw [if_neg h, if_pos (show (12 : Int32) ≤ x from sle_of_lt (N := 11) (by omega) h1)]
    · unfold fX2_isPlace
      rw [show fX2_in zm x 0 11 = some (0, zm) from g zm, bd_some, if_pos (by decide)]
  · right
    refine ⟨j, by omega, e, fun zc zm => ⟨?_, ?_⟩⟩
    · unfold fX1_isPlace
      rw [e, if_neg (nI_pos (by omega)), if_neg (show ¬ (12 : Int32) ≤ nI j from nI_ge (b := 12) (by omega) (by omega))]
    · unfold fX2_isPlace
      rw [show fX2_in zm x 0 11 = some (1, zm) from g zm, bd_some, if_pos (by decide)]
theorem ro_cases (x : Int32) : (∀ zc zm, fX1_isRoute zc x = some (0, zc) ∧ fX2_isRoute zm x = some (0, zm)) ∨ ∃ p, p < 6 ∧ x = nI p ∧ ∀ zc zm, fX1_isRoute zc x = some (1, zc) ∧ fX2_isRoute zm x = some (1, zm) := by
  rcases in_cases x 5 (by omega) with ⟨h, g⟩ | ⟨j, hj, e, g⟩
  · left
    intro zc zm
    refine ⟨?_, ?_⟩
    · unfold fX1_isRoute
      rcases h with h | ⟨h, h1⟩
      · rw [if_pos h]
      · rw [if_neg h, if_pos (show (6 : Int32) ≤ x from sle_of_lt (N := 5) (by omega) h1)]
    · unfold fX2_isRoute
      rw [show fX2_in zm x 0 5 = some (0, zm) from g zm, bd_some, if_pos (by decide)]
  · right
    refine ⟨j, by omega, e, fun zc zm => ⟨?_, ?_⟩⟩
    · unfold fX1_isRoute
      rw [e, if_neg (nI_pos (by omega)), if_neg (show ¬ (6 : Int32) ≤ nI j from nI_ge (b := 6) (by omega) (by omega))]
    · unfold fX2_isRoute
      rw [show fX2_in zm x 0 5 = some (1, zm) from g zm, bd_some, if_pos (by decide)]
theorem ax_cases (x : Int32) : (∀ zc zm, fX1_isAxles zc x = some (0, zc) ∧ fX2_in zm x 0 1000 = some (0, zm)) ∨ ∀ zc zm, fX1_isAxles zc x = some (1, zc) ∧ fX2_in zm x 0 1000 = some (1, zm) := by
  rcases in_cases x 1000 (by omega) with ⟨h, g⟩ | ⟨j, hj, e, g⟩
  · left
    intro zc zm
    refine ⟨?_, g zm⟩
    unfold fX1_isAxles
    rcases h with h | ⟨h, h1⟩
    · rw [if_pos h]
    · rw [if_neg h, if_pos (show (1000 : Int32) < x from h1)]
  · right
    intro zc zm
    refine ⟨?_, g zm⟩
    unfold fX1_isAxles
    rw [e, if_neg (nI_pos (by omega)), if_neg (show ¬ (1000 : Int32) < nI j from nI_nlt (a := 1000) (by omega) (by omega))]
def Sm (n : Nat) (oc : Option (Int32 × SC)) (om : Option (Int32 × SM)) : Prop := ∃ r zd zn, oc = some (r, zd) ∧ om = some (r, zn) ∧ Rl n zd zn
def Ro (zc : SC) (o : Option Nat) (a : Int32) : Prop := (o = none ∧ a = -1) ∨ ∃ k x, zc.2.1[k]? = some x ∧ o = some x ∧ a = nI k
theorem Rl.place {n : Nat} {zc : SC} {zm : SM} (h : Rl n zc zm) (q : Nat) {o : Option Nat} {a : Int32} (ho : Ro zc o a) : Rl n (zc.1, zc.2.1, va_up zc.2.2.1 q o, zc.2.2.2) (zm.1, upd zm.2.1 q a, zm.2.2) := by
  obtain ⟨h1, h2, h3, h4, h5, h6⟩ := h
  refine ⟨h1, h2, h3, ?_, h5, h6⟩
  intro p hp
  show (va_up zc.2.2.1 q o p = none ∧ upd zm.2.1 q a p = -1) ∨ ∃ k x, zc.2.1[k]? = some x ∧ va_up zc.2.2.1 q o p = some x ∧ upd zm.2.1 q a p = nI k
  by_cases hq : p = q
  · subst hq
    rw [va_up_self, pk_us]; exact ho
  · rw [va_up_ne _ _ hq, pk_un hq]; exact h4 p hp
theorem Rl.at {n : Nat} {zc : SC} {zm : SM} (h : Rl n zc zm) {p : Nat} (hp : p < 12) : Ro zc (zc.2.2.1 p) (zm.2.1 p) := h.2.2.2.1 p hp
theorem t_share {n : Nat} {zc : SC} {zm : SM} (h : Rl n zc zm) (x y : Int32) : Sm n (fX1_share zc x y) (fX2_share zm x y) := by
  unfold fX1_share fX2_share
  rcases pl_cases x with g | ⟨p, hp, e, g⟩
  · rw [(g zc zm).1, (g zc zm).2, bd_some, bd_some, if_pos rfl, if_pos rfl]
    exact ⟨-1, zc, zm, rfl, rfl, h⟩
  · rw [(g zc zm).1, (g zc zm).2, bd_some, bd_some, if_neg ne10, if_neg ne10]
    rcases pl_cases y with g2 | ⟨q, hq, e2, g2⟩
    · rw [(g2 zc zm).1, (g2 zc zm).2, bd_some, bd_some, if_pos rfl, if_pos rfl]
      exact ⟨-1, zc, zm, rfl, rfl, h⟩
    · rw [(g2 zc zm).1, (g2 zc zm).2, bd_some, bd_some, if_neg ne10, if_neg ne10]
      subst e; subst e2
      have cp := nI_clamp (n := p) (by omega)
      have cq := nI_clamp (n := q) (by omega)
      have ip := nI_in (c := p) (N := 12) hp (by omega)
      have iq := nI_in (c := q) (N := 12) hq (by omega)
      rw [cp] at ip
      rw [cq] at iq
      simp only [let_, cp, cq, if_neg ip, if_neg iq, va_up_self, pk_us]
      have R := h.place q (h.at hp)
      rcases h.at hp with ⟨a, b⟩ | ⟨k, w, hk, a, b⟩
      · rw [a, b] at R ⊢
        simp only [opt_]
        rw [if_neg (by decide)]
        exact ⟨0, _, _, rfl, rfl, R⟩
      · rw [a, b] at R ⊢
        simp only [opt_, if_pos (Rl.mem hk)]
        rw [if_pos (nI_pos' (by have := h.lt hk; omega))]
        exact ⟨1, _, _, rfl, rfl, R⟩
theorem t_remove {n : Nat} {zc : SC} {zm : SM} (h : Rl n zc zm) (x : Int32) : Sm n (fX1_remove zc x) (fX2_remove zm x) := by
  unfold fX1_remove fX2_remove fX1_remove_j23 fX2_remove_j23
  rcases pl_cases x with g | ⟨p, hp, e, g⟩
  · rw [(g zc zm).1, (g zc zm).2, bd_some, bd_some, if_pos rfl, if_pos rfl]
    exact ⟨-1, zc, zm, rfl, rfl, h⟩
  · rw [(g zc zm).1, (g zc zm).2, bd_some, bd_some, if_neg ne10, if_neg ne10]
    subst e
    have cp := nI_clamp (n := p) (by omega)
    have ip := nI_in (c := p) (N := 12) hp (by omega)
    rw [cp] at ip
    simp only [let_, cp, if_neg ip]
    have R := h.place p (o := none) (a := -1) (Or.inl ⟨rfl, rfl⟩)
    rcases h.at hp with ⟨a, b⟩ | ⟨k, w, hk, a, b⟩
    · rw [a, b, if_neg (by decide)]
      exact ⟨0, _, _, rfl, rfl, R⟩
    · rw [a, b, if_pos (nI_pos' (by have := h.lt hk; omega))]
      exact ⟨1, _, _, rfl, rfl, R⟩
theorem nI_nm1 {k : Nat} (hk : k < 640) : ¬ nI k = -1 := fun e => absurd (show nI k < 0 by rw [e]; decide) (nI_pos (by omega))
theorem t_same {n : Nat} {zc : SC} {zm : SM} (h : Rl n zc zm) (x y : Int32) : Sm n (fX1_same zc x y) (fX2_same zm x y) := by
  unfold fX1_same fX2_same
  rcases pl_cases x with g | ⟨p, hp, e, g⟩
  · rw [(g zc zm).1, (g zc zm).2, bd_some, bd_some, if_pos rfl, if_pos rfl]
    exact ⟨-1, zc, zm, rfl, rfl, h⟩
  · rw [(g zc zm).1, (g zc zm).2, bd_some, bd_some, if_neg ne10, if_neg ne10]
    rcases pl_cases y with g2 | ⟨q, hq, e2, g2⟩
    · rw [(g2 zc zm).1, (g2 zc zm).2, bd_some, bd_some, if_pos rfl, if_pos rfl]
      exact ⟨-1, zc, zm, rfl, rfl, h⟩
    · rw [(g2 zc zm).1, (g2 zc zm).2, bd_some, bd_some, if_neg ne10, if_neg ne10]
      subst e; subst e2
      have cp := nI_clamp (n := p) (by omega)
      have cq := nI_clamp (n := q) (by omega)
      have ip := nI_in (c := p) (N := 12) hp (by omega)
      have iq := nI_in (c := q) (N := 12) hq (by omega)
      rw [cp] at ip
      rw [cq] at iq
      simp only [let_, cp, cq, if_neg ip, if_neg iq]
      rcases h.at hp with ⟨a, b⟩ | ⟨k, w, hk, a, b⟩
      · rcases h.at hq with ⟨a', b'⟩ | ⟨k', w', hk', a', b'⟩
        · rw [a, b, a', b']
          exact ⟨1, zc, zm, rfl, rfl, h⟩
        · rw [a, b, a', b', if_neg (show ¬ (-1 : Int32) = nI k' from fun e => nI_nm1 (h.lt hk') e.symm)]
          exact ⟨0, zc, zm, rfl, rfl, h⟩
      · rcases h.at hq with ⟨a', b'⟩ | ⟨k', w', hk', a', b'⟩
        · rw [a, b, a', b', if_neg (nI_nm1 (h.lt hk))]
          exact ⟨0, zc, zm, rfl, rfl, h⟩
        · rw [a, b, a', b']
          simp only [opt_]
          by_cases hw : w = w'
          · subst hw
            have hkk := h.2.1.2.2 k k' w hk hk'
            subst hkk
            rw [if_pos rfl, if_pos rfl]
            exact ⟨1, zc, zm, rfl, rfl, h⟩
          · rw [if_neg (fun e => hw (Option.some.inj e)), if_neg (fun e => hw (by
              have e2 := (nI_eq (by have := h.lt hk; omega) (by have := h.lt hk'; omega)).mp e
              subst e2
              exact Option.some.inj (hk.symm.trans hk')))]
            exact ⟨0, zc, zm, rfl, rfl, h⟩
theorem t_lead {n : Nat} {zc : SC} {zm : SM} (h : Rl n zc zm) (x y : Int32) : Sm n (fX1_lead zc x y) (fX2_lead zm x y) := by
  unfold fX1_lead fX2_lead
  rcases ro_cases x with g | ⟨r, hr, e, g⟩
  · rw [(g zc zm).1, (g zc zm).2, bd_some, bd_some, if_pos rfl, if_pos rfl]
    exact ⟨-1, zc, zm, rfl, rfl, h⟩
  · rw [(g zc zm).1, (g zc zm).2, bd_some, bd_some, if_neg ne10, if_neg ne10]
    rcases pl_cases y with g2 | ⟨q, hq, e2, g2⟩
    · rw [(g2 zc zm).1, (g2 zc zm).2, bd_some, bd_some, if_pos rfl, if_pos rfl]
      exact ⟨-1, zc, zm, rfl, rfl, h⟩
    · rw [(g2 zc zm).1, (g2 zc zm).2, bd_some, bd_some, if_neg ne10, if_neg ne10]
      subst e; subst e2
      have cr := nI_clamp (n := r) (by omega)
      have ir := nI_in (c := r) (N := 6) hr (by omega)
      rw [cr] at ir
      obtain ⟨j, hj, ej, em⟩ := len_of h hr
      have e1 : nI r * 8 + nI j = nI (r * 8 + j) := by rw [show (8 : Int32) = nI 8 from rfl, pk_mul, nI_add]
      have e2 : 8 * nI r + nI j = nI (r * 8 + j) := by rw [show (8 : Int32) = nI 8 from rfl, pk_mul, nI_add, Nat.mul_comm]
      have ci := nI_clamp (n := r * 8 + j) (by omega)
      simp only [let_, cr, if_neg ir, ej, em, e1, e2, ci, pk_us, nI_1]
      by_cases h8 : j = 8
      · subst h8
        rw [if_neg (by decide), if_pos (by decide)]
        exact ⟨-2, zc, zm, rfl, rfl, h⟩
      · have ii := nI_in (c := r * 8 + j) (N := 48) (by omega) (by omega)
        rw [ci] at ii
        rw [if_pos (show nI j < (8 : Int32) from nI_lt (b := 8) (by omega) (by omega)), if_neg (show ¬ nI j = (8 : Int32) from fun e => h8 ((nI_eq (b := 8) (by omega) (by omega)).mp e)), if_neg ii, if_neg ii]
        have hC : Ci (upd zc.2.2.2.1 (r * 8 + j) (nI q), upd zc.2.2.2.2.1 r (nI (j + 1)), zc.2.2.2.2.2) := by
          obtain ⟨c1, c2, c3⟩ := h.2.2.2.2.1
          refine ⟨fun i hi => ?_, fun i hi => ?_, c3⟩
          · show ∃ p, p < 12 ∧ upd zc.2.2.2.1 (r * 8 + j) (nI q) i = nI p
            by_cases hh : i = r * 8 + j
            · exact ⟨q, hq, by rw [hh, pk_us]⟩
            · rw [pk_un hh]; exact c1 i hi
          · show ∃ p, p ≤ 8 ∧ upd zc.2.2.2.2.1 r (nI (j + 1)) i = nI p
            by_cases hh : i = r
            · exact ⟨j + 1, by omega, by rw [hh, pk_us]⟩
            · rw [pk_un hh]; exact c2 i hi
        have R := h.com hC h.2.2.2.2.2
        refine ⟨nI (j + 1), _, _, rfl, rfl, ?_⟩
        have e := h.1
        rw [← e]
        exact R
theorem t_unlead {n : Nat} {zc : SC} {zm : SM} (h : Rl n zc zm) (x : Int32) : Sm n (fX1_unlead zc x) (fX2_unlead zm x) := by
  unfold fX1_unlead fX2_unlead
  rcases ro_cases x with g | ⟨r, hr, e, g⟩
  · rw [(g zc zm).1, (g zc zm).2, bd_some, bd_some, if_pos rfl, if_pos rfl]
    exact ⟨-1, zc, zm, rfl, rfl, h⟩
  · rw [(g zc zm).1, (g zc zm).2, bd_some, bd_some, if_neg ne10, if_neg ne10]
    subst e
    have cr := nI_clamp (n := r) (by omega)
    have ir := nI_in (c := r) (N := 6) hr (by omega)
    rw [cr] at ir
    obtain ⟨j, hj, ej, em⟩ := len_of h hr
    simp only [let_, cr, if_neg ir, ej, em]
    have hC : Ci (zc.2.2.2.1, upd zc.2.2.2.2.1 r 0, zc.2.2.2.2.2) := by
      obtain ⟨c1, c2, c3⟩ := h.2.2.2.2.1
      refine ⟨c1, fun i hi => ?_, c3⟩
      show ∃ p, p ≤ 8 ∧ upd zc.2.2.2.2.1 r 0 i = nI p
      by_cases hh : i = r
      · exact ⟨0, by omega, by rw [hh, pk_us]; rfl⟩
      · rw [pk_un hh]; exact c2 i hi
    have R := h.com hC h.2.2.2.2.2
    refine ⟨nI j, _, _, rfl, rfl, ?_⟩
    have e := h.1
    rw [← e]
    exact R
theorem t_passed {n : Nat} {zc : SC} {zm : SM} (h : Rl n zc zm) : Sm n (fX1_passed zc) (fX2_passed zm) := by
  unfold fX1_passed fX2_passed
  rw [← h.1]
  exact ⟨_, zc, zm, rfl, rfl, h⟩
theorem t_trace {n : Nat} {zc : SC} {zm : SM} (h : Rl n zc zm) (x : Int32) : Sm n (fX1_trace zc x) (fX2_trace zm x) := by
  unfold fX1_trace fX2_trace
  rw [← h.1]
  obtain ⟨-, -, t, ht, et⟩ := h.2.2.2.2.1
  by_cases hm : x = -1
  · rw [if_pos hm, if_pos hm]
    exact ⟨_, zc, zm, rfl, rfl, h⟩
  · rw [if_neg hm, if_neg hm, et]
    unfold fX2_in
    by_cases h0 : x < 0
    · rw [if_pos h0, if_pos h0, bd_some, if_pos rfl]
      exact ⟨_, zc, zm, rfl, rfl, h⟩
    · rw [if_neg h0, if_neg h0]
      rcases pk_ix x (n := t) (by omega) with g | g | ⟨j, hj, e⟩
      · exact absurd g h0
      · have g2 : nI t - 1 < x := by
          by_cases hz : t = 0
          · subst hz
            have h1 : ¬ x.toInt < (0 : Int32).toInt := fun q => h0 (Int32.lt_iff_toInt_lt.mpr q)
            have h2 : (nI 0 - 1).toInt = -1 := by decide
            have h3 : (0 : Int32).toInt = 0 := by decide
            exact Int32.lt_iff_toInt_lt.mpr (by rw [h2]; omega)
          · obtain ⟨u, rfl⟩ : ∃ u, t = u + 1 := ⟨t - 1, by omega⟩
            rw [nI_pred]; exact lt_of_sle (by omega) g
        rw [if_pos g, if_pos g2, bd_some, if_pos rfl]
        exact ⟨_, zc, zm, rfl, rfl, h⟩
      · have g2 : ¬ nI t - 1 < x := by
          obtain ⟨u, rfl⟩ : ∃ u, t = u + 1 := ⟨t - 1, by omega⟩
          rw [nI_pred, e]; exact nI_nlt (by omega) (by omega)
        have g3 : ¬ nI t ≤ x := by rw [e]; exact nI_ge hj (by omega)
        have ij : ¬ (x < 0 ∨ 150 ≤ x.toNatClampNeg) := by rw [e]; exact nI_in (by omega) (by omega)
        rw [if_neg g2, if_neg g3, bd_some, if_neg ne10, if_neg ij, if_neg ij]
        simp only [let_]
        rw [← h.1]
        exact ⟨_, zc, zm, rfl, rfl, h⟩
theorem t_told {n : Nat} {zc : SC} {zm : SM} (h : Rl n zc zm) (x y : Int32) : Sm n (fX1_told zc x y) (fX2_told zm x y) := by
  unfold fX1_told fX2_told
  rcases pl_cases x with g | ⟨p, hp, e, g⟩
  · rw [(g zc zm).1, (g zc zm).2, bd_some, bd_some, if_pos rfl, if_pos rfl]
    exact ⟨-1, zc, zm, rfl, rfl, h⟩
  · rw [(g zc zm).1, (g zc zm).2, bd_some, bd_some, if_neg ne10, if_neg ne10]
    subst e
    have cp := nI_clamp (n := p) (by omega)
    have ip := nI_in (c := p) (N := 12) hp (by omega)
    rw [cp] at ip
    simp only [let_, cp, if_neg ip]
    rcases h.at hp with ⟨a, b⟩ | ⟨k, w, hk, a, b⟩
    · rw [a, b, if_neg (by decide)]
      exact ⟨-1, zc, zm, rfl, rfl, h⟩
    · rw [a, b, if_pos (nI_pos' (by have := h.lt hk; omega))]
      obtain ⟨q0, -, q⟩ := h.2.2.1 k w hk
      have hw := Rl.mem hk
      have hc := nI_in (h.lt hk) (by omega)
      have ek := nI_clamp (n := k) (by have := h.lt hk; omega)
      rw [ek] at hc
      simp only [opt_, if_pos hw, ek, if_neg hc, q0, q 1 (by omega) (by omega), q 2 (by omega) (by omega), q 3 (by omega) (by omega), q 4 (by omega) (by omega), q 5 (by omega) (by omega), q 6 (by omega) (by omega), q 7 (by omega) (by omega), q 8 (by omega) (by omega)]
      by_cases c0 : y = 0
      · rw [if_pos c0, if_pos c0]; exact ⟨_, zc, zm, rfl, rfl, h⟩
      rw [if_neg c0, if_neg c0]
      by_cases c1 : y = 1
      · rw [if_pos c1, if_pos c1]; exact ⟨_, zc, zm, rfl, rfl, h⟩
      rw [if_neg c1, if_neg c1]
      by_cases c2 : y = 2
      · rw [if_pos c2, if_pos c2]; exact ⟨_, zc, zm, rfl, rfl, h⟩
      rw [if_neg c2, if_neg c2]
      by_cases c3 : y = 3
      · rw [if_pos c3, if_pos c3]; exact ⟨_, zc, zm, rfl, rfl, h⟩
      rw [if_neg c3, if_neg c3]
      by_cases c4 : y = 4
      · rw [if_pos c4, if_pos c4]; exact ⟨_, zc, zm, rfl, rfl, h⟩
      rw [if_neg c4, if_neg c4]
      by_cases c5 : y = 5
      · rw [if_pos c5, if_pos c5]; exact ⟨_, zc, zm, rfl, rfl, h⟩
      rw [if_neg c5, if_neg c5]
      by_cases c6 : y = 6
      · rw [if_pos c6, if_pos c6]; exact ⟨_, zc, zm, rfl, rfl, h⟩
      rw [if_neg c6, if_neg c6]
      by_cases c7 : y = 7
      · rw [if_pos c7, if_pos c7]; exact ⟨_, zc, zm, rfl, rfl, h⟩
      rw [if_neg c7, if_neg c7]
      by_cases c8 : y = 8
      · rw [if_pos c8, if_pos c8]; exact ⟨_, zc, zm, rfl, rfl, h⟩
      rw [if_neg c8, if_neg c8]
      exact ⟨_, zc, zm, rfl, rfl, h⟩
