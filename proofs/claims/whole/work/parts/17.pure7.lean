/-! ===== count, run, shunt, section ===== -/
def mch (x c : Int32) (zm : SM) : Option (Int32 × SM) := (if x = 0 then some (zm.2.2.2.2.2.2.1, zm) else (if x = 1 then some (c, zm) else (if x = 2 then some (zm.2.2.2.2.2.2.2.1, zm) else (if x = 3 then some (zm.2.2.2.2.2.2.2.2.1, zm) else (if x = 4 then some (zm.2.2.2.2.2.2.2.2.2.1, zm) else some ((-1), zm))))))
theorem s_cnt {n : Nat} {zc : SC} {zm : SM} (h : Rl n zc zm) (x : Int32) :
    ∀ (d i : Nat), i + d = 12 → ∀ (fc fm : Nat) (c : Int32), d < fc → d < fm → ∃ c', fX1_countStanding_j4 fc zc c (nI i) = some (c', zc) ∧ fX2_count_j23 fm zm x c (nI i) = mch x c' zm := by
  intro d
  induction d with
  | zero =>
    intro i hi fc fm c hfc hfm
    obtain ⟨fc, rfl⟩ : ∃ q, fc = q + 1 := ⟨fc - 1, by omega⟩
    obtain ⟨fm, rfl⟩ : ∃ q, fm = q + 1 := ⟨fm - 1, by omega⟩
    have hi : i = 12 := by omega
    subst hi
    rw [fX1_countStanding_j4, fX2_count_j23, if_pos (by decide), if_pos (by decide)]
    exact ⟨c, rfl, rfl⟩
  | succ d ih =>
    intro i hi fc fm c hfc hfm
    obtain ⟨fc, rfl⟩ : ∃ q, fc = q + 1 := ⟨fc - 1, by omega⟩
    obtain ⟨fm, rfl⟩ : ∃ q, fm = q + 1 := ⟨fm - 1, by omega⟩
    have hnl : ¬ (12 : Int32) ≤ nI i := nI_ge (b := 12) (by omega) (by omega)
    have ci := nI_clamp (n := i) (by omega)
    have ii := nI_in (c := i) (N := 12) (by omega) (by omega)
    rw [ci] at ii
    rw [fX1_countStanding_j4, fX2_count_j23]
    simp only [let_, if_neg hnl, ci, if_neg ii]
    rcases h.at (p := i) (by omega) with ⟨a, b⟩ | ⟨k, w, hk, a, b⟩
    · rw [a, b, if_neg (by decide)]
      simp only [opt_, fX1_countStanding_j22, fX2_count_j44, nI_1, Int32.add_zero]
      exact ih (i + 1) (by omega) fc fm c (by omega) (by omega)
    · rw [a, b, if_pos (nI_pos' (by have := h.lt hk; omega))]
      simp only [opt_, fX1_countStanding_j22, fX2_count_j44, nI_1]
      exact ih (i + 1) (by omega) fc fm (c + 1) (by omega) (by omega)
theorem t_count {n : Nat} {zc : SC} {zm : SM} (h : Rl n zc zm) (x : Int32) : Sm n (fX1_count zc x) (fX2_count zm x) := by
  have e5 : x = (x - 5) + 5 := by rw [Int32.sub_add_cancel]
  obtain ⟨c', g1, g2⟩ := s_cnt h x 12 0 (by omega) 20 20 0 (by omega) (by omega)
  have g1' : fX1_countStanding zc = some (c', zc) := g1
  have g2' : fX2_count_j23 20 zm x 0 0 = mch x c' zm := g2
  rcases ro_cases (x - 5) with g | ⟨r, hr, e, g⟩
  · have hin : fX2_in zm x 5 10 = some (0, zm) := by
      unfold fX2_in
      by_cases a : x < 5
      · rw [if_pos a]
      · by_cases b : 10 < x
        · rw [if_neg a, if_pos b]
        · exfalso
          rcases pk_ix x (n := 11) (by omega) with q | q | ⟨j, hj, q⟩
          · have h0 := Int32.lt_iff_toInt_lt.mp q
            have h1 : (0 : Int32).toInt = 0 := by decide
            have h2 : (5 : Int32).toInt = 5 := by decide
            exact a (Int32.lt_iff_toInt_lt.mpr (by omega))
          · exact b (lt_of_sle (N := 10) (by omega) q)
          · have hj5 : 5 ≤ j := by
              rcases Nat.lt_or_ge j 5 with z | z
              · exact absurd (by rw [q]; exact nI_lt (b := 5) z (by omega)) a
              · exact z
            have e6 : x - 5 = nI (j - 5) := by rw [q]; exact pk_sub (b := 5) hj5
            have hz := (g zc zm).1
            rw [e6] at hz
            unfold fX1_isRoute at hz
            rw [if_neg (nI_pos (by omega)), if_neg (show ¬ (6 : Int32) ≤ nI (j - 5) from nI_ge (b := 6) (by omega) (by omega))] at hz
            have := (o_s hz).1
            exact absurd this (by decide)
    unfold fX1_count fX2_count
    rw [hin, bd_some, if_pos rfl, g2']
    unfold mch
    rw [g1', (g zc zm).1]
    simp only [bd_some]
    rw [← h.1]
    by_cases c0 : x = 0
    · rw [if_pos c0, if_pos c0]; exact ⟨_, zc, zm, rfl, rfl, h⟩
    rw [if_neg c0, if_neg c0]
    by_cases c1 : x = 1
    · rw [if_pos c1, if_pos c1]; exact ⟨_, zc, zm, rfl, rfl, h⟩
    rw [if_neg c1, if_neg c1]
    by_cases c2 : x = 2
    · rw [if_pos c2, if_pos c2]; exact ⟨_, zc, zm, rfl, rfl, h⟩
    rw [if_neg c2, if_neg c2]
    by_cases c3 : x = 3
    · rw [if_pos c3, if_pos c3]; exact ⟨_, zc, zm, rfl, rfl, h⟩
    rw [if_neg c3, if_neg c3]
    by_cases c4 : x = 4
    · rw [if_pos c4, if_pos c4]; exact ⟨_, zc, zm, rfl, rfl, h⟩
    rw [if_neg c4, if_neg c4]
    exact ⟨_, zc, zm, rfl, rfl, h⟩
  · have ex : x = nI (r + 5) := by rw [e5, e]; exact nI_add r 5
    have hin : fX2_in zm x 5 10 = some (1, zm) := by
      unfold fX2_in
      rw [ex, if_neg (show ¬ nI (r + 5) < (5 : Int32) from nI_nlt (b := 5) (by omega) (by omega)), if_neg (show ¬ (10 : Int32) < nI (r + 5) from nI_nlt (a := 10) (by omega) (by omega))]
    have cr := nI_clamp (n := r) (by omega)
    have ir := nI_in (c := r) (N := 6) hr (by omega)
    rw [cr] at ir
    obtain ⟨j, hj, ej, em⟩ := len_of h hr
    have ne : ∀ q : Nat, q < 5 → ¬ x = nI q := fun q hq z => by
      rw [ex] at z
      have := (nI_eq (by omega) (by omega)).mp z
      omega
    unfold fX1_count fX2_count
    rw [if_neg (show ¬ x = (0 : Int32) from ne 0 (by omega)), if_neg (show ¬ x = (1 : Int32) from ne 1 (by omega)), if_neg (show ¬ x = (2 : Int32) from ne 2 (by omega)), if_neg (show ¬ x = (3 : Int32) from ne 3 (by omega)), if_neg (show ¬ x = (4 : Int32) from ne 4 (by omega)), hin, (g zc zm).1]
    simp only [bd_some, let_]
    rw [if_neg ne10, if_neg ne10]
    simp only [e, cr, if_neg ir, ej, em]
    exact ⟨nI j, zc, zm, rfl, rfl, h⟩
theorem s_counted {n : Nat} {zc : SC} {oc : Option (Int32 × SC)} {om : Option (Int32 × SM)} (H : Rn n 100 zc oc om) : Sm n (bd_ oc (fun r14 z14 => bd_ (fX1_counted z14 r14) (fun r15 z15 => some (r15, z15)))) (bd_ om (fun r18 z18 => (fX2_run_j110 z18 r18))) := by
  obtain ⟨t, zd, zn, a1, a2, R, F, s, hs, es⟩ := H
  have ep : psC zd = nI s := es
  have em : zn.2.2 = zd.2.2.2 := R.1.symm
  rw [a1, a2]
  simp only [bd_some]
  have key : ∀ m : Int32, m < 0 → (fin_ t (psC zd) = m ↔ t = m) := by
    intro m hm
    unfold fin_
    by_cases ht : t < 0
    · rw [if_pos ht]
    · rw [if_neg ht, ep]
      constructor
      · intro q; rw [← q] at hm; exact absurd hm (nI_pos (by omega))
      · intro q; rw [q] at ht; exact absurd hm ht
  have k11 := key (-11) (by decide)
  have k30 := key (-30) (by decide)
  have R1 : ∀ C : CC, Ci C → C.2.2.2.2.1 = nI n → Rl n (zd.1, zd.2.1, zd.2.2.1, C) (zn.1, zn.2.1, C) := fun C hC hm => R.com hC hm
  have hCi := R.2.2.2.2.1
  have hmd := R.2.2.2.2.2
  unfold fX1_counted fX1_counted_j16 fX2_run_j110 fX2_run_j129 fX2_run_j150
  simp only [let_, em]
  by_cases c11 : t = -11
  · have c30 : ¬ t = -30 := by rw [c11]; decide
    have d30 : ¬ fin_ t (psC zd) = -30 := fun q => c30 (k30.mp q)
    have hlt : t < 0 := by rw [c11]; decide
    simp only [if_pos c11, if_pos (k11.mpr c11), if_neg c30, if_neg d30, if_pos hlt, bd_some, Int32.add_zero]
    refine ⟨t, _, _, by rw [show fin_ t (psC zd) = t from if_pos hlt], rfl, ?_⟩
    exact R1 (zd.2.2.2.1, zd.2.2.2.2.1, zd.2.2.2.2.2.1, zd.2.2.2.2.2.2.1, zd.2.2.2.2.2.2.2.1, zd.2.2.2.2.2.2.2.2.1, zd.2.2.2.2.2.2.2.2.2.1 + 1, zd.2.2.2.2.2.2.2.2.2.2) hCi hmd
  · have d11 : ¬ fin_ t (psC zd) = -11 := fun q => c11 (k11.mp q)
    by_cases c30 : t = -30
    · have hlt : t < 0 := by rw [c30]; decide
      simp only [if_neg c11, if_neg d11, if_pos c30, if_pos (k30.mpr c30), if_pos hlt, bd_some, Int32.add_zero]
      refine ⟨t, _, _, by rw [show fin_ t (psC zd) = t from if_pos hlt], rfl, ?_⟩
      exact R1 (zd.2.2.2.1, zd.2.2.2.2.1, zd.2.2.2.2.2.1, zd.2.2.2.2.2.2.1, zd.2.2.2.2.2.2.2.1, zd.2.2.2.2.2.2.2.2.1, zd.2.2.2.2.2.2.2.2.2.1, zd.2.2.2.2.2.2.2.2.2.2.1 + 1, zd.2.2.2.2.2.2.2.2.2.2.2) hCi hmd
    · have d30 : ¬ fin_ t (psC zd) = -30 := fun q => c30 (k30.mp q)
      simp only [if_neg c11, if_neg d11, if_neg c30, if_neg d30, bd_some, Int32.add_zero]
      by_cases hlt : t < 0
      · rw [if_pos hlt]
        refine ⟨t, _, _, by rw [show fin_ t (psC zd) = t from if_pos hlt], rfl, R1 zd.2.2.2 hCi hmd⟩
      · rw [if_neg hlt]
        refine ⟨psC zd, _, _, by rw [show fin_ t (psC zd) = psC zd from if_neg hlt], rfl, R1 zd.2.2.2 hCi hmd⟩
theorem t_run {n : Nat} {zc : SC} {zm : SM} (h : Rl n zc zm) (x y v : Int32) : Sm n (fX1_run zc x y v) (fX2_run zm x y v) := by
  unfold fX1_run fX2_run
  rcases ro_cases x with g | ⟨r, hr, e, g⟩
  · rw [(g zc zm).1, (g zc zm).2, bd_some, bd_some, if_pos rfl, if_pos rfl]
    exact ⟨-1, zc, zm, rfl, rfl, h⟩
  · rw [(g zc zm).1, (g zc zm).2, bd_some, bd_some, if_neg ne10, if_neg ne10]
    rcases in_cases y 4 (by omega) with ⟨hy, gy⟩ | ⟨j, hj, ej, gy⟩
    · rw [show fX2_in zm y 0 4 = some (0, zm) from gy zm, bd_some]
      rcases hy with q | ⟨q, q2⟩
      · rw [if_pos q, if_pos rfl]
        exact ⟨-1, zc, zm, rfl, rfl, h⟩
      · rw [if_neg q, if_pos (show (4 : Int32) < y from q2), if_pos rfl]
        exact ⟨-1, zc, zm, rfl, rfl, h⟩
    · rw [show fX2_in zm y 0 4 = some (1, zm) from gy zm, bd_some, if_neg ne10, if_neg (show ¬ y < 0 by rw [ej]; exact nI_pos (by omega)), if_neg (show ¬ (4 : Int32) < y by rw [ej]; exact nI_nlt (a := 4) (by omega) (by omega))]
      rcases ax_cases v with ga | ga
      · rw [(ga zc zm).1, (ga zc zm).2, bd_some, bd_some, if_pos rfl, if_pos rfl]
        exact ⟨-1, zc, zm, rfl, rfl, h⟩
      · rw [(ga zc zm).1, (ga zc zm).2, bd_some, bd_some, if_neg ne10, if_neg ne10]
        subst e
        simp only [let_]
        have R := h.com (C := (zc.2.2.2.1, zc.2.2.2.2.1, zc.2.2.2.2.2.1, 0, zc.2.2.2.2.2.2.2.1, zc.2.2.2.2.2.2.2.2.1 + 1, zc.2.2.2.2.2.2.2.2.2.1, zc.2.2.2.2.2.2.2.2.2.2.1, 0)) ⟨h.2.2.2.2.1.1, h.2.2.2.2.1.2.1, 0, by omega, rfl⟩ h.2.2.2.2.2
        have P : pb 0 (zc.1, zc.2.1, zc.2.2.1, zc.2.2.2.1, zc.2.2.2.2.1, zc.2.2.2.2.2.1, 0, zc.2.2.2.2.2.2.2.1, zc.2.2.2.2.2.2.2.2.1 + 1, zc.2.2.2.2.2.2.2.2.2.1, zc.2.2.2.2.2.2.2.2.2.2.1, 0) := ⟨0, by omega, rfl⟩
        rw [← h.1]
        by_cases c0 : y = 0
        · rw [if_pos c0, if_pos c0]; exact s_counted (s_goAlone1 hr v R P)
        rw [if_neg c0, if_neg c0]
        by_cases c1 : y = 1
        · rw [if_pos c1, if_pos c1]; exact s_counted (s_goTwo hr v R P)
        rw [if_neg c1, if_neg c1]
        by_cases c2 : y = 2
        · rw [if_pos c2, if_pos c2]; exact s_counted (s_goAll hr v R P)
        rw [if_neg c2, if_neg c2]
        by_cases c3 : y = 3
        · rw [if_pos c3, if_pos c3]; exact s_counted (s_goFirst hr v R P)
        rw [if_neg c3, if_neg c3]
        exact s_counted (s_goRound hr v R P)
theorem s_shuntEnd {n : Nat} {zc : SC} {zm : SM} (h : Rl n zc zm) {k x k2 x2 : Nat} (hk : zc.2.1[k]? = some x) (hk2 : zc.2.1[k2]? = some x2) (t : Int32) : ∃ zd zn, bd_ (bd_ (fX1_let zc x2) (fun _ z5 => some (t, z5))) (fun r13 z13 => bd_ (fX1_let z13 x) (fun _ z14 => some (r13, z14))) = some (t, zd) ∧ bd_ (fX2_let zm (nI k2)) (fun _ z3 => bd_ (fX2_let z3 (nI k)) (fun _ z4 => some (t, z4))) = some (t, zn) ∧ Rl n zd zn := by
  obtain ⟨zc1, zm1, b1, b2, R1, F1⟩ := s_let h hk2
  obtain ⟨zc2, zm2, d1, d2, R2, F2⟩ := s_let R1 (F1.at hk)
  rw [b1, b2, bd_some, bd_some, bd_some, d1, d2, bd_some, bd_some]
  exact ⟨zc2, zm2, rfl, rfl, R2⟩
theorem t_shunt {n : Nat} {zc : SC} {zm : SM} (h : Rl n zc zm) (x y v : Int32) : Sm n (fX1_shunt zc x y v) (fX2_shunt zm x y v) := by
  unfold fX1_shunt fX2_shunt
  rcases pl_cases x with g | ⟨p, hp, e, g⟩
  · rw [(g zc zm).1, (g zc zm).2, bd_some, bd_some, if_pos rfl, if_pos rfl]
    exact ⟨-1, zc, zm, rfl, rfl, h⟩
  · rw [(g zc zm).1, (g zc zm).2, bd_some, bd_some, if_neg ne10, if_neg ne10]
    rcases pl_cases y with g2 | ⟨q, hq, e2, g2⟩
    · rw [(g2 zc zm).1, (g2 zc zm).2, bd_some, bd_some, if_pos rfl, if_pos rfl]
      exact ⟨-1, zc, zm, rfl, rfl, h⟩
    · rw [(g2 zc zm).1, (g2 zc zm).2, bd_some, bd_some, if_neg ne10, if_neg ne10]
      rcases ax_cases v with ga | ga
      · rw [(ga zc zm).1, (ga zc zm).2, bd_some, bd_some, if_pos rfl, if_pos rfl]
        exact ⟨-1, zc, zm, rfl, rfl, h⟩
      · rw [(ga zc zm).1, (ga zc zm).2, bd_some, bd_some, if_neg ne10, if_neg ne10]
        subst e; subst e2
        have cp := nI_clamp (n := p) (by omega)
        have cq := nI_clamp (n := q) (by omega)
        have ip := nI_in (c := p) (N := 12) hp (by omega)
        have iq := nI_in (c := q) (N := 12) hq (by omega)
        rw [cp] at ip
        rw [cq] at iq
        simp only [let_, cp, cq, if_neg ip, if_neg iq]
        have R := h.com (C := (zc.2.2.2.1, zc.2.2.2.2.1, zc.2.2.2.2.2.1, 0, zc.2.2.2.2.2.2.2)) ⟨h.2.2.2.2.1.1, h.2.2.2.2.1.2.1, 0, by omega, rfl⟩ h.2.2.2.2.2
        rw [← h.1]
        rcases h.at hp with ⟨a, b⟩ | ⟨k, w, hk, a, b⟩
        · rw [a, b, if_neg (by decide)]
          exact ⟨-11, _, _, rfl, rfl, R⟩
        · rw [a, b, if_pos (nI_pos' (by have := h.lt hk; omega))]
          obtain ⟨zc1, zm1, b1, b2, R1, F1⟩ := s_claim R hk
          have hk1 := F1.at hk
          have st1 : zc1.2.2.1 q = zc.2.2.1 q := by rw [F1.2.1]
          simp only [opt_, b1, b2, bd_some, st1]
          rcases h.at hq with ⟨a', b'⟩ | ⟨k', w', hk', a', b'⟩
          · rw [a', b', if_pos (by decide)]
            obtain ⟨zc2, zm2, d1, d2, R2, F2⟩ := s_let R1 hk1
            simp only [fX1_shuntOntoN, bd_some, d1, d2]
            exact ⟨-11, zc2, zm2, rfl, rfl, R2⟩
          · have hk1' := F1.at (zc := (zc.1, zc.2.1, zc.2.2.1, zc.2.2.2.1, zc.2.2.2.2.1, zc.2.2.2.2.2.1, 0, zc.2.2.2.2.2.2.2)) hk'
            obtain ⟨zc2, zm2, d1, d2, R2, F2⟩ := s_claim R1 hk1'
            have k2 := F2.at hk1
            have k2' := F2.at hk1'
            obtain ⟨-, -, q1⟩ := R2.2.2.1 k w k2
            obtain ⟨-, -, q2⟩ := R2.2.2.1 k' w' k2'
            have hw := Rl.mem k2
            have hw' := Rl.mem k2'
            have hc := nI_in (h.lt hk) (by omega)
            have ek := nI_clamp (n := k) (by have := h.lt hk; omega)
            rw [ek] at hc
            have hc' := nI_in (h.lt hk') (by omega)
            have ek' := nI_clamp (n := k') (by have := h.lt hk'; omega)
            rw [ek'] at hc'
            have q14 := q1 4 (by omega) (by omega)
            have q24 := q2 4 (by omega) (by omega)
            have q22 := q2 2 (by omega) (by omega)
            rw [a', b', if_neg (nI_pos (by have := h.lt hk'; omega))]
            have no : Sm n (bd_ (bd_ (fX1_let zc2 w') (fun _ z5 => some (0, z5))) (fun r13 z13 => bd_ (fX1_let z13 w) (fun _ z14 => some (r13, z14)))) (fX2_shunt_j122 zm2 v (nI k) (nI k')) := by
              unfold fX2_shunt_j122 fX2_shunt_j123 fX2_shunt_j144 fX2_shunt_j165
              simp only [let_, ek, if_neg hc, ek', if_neg hc', Int32.sub_zero, Int32.add_zero, setA_id]
              rw [if_neg (by decide), if_neg (by decide)]
              obtain ⟨zd, zn, e1, e2, R3⟩ := s_shuntEnd R2 k2 k2' 0
              rw [e1, e2]
              exact ⟨0, zd, zn, rfl, rfl, R3⟩
            have yes : Sm n (bd_ (fX1_shuntOnto_j36 zc2 w w' v) (fun r13 z13 => bd_ (fX1_let z13 w) (fun _ z14 => some (r13, z14)))) (fX2_shunt_j118 zm2 v (nI k) (nI k')) := by
              unfold fX1_shuntOnto_j36 fX2_shunt_j118 fX2_shunt_j123 fX2_shunt_j144 fX2_shunt_j165
              have Ra := R2.set k2 4 (by omega) (zm2.1 4 k - v)
              obtain ⟨-, -, q3⟩ := Ra.2.2.1 k' w' k2'
              have q34 := q3 4 (by omega) (by omega)
              have Rb := Ra.set k2' 4 (by omega) (setA zm2.1 4 (upd (zm2.1 4) k (zm2.1 4 k - v)) 4 k' + v)
              simp only [let_, ek, if_neg hc, ek', if_neg hc', if_pos hw, if_pos hw', q14, if_true]
              have q34' : setS zc2.1 w 4 (zm2.1 4 k - v) w' 4 = setA zm2.1 4 (upd (zm2.1 4) k (zm2.1 4 k - v)) 4 k' := q34
              rw [q34']
              obtain ⟨zd, zn, e1, e2, R3⟩ := s_shuntEnd Rb k2 k2' 1
              rw [e1, e2]
              exact ⟨1, zd, zn, rfl, rfl, R3⟩
            unfold fX1_shuntOnto
            simp only [d1, d2, bd_some, if_pos hw, if_pos hw', c_room hw', ek, if_neg hc, ek', if_neg hc', q14, q24, q22]
            by_cases hlt : zm2.1 4 k < v
            · rw [if_pos hlt, if_pos hlt]; exact no
            · rw [if_neg hlt, if_neg hlt]
              by_cases hww : w = w'
              · have hkk := h.2.1.2.2 k k' w hk (by rw [hww]; exact hk')
                rw [if_pos (by rw [hww]), if_pos (by rw [hkk])]
                exact yes
              · have hkk : ¬ nI k = nI k' := fun e => hww (by
                  have e2 := (nI_eq (by have := h.lt hk; omega) (by have := h.lt hk'; omega)).mp e
                  subst e2
                  exact Option.some.inj (hk.symm.trans hk'))
                rw [if_neg (fun e => hww (Option.some.inj e)), if_neg hkk]
                by_cases hl : 0 < lg_cmp ((zm2.1 4 k').toInt64 + v.toInt64) (zm2.1 2 k').toInt64
                · simp only [if_pos hl, if_true]
                  exact no
                · simp only [if_neg hl]
                  rw [if_neg (by decide)]
                  exact yes
