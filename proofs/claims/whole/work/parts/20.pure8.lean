/-! ===== section beside the reference's ===== -/
theorem lim_cases (x : Int32) : (∀ zc zm, fX1_isLimit zc x = some (0, zc) ∧ fX2_in zm x 0 100000 = some (0, zm)) ∨ ∀ zc zm, fX1_isLimit zc x = some (1, zc) ∧ fX2_in zm x 0 100000 = some (1, zm) := by
  rcases in_cases x 100000 (by omega) with ⟨h, g⟩ | ⟨j, hj, e, g⟩
  · left
    intro zc zm
    refine ⟨?_, g zm⟩
    unfold fX1_isLimit
    rcases h with h | ⟨h, h1⟩
    · rw [if_pos h]
    · rw [if_neg h, if_pos (show (100000 : Int32) < x from h1)]
  · right
    intro zc zm
    refine ⟨?_, g zm⟩
    unfold fX1_isLimit
    rw [e, if_neg (nI_pos (by omega)), if_neg (show ¬ (100000 : Int32) < nI j from nI_nlt (a := 100000) (by omega) (by omega))]
theorem li_push {L : List Nat} {q : Nat} (h : Li L) (hq : q ∉ L) : Li (L ++ [q]) := by
  intro i j x hi hj
  have key : ∀ i : Nat, (L ++ [q])[i]? = some x → (i < L.length ∧ L[i]? = some x) ∨ (i = L.length ∧ x = q) := by
    intro i hi
    rcases Nat.lt_or_ge i L.length with g | g
    · left
      rw [List.getElem?_append_left g] at hi
      exact ⟨g, hi⟩
    · right
      rw [List.getElem?_append_right g] at hi
      have hz : i - L.length < 1 := (List.getElem?_eq_some_iff.mp hi).1
      have he : i = L.length := by omega
      subst he
      rw [Nat.sub_self] at hi
      exact ⟨rfl, (Option.some.inj hi).symm⟩
  rcases key i hi with ⟨a, b⟩ | ⟨a, b⟩
  · rcases key j hj with ⟨c, d⟩ | ⟨c, d⟩
    · exact h i j x b d
    · subst d; exact absurd (List.mem_of_getElem? b) hq
  · rcases key j hj with ⟨c, d⟩ | ⟨c, d⟩
    · subst b; exact absurd (List.mem_of_getElem? d) hq
    · omega
theorem t_section {n : Nat} {zc : SC} {zm : SM} (h : Rl n zc zm) (hn : n + 1 ≤ 600) (x1 x2 x3 x4 : Int32) :
    (fX1_secChk zc x1 x2 x3 x4 = some (0, zc) ∧ fX2_section zm x1 x2 x3 x4 = some (-1, zm)) ∨
    (fX1_secChk zc x1 x2 x3 x4 = some (1, zc) ∧ vp_in x1 12 ∧ ∃ zn, fX2_section zm x1 x2 x3 x4 = some (zc.2.2.2.2.2.2.2.1, zn) ∧ ∀ q, q ∉ zc.2.1 → Rl (n + 1) (nS zc q x1 x2 x3 x4) zn) := by
  unfold fX1_secChk fX2_section
  rcases pl_cases x1 with g | ⟨p, hp, e, g⟩
  · left
    rw [(g zc zm).1, (g zc zm).2, bd_some, bd_some, if_pos rfl, if_pos rfl]
    exact ⟨rfl, rfl⟩
  · rw [(g zc zm).1, (g zc zm).2, bd_some, bd_some, if_neg ne10, if_neg ne10]
    rcases in_cases x2 2 (by omega) with ⟨hy, gy⟩ | ⟨j, hj, ej, gy⟩
    · left
      rw [show fX2_in zm x2 0 2 = some (0, zm) from gy zm, bd_some, if_pos rfl]
      rcases hy with q | ⟨q, q2⟩
      · rw [if_pos q]; exact ⟨rfl, rfl⟩
      · rw [if_neg q, if_pos (show (2 : Int32) < x2 from q2)]; exact ⟨rfl, rfl⟩
    · rw [show fX2_in zm x2 0 2 = some (1, zm) from gy zm, bd_some, if_neg ne10, if_neg (show ¬ x2 < 0 by rw [ej]; exact nI_pos (by omega)), if_neg (show ¬ (2 : Int32) < x2 by rw [ej]; exact nI_nlt (a := 2) (by omega) (by omega))]
      rcases lim_cases x3 with ga | ga
      · left
        rw [(ga zc zm).1, (ga zc zm).2, bd_some, bd_some, if_pos rfl, if_pos rfl]
        exact ⟨rfl, rfl⟩
      · rw [(ga zc zm).1, (ga zc zm).2, bd_some, bd_some, if_neg ne10, if_neg ne10]
        rcases lim_cases x4 with gb | gb
        · left
          rw [(gb zc zm).1, (gb zc zm).2, bd_some, bd_some, if_pos rfl, if_pos rfl]
          exact ⟨rfl, rfl⟩
        · right
          rw [(gb zc zm).1, (gb zc zm).2, bd_some, bd_some, if_neg ne10, if_neg ne10]
          subst e
          have cp := nI_clamp (n := p) (by omega)
          have ip := nI_in (c := p) (N := 12) hp (by omega)
          refine ⟨rfl, ip, ?_⟩
          rw [cp] at ip
          have emd : zm.2.2.2.2.2.2.1 = nI n := by rw [← h.1]; exact h.2.2.2.2.2
          have cn := nI_clamp (n := n) (by omega)
          have hin := nI_in (c := n) (N := 640) (by omega) (by omega)
          rw [cn] at hin
          simp only [let_, emd, cn, if_neg hin, cp, if_neg ip, setA_at]
          refine ⟨_, by rw [nI_1, nI_pred, h.2.2.2.2.2], fun q hq => ?_⟩
          obtain ⟨h1, ⟨h2a, ⟨h2b, h2c⟩, h2d⟩, h3, h4, h5, h6⟩ := h
          refine ⟨?_, ⟨?_, ⟨hn, ?_⟩, li_push h2d hq⟩, ?_, ?_, ?_, ?_⟩
          · show (zc.2.2.2.1, zc.2.2.2.2.1, zc.2.2.2.2.2.1, zc.2.2.2.2.2.2.1, zc.2.2.2.2.2.2.2.1 + 1, zc.2.2.2.2.2.2.2.2) = _
            rw [h6, ← h1, nI_1]
          · show (zc.2.1 ++ [q]).length = n + 1
            simp [h2a]
          · intro f k hf4 hf8 hk
            show setA _ 3 _ f k = 0
            rw [setA_at, if_neg (by omega), setA_at, if_neg (by omega), setA_at, if_neg (by omega)]
            exact h2c f k hf4 hf8 (by omega)
          · intro k x hk
            have hk : (zc.2.1 ++ [q])[k]? = some x := hk
            rcases Nat.lt_or_ge k n with g3 | g3
            · rw [List.getElem?_append_left (by omega)] at hk
              obtain ⟨b1, b2, b3⟩ := h3 k x hk
              have hxq : x ≠ q := fun e => hq (by rw [← e]; exact List.mem_of_getElem? hk)
              have ef : ∀ f, (nS zc q (nI p) x2 x3 x4).1 x f = zc.1 x f := fun f => by
                show newF zc.1 q _ x f = _
                simp [newF, hxq]
              refine ⟨(ef 0).trans b1, by rw [ef]; exact b2, fun f hf1 hf8 => ?_⟩
              rw [ef, b3 f hf1 hf8]
              show zm.1 f k = setA _ 3 _ f k
              have hkn : k ≠ n := by omega
              simp only [setA_at]
              by_cases f3 : f = 3
              · subst f3; simp [pk_un hkn]
              · rw [if_neg f3]
                by_cases f2 : f = 2
                · subst f2; simp [pk_un hkn]
                · rw [if_neg f2]
                  by_cases f1 : f = 1
                  · subst f1; simp [pk_un hkn]
                  · rw [if_neg f1]
            · rw [List.getElem?_append_right (by omega)] at hk
              have hz : k - zc.2.1.length < 1 := (List.getElem?_eq_some_iff.mp hk).1
              have hkn : k = n := by omega
              subst hkn
              rw [h2a, Nat.sub_self] at hk
              have hxq : q = x := Option.some.inj hk
              subst hxq
              have ef : ∀ f, (nS zc q (nI p) x2 x3 x4).1 q f = iniS zc.2.2.2.2.2.2.2.1 x2 x3 x4 f := fun f => by
                show newF zc.1 q _ q f = _
                simp [newF]
              refine ⟨(ef 0).trans h6, ?_, fun f hf1 hf8 => ?_⟩
              · rw [ef]
                show x2 = 0 ∨ x2 = 1 ∨ x2 = 2
                rw [ej]
                rcases (show j = 0 ∨ j = 1 ∨ j = 2 by omega) with r | r | r <;> subst r <;> decide
              · rw [ef]
                show _ = setA _ 3 _ f k
                simp only [setA_at]
                by_cases f3 : f = 3
                · subst f3; simp [iniS, pk_us]
                · rw [if_neg f3]
                  by_cases f2 : f = 2
                  · subst f2; simp [iniS, pk_us]
                  · rw [if_neg f2]
                    by_cases f1 : f = 1
                    · subst f1; simp [iniS, pk_us]
                    · rw [if_neg f1, h2c f k (by omega) hf8 (by omega)]
                      unfold iniS
                      rw [if_neg (by omega), if_neg f1, if_neg f2, if_neg f3]
          · intro p' hp'
            show (va_up zc.2.2.1 (nI p).toNatClampNeg (some q) p' = none ∧ upd zm.2.1 p (nI n) p' = -1) ∨ ∃ k x, (zc.2.1 ++ [q])[k]? = some x ∧ va_up zc.2.2.1 (nI p).toNatClampNeg (some q) p' = some x ∧ upd zm.2.1 p (nI n) p' = nI k
            rw [cp]
            by_cases hpp : p' = p
            · right
              subst hpp
              refine ⟨n, q, ?_, va_up_self _ _ _, pk_us⟩
              rw [List.getElem?_append_right (by omega), h2a, Nat.sub_self]; rfl
            · rw [va_up_ne _ _ hpp, pk_un hpp]
              rcases h4 p' hp' with a | ⟨k, x, a, b, c⟩
              · exact Or.inl a
              · right
                exact ⟨k, x, by rw [List.getElem?_append_left (List.getElem?_eq_some_iff.mp a).1]; exact a, b, c⟩
          · exact h5
          · show zc.2.2.2.2.2.2.2.1 + 1 = nI (n + 1)
            rw [h6]; exact nI_1 n
