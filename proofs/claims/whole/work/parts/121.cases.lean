/-! a number that is asked for: in its range or not, for both -/
theorem place_cases {n : Nat} {mn : Nat → Int32} (hm : mn 0 = nI n) (h2 : 2 ≤ n) (h6 : n ≤ 6) (x : Int32) : (f_X2_has x (nI n) = some 0 ∧ f_X10_isPlace x mn = some 0) ∨ ∃ j, j < n ∧ x = nI j ∧ f_X2_has x (nI n) = some 1 ∧ f_X10_isPlace x mn = some 1 := by
  have e : f_X10_isPlace x mn = some (if x < 0 then 0 else if nI (n - 1) < x then 0 else 1) := by
    unfold f_X10_isPlace
    rw [bd0, c0, hm, nI_s1 (by omega), in_eq x (by omega), Option.bind_some]
    split
    · exact zb_ok _ (Or.inl rfl)
    · split
      · exact zb_ok _ (Or.inl rfl)
      · exact zb_ok _ (Or.inr rfl)
  unfold f_X2_has
  rw [e]
  rcases nI_range x (n := n) (by omega) with h | ⟨h0, h⟩ | ⟨j, hj, rfl⟩
  · left; rw [if_pos h, if_pos h]; exact ⟨rfl, rfl⟩
  · left
    have : nI (n - 1) < x := Int32.lt_of_lt_of_le (nI_lt (by omega) (by omega)) h
    rw [if_neg h0, if_neg h0, if_pos h, if_pos this]; exact ⟨rfl, rfl⟩
  · right
    refine ⟨j, hj, rfl, ?_⟩
    rw [if_neg (nI_lt0 (by omega)), if_neg (nI_lt0 (by omega)), if_neg (nI_ge hj (by omega)), if_neg (nI_nlt (by omega) (by omega))]
    exact ⟨rfl, rfl⟩
theorem kk_bd {n rg : Nat} (h2 : 2 ≤ n) (h6 : n ≤ 6) : 1 ≤ kk n rg ∧ kk n rg ≤ n := by
  unfold kk; split <;> omega
theorem E_countY {n rg : Nat} {mn ri : Nat → Int32} (hm : mn 0 = nI n) (hr : ri 0 = nI rg) (h2 : 2 ≤ n) (h6 : n ≤ 6) (hg : rg ≤ 1) : f_X10_changeMany mn ri = some (nI (kk n rg)) := by
  unfold f_X10_changeMany kk
  simp only [bd0, c0, hm, hr]
  rcases (show rg = 0 ∨ rg = 1 by omega) with h | h
  · rw [if_neg (show ¬ nI rg = 1 by rw [h]; decide), if_pos h, nI_s1 (by omega)]
  · rw [if_pos (show nI rg = 1 by rw [h]; rfl), if_neg (show ¬ rg = 0 by omega)]
theorem change_cases {n rg : Nat} {mn ri : Nat → Int32} (hm : mn 0 = nI n) (hr : ri 0 = nI rg) (h2 : 2 ≤ n) (h6 : n ≤ 6) (hg : rg ≤ 1) (x : Int32) : (f_X2_hasChange x (nI n) (nI rg) = some 0 ∧ f_X10_isChange x mn ri = some 0) ∨ ∃ j, j < kk n rg ∧ x = nI j ∧ f_X2_hasChange x (nI n) (nI rg) = some 1 ∧ f_X10_isChange x mn ri = some 1 := by
  obtain ⟨k1, k2⟩ := kk_bd (rg := rg) h2 h6
  have e : f_X10_isChange x mn ri = some (if x < 0 then 0 else if nI (kk n rg - 1) < x then 0 else 1) := by
    unfold f_X10_isChange
    rw [E_countY hm hr h2 h6 hg, Option.bind_some, nI_s1 (by omega), in_eq x (by omega), Option.bind_some]
    split
    · exact zb_ok _ (Or.inl rfl)
    · split
      · exact zb_ok _ (Or.inl rfl)
      · exact zb_ok _ (Or.inr rfl)
  unfold f_X2_hasChange
  rw [e, E_count n (by omega) h2 rg (by omega), Option.bind_some]
  generalize kk n rg = k at k1 k2 ⊢
  rcases nI_range x (n := k) (by omega) with h | ⟨h0, h⟩ | ⟨j, hj, rfl⟩
  · left; rw [if_pos h, if_pos h]; exact ⟨rfl, rfl⟩
  · left
    have : nI (k - 1) < x := Int32.lt_of_lt_of_le (nI_lt (by omega) (by omega)) h
    rw [if_neg h0, if_neg h0, if_pos h, if_pos this]; exact ⟨rfl, rfl⟩
  · right
    refine ⟨j, hj, rfl, ?_⟩
    rw [if_neg (nI_lt0 (by omega)), if_neg (nI_lt0 (by omega)), if_neg (nI_ge hj (by omega)), if_neg (nI_nlt (by omega) (by omega))]
    exact ⟨rfl, rfl⟩
theorem round_cases {n rg : Nat} {mn ri : Nat → Int32} (hm : mn 0 = nI n) (hr : ri 0 = nI rg) (h2 : 2 ≤ n) (h6 : n ≤ 6) (hg : rg ≤ 1) (x : Int32) : (f_X2_hasRound x (nI n) (nI rg) = some 0 ∧ f_X10_isRound x mn ri = some 0) ∨ ∃ j, j < n ∧ 3 ≤ n ∧ x = nI j ∧ f_X2_hasRound x (nI n) (nI rg) = some 1 ∧ f_X10_isRound x mn ri = some 1 := by
  unfold f_X2_hasRound f_X10_isRound f_X2_hasRound_b33 f_X10_isRound_b44
  simp only [bd0, c0, hm, hr]
  by_cases h3 : n < 3
  · left
    have : nI n < (3 : Int32) := nI_lt (b := 3) h3 (by omega)
    rw [if_pos this, if_pos this]; exact ⟨rfl, rfl⟩
  · have q3 : ¬ nI n < (3 : Int32) := nI_nlt (b := 3) (by omega) (by omega)
    rw [if_neg q3, if_neg q3]
    -- the bound
    have key : ∀ k : Nat, 1 ≤ k → k ≤ n → ((if x < 0 then some (0 : Int32) else if nI k ≤ x then some 0 else some 1) = some 0 ∧ Option.bind (f_X10_in x.toInt64 0 (nI (k - 1)).toInt64) (fun u => if u = 0 then some (0 : Int32) else some 1) = some 0) ∨ ∃ j, j < n ∧ 3 ≤ n ∧ x = nI j ∧ (if x < 0 then some (0 : Int32) else if nI k ≤ x then some 0 else some 1) = some 1 ∧ Option.bind (f_X10_in x.toInt64 0 (nI (k - 1)).toInt64) (fun u => if u = 0 then some (0 : Int32) else some 1) = some 1 := by
      intro k k1 k2
      rw [in_eq x (by omega), Option.bind_some]
      rcases nI_range x (n := k) (by omega) with h | ⟨h0, h⟩ | ⟨j, hj, rfl⟩
      · left; rw [if_pos h, if_pos h]; exact ⟨rfl, if_pos rfl⟩
      · left
        have : nI (k - 1) < x := Int32.lt_of_lt_of_le (nI_lt (by omega) (by omega)) h
        rw [if_neg h0, if_neg h0, if_pos h, if_pos this]; exact ⟨rfl, if_pos rfl⟩
      · right
        refine ⟨j, by omega, by omega, rfl, ?_⟩
        rw [if_neg (nI_lt0 (by omega)), if_neg (nI_lt0 (by omega)), if_neg (nI_ge hj (by omega)), if_neg (nI_nlt (by omega) (by omega))]
        exact ⟨rfl, if_neg (by decide)⟩
    rcases (show rg = 0 ∨ rg = 1 by omega) with h | h
    · rw [if_pos (show nI rg = 0 by rw [h]; rfl), if_neg (show ¬ nI rg = 1 by rw [h]; decide), show nI n - (2 : Int32) = nI (n - 2) from pk_sub (b := 2) (by omega), show nI n - (3 : Int32) = nI (n - 3) from pk_sub (b := 3) (by omega)]
      exact key (n - 2) (by omega) (by omega)
    · rw [if_neg (show ¬ nI rg = 0 by rw [h]; decide), if_pos (show nI rg = 1 by rw [h]; rfl), nI_s1 (by omega)]
      exact key n (by omega) (by omega)
theorem either_cases (x : Int32) : (f_X9_isEither x = some 0 ∧ f_X10_in x.toInt64 0 1 = some 0) ∨ ((x = 0 ∨ x = 1) ∧ f_X9_isEither x = some 1 ∧ f_X10_in x.toInt64 0 1 = some 1) := by
  have e : f_X10_in x.toInt64 0 1 = some (if x < 0 then 0 else if nI 1 < x then 0 else 1) := in_eq x (k := 1) (by omega)
  rw [e]
  unfold f_X9_isEither f_X9_isEither_b9
  rcases nI_range x (n := 2) (by omega) with h | ⟨h0, h⟩ | ⟨j, hj, rfl⟩
  · left
    rw [if_pos h, if_neg (fun q => absurd h (by rw [q]; decide)), if_neg (fun q => absurd h (by rw [q]; decide))]; exact ⟨rfl, rfl⟩
  · left
    have : nI 1 < x := Int32.lt_of_lt_of_le (nI_lt (by omega) (by omega)) h
    rw [if_neg h0, if_pos this, if_neg (fun q => absurd h (by rw [q]; decide)), if_neg (fun q => absurd h (by rw [q]; decide))]; exact ⟨rfl, rfl⟩
  · right
    rcases (show j = 0 ∨ j = 1 by omega) with rfl | rfl
    · exact ⟨Or.inl rfl, rfl, by decide⟩
    · exact ⟨Or.inr rfl, by decide, by decide⟩
