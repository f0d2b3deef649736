/-! the nearest that is wanted -/
def NR (P : Nat → Bool) (R : Nat) (q : Nat → Nat) (r : Int32) : Prop := (∃ j, j < R ∧ P (q j) = true ∧ r = nI (q j) ∧ ∀ i, i < j → P (q i) = false) ∨ (r = -1 ∧ ∀ i, i < R → P (q i) = false)
theorem E_rowOf {D : HD} {rows edges : Nat → Int32} (hG : GOK0 D rows edges) {s : Nat} (hs : s < NN D.1) : f_X1_rowOf (nI s) (nI (NN D.1)) rows = some (nI (rw_ D.1 s)) := by
  have hN := NN_le D.1
  unfold f_X1_rowOf
  rw [if_neg (nI_lt0 (by omega)), if_neg (nI_ge hs (by omega)), bdn _ (by omega) (by omega), nI_cl (by omega), hG.1 s hs]
theorem E_stateOf {D : HD} {s : Nat} (hs : s < NN D.1) : f_X1_stateOf (nI (rw_ D.1 s)) (nI D.1) (nI (NN D.1)) = some (nI s) := by
  have hN := NN_le D.1
  unfold f_X1_stateOf
  rw [tb_rank D.1 s hs, Option.bind_some, if_neg (nI_ge hs (by omega))]
theorem E_nearRest {D : HD} (ok : HOK D) {rows edges : Nat → Int32} (hG : GOK0 D rows edges) {R : Nat} (hR : R ≤ 720) {qu : Nat → Int32} {q : Nat → Nat} (hq : ∀ j, j < R → q j < NN D.1 ∧ qu j = nI (q j)) : ∀ (j k f : Nat), k + j = R → j < f → (∀ i, i < k → restB D (q i) = false) → ∃ r, f_X5_nearestRest_l2 (nI R) qu (nI D.1) (nI (NN D.1)) (nI (kk D.1 D.2.1)) rows edges f (nI k) = some r ∧ NR (restB D) R q r := by
  intro j
  induction j with
  | zero =>
    intro k f hk hf hn
    obtain ⟨f, rfl⟩ : ∃ q, f = q + 1 := ⟨f - 1, by omega⟩
    refine ⟨-1, ?_, Or.inr ⟨rfl, fun i hi => hn i (by omega)⟩⟩
    rw [f_X5_nearestRest_l2.eq_2, if_pos (nI_le (by omega) (by omega))]
  | succ j ih =>
    intro k f hk hf hn
    obtain ⟨f, rfl⟩ : ∃ q, f = q + 1 := ⟨f - 1, by omega⟩
    obtain ⟨q1, q2⟩ := hq k (by omega)
    rw [f_X5_nearestRest_l2.eq_2, if_neg (nI_ge (by omega) (by omega)), bdn _ (show k < 720 by omega) (by omega), nI_cl (by omega), q2, E_isRest ok hG q1, Option.bind_some]
    cases hr : restB D (q k) with
    | true =>
      rw [if_neg bI_t0, bdn _ (show k < 720 by omega) (by omega)]
      exact ⟨_, rfl, Or.inl ⟨k, by omega, hr, rfl, hn⟩⟩
    | false =>
      rw [if_pos bI_f0, show nI k + (1 : Int32) = nI (k + 1) from nI_1 k]
      exact ih (k + 1) f (by omega) (by omega) (fun i hi => by
        by_cases c : i = k
        · subst c; exact hr
        · exact hn i (by omega))
theorem E_nearWith {D : HD} {rows edges : Nat → Int32} (hG : GOK0 D rows edges) {R i p : Nat} (hp : p < D.1) (h6 : D.1 ≤ 6) (hi : i < D.1) (hR : R ≤ 720) {qu : Nat → Int32} {q : Nat → Nat} (hq : ∀ j, j < R → q j < NN D.1 ∧ qu j = nI (q j)) : ∀ (j k f : Nat), k + j = R → j < f → (∀ l, l < k → decide (dg D.1 (q l) p = i) = false) → ∃ r, f_X5_nearestWith_l3 (nI R) qu (nI (NN D.1)) rows f (nI i) (nI p) (nI k) = some r ∧ NR (fun s => decide (dg D.1 s p = i)) R q r := by
  intro j
  induction j with
  | zero =>
    intro k f hk hf hn
    obtain ⟨f, rfl⟩ : ∃ q, f = q + 1 := ⟨f - 1, by omega⟩
    refine ⟨-1, ?_, Or.inr ⟨rfl, fun i hi => hn i (by omega)⟩⟩
    rw [f_X5_nearestWith_l3.eq_2, if_pos (nI_le (by omega) (by omega))]
  | succ j ih =>
    intro k f hk hf hn
    obtain ⟨f, rfl⟩ : ∃ q, f = q + 1 := ⟨f - 1, by omega⟩
    obtain ⟨q1, q2⟩ := hq k (by omega)
    have hd := tb_dg D.1 (q k) q1 p hp
    rw [f_X5_nearestWith_l3.eq_2, if_neg (nI_ge (by omega) (by omega)), bdn _ (show k < 720 by omega) (by omega), nI_cl (by omega), q2, E_rowOf hG q1, Option.bind_some, tb_who D.1 _ q1 p hp, Option.bind_some]
    by_cases hr : dg D.1 (q k) p = i
    · rw [if_pos (by rw [hr]), bdn _ (show k < 720 by omega) (by omega)]
      exact ⟨_, rfl, Or.inl ⟨k, by omega, decide_eq_true hr, rfl, hn⟩⟩
    · rw [if_neg (fun e => hr ((nI_eq (by omega) (by omega)).mp e)), show nI k + (1 : Int32) = nI (k + 1) from nI_1 k]
      exact ih (k + 1) f (by omega) (by omega) (fun l hl => by
        by_cases c : l = k
        · subst c; exact decide_eq_false hr
        · exact hn l (by omega))
