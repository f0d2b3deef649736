/-! the start -/
theorem E_fill_l {v : Int32} {n : Nat} (hn : n ≤ 5000) : ∀ (j k f : Nat) (g : Nat → Int32), k + j = n → j < f → ∃ g', f_J7_fill_53178_l5 n f v (nI k) (nI n) g = some g' ∧ (∀ q, k ≤ q → q < n → g' q = v) ∧ (∀ q, q < k ∨ n ≤ q → g' q = g q) := by
  intro j
  induction j with
  | zero =>
    intro k f g hk hf
    obtain ⟨f, rfl⟩ : ∃ q, f = q + 1 := ⟨f - 1, by omega⟩
    refine ⟨g, ?_, fun q h1 h2 => absurd h2 (by omega), fun _ _ => rfl⟩
    rw [f_J7_fill_53178_l5.eq_2, if_pos (nI_le (by omega) (by omega))]
  | succ j ih =>
    intro k f g hk hf
    obtain ⟨f, rfl⟩ : ∃ q, f = q + 1 := ⟨f - 1, by omega⟩
    obtain ⟨g', i1, i2, i3⟩ := ih (k + 1) f (upd g k v) (by omega) (by omega)
    refine ⟨g', ?_, fun q q1 q2 => ?_, fun q hq => ?_⟩
    · rw [f_J7_fill_53178_l5.eq_2, if_neg (nI_ge (by omega) (by omega)), bdn _ (by omega) (by omega), nI_cl (by omega), show nI k + (1 : Int32) = nI (k + 1) from nI_1 k]
      exact i1
    · by_cases h : q = k
      · subst h; rw [i3 q (Or.inl (by omega)), pk_us]
      · exact i2 q (by omega) q2
    · rw [i3 q (by omega), pk_un (by omega)]
theorem E_fill (v : Int32) {n : Nat} (hn : n ≤ 5000) (g : Nat → Int32) : ∃ g', f_J7_fill_53178 v n g = some g' ∧ (∀ q, q < n → g' q = v) := by
  have h0 := NF_big
  obtain ⟨g', h1, h2, -⟩ := E_fill_l (v := v) hn n 0 NF g (by omega) (by omega)
  exact ⟨g', h1, fun q hq => h2 q (by omega) hq⟩
theorem E_clear (p r h : Int32) (lk : Nat → Int32) : ∃ lk', f_X2_clear p r h lk = some (0, 0, 0, lk') ∧ ∀ q, q < 64 → lk' q = 50 := by
  obtain ⟨lk', h1, h2⟩ := E_fill (50 : Int32) (n := 64) (by omega) lk
  refine ⟨lk', ?_, h2⟩
  unfold f_X2_clear
  rw [h1, Option.bind_some]
theorem E_noHouses_l {b : Nat} {mn rg : Nat → Int32} (hb : b < 2) : ∀ (j k f : Nat) (lk : Nat → Int32), k + j = 36 → j < f → ∃ lk', f_X10_noHouses_l16 f (nI b) (nI k) mn lk rg = some (mn, lk', rg) ∧ (∀ q, k ≤ q → q < 36 → lk' (36 * b + q) = 50) ∧ (∀ q, q < 36 * b + k ∨ 36 * b + 36 ≤ q → lk' q = lk q) := by
  intro j
  induction j with
  | zero =>
    intro k f lk hk hf
    obtain ⟨f, rfl⟩ : ∃ q, f = q + 1 := ⟨f - 1, by omega⟩
    refine ⟨lk, ?_, fun q h1 h2 => absurd h2 (by omega), fun _ _ => rfl⟩
    rw [f_X10_noHouses_l16.eq_2, if_pos (show (36 : Int32) ≤ nI k from nI_le (a := 36) (by omega) (by omega))]
  | succ j ih =>
    intro k f lk hk hf
    obtain ⟨f, rfl⟩ : ∃ q, f = q + 1 := ⟨f - 1, by omega⟩
    obtain ⟨lk', i1, i2, i3⟩ := ih (k + 1) f (upd lk (36 * b + k) 50) (by omega) (by omega)
    refine ⟨lk', ?_, fun q q1 q2 => ?_, fun q hq => ?_⟩
    · rw [f_X10_noHouses_l16.eq_2, if_neg (show ¬ (36 : Int32) ≤ nI k from nI_ge (b := 36) (by omega) (by omega)), show (36 : Int32) * nI b + nI k = nI (36 * b + k) from nI_ma 36 b k, bdn _ (by omega) (by omega), nI_cl (by omega), show nI k + (1 : Int32) = nI (k + 1) from nI_1 k]
      exact i1
    · by_cases h : q = k
      · subst h; rw [i3 _ (Or.inl (by omega)), pk_us]
      · exact i2 q (by omega) q2
    · rw [i3 q (by omega), pk_un (by omega)]
theorem E_noHouses {b : Nat} (hb : b < 2) (mn lk rg : Nat → Int32) : ∃ lk', f_X10_noHouses (nI b) mn lk rg = some (upd mn b 0, lk', upd rg b 0) ∧ (∀ q, q < 36 → lk' (36 * b + q) = 50) ∧ (∀ q, q < 36 * b ∨ 36 * b + 36 ≤ q → lk' q = lk q) := by
  have h0 := NF_big
  obtain ⟨lk', i1, i2, i3⟩ := E_noHouses_l (mn := upd mn b 0) (rg := upd rg b 0) hb 36 0 NF lk (by omega) (by omega)
  refine ⟨lk', ?_, fun q hq => i2 q (by omega) hq, fun q hq => i3 q (by omega)⟩
  unfold f_X10_noHouses
  rw [bdn _ hb (by omega), bdn _ hb (by omega), nI_cl (by omega)]
  exact i1
theorem E_layHouses_l {n : Nat} {mn : Nat → Int32} (hm : mn 0 = nI n) (h2 : 2 ≤ n) (h6 : n ≤ 6) {a1 a2 a3 a4 aM : Int32} {al nu tr : Nat → Int32} : ∀ (j k f : Nat) (wh : Nat → Int32), k + j = 6 → j < f → (∀ p, p < k → wh p = nI p) → ∃ wh' al' nu' tr', f_X10_layHouses_l2 mn f (nI k) a1 a2 a3 a4 aM wh al nu tr = some (0, 0, 0, 0, nI (NN n), wh', al', nu', tr') ∧ (∀ p, p < 6 → wh' p = nI p) ∧ TB n (nI (NN n)) al' nu' := by
  intro j
  induction j with
  | zero =>
    intro k f wh hk hf hw
    obtain ⟨f, rfl⟩ : ∃ q, f = q + 1 := ⟨f - 1, by omega⟩
    obtain ⟨al', nu', tr', e1, e2⟩ := E_layAll hm h2 h6 aM al nu tr
    refine ⟨wh, al', nu', tr', ?_, fun p hp => hw p (by omega), e2⟩
    rw [f_X10_layHouses_l2.eq_2, if_pos (show (6 : Int32) ≤ nI k from nI_le (a := 6) (by omega) (by omega)), e1, Option.bind_some]
  | succ j ih =>
    intro k f wh hk hf hw
    obtain ⟨f, rfl⟩ : ∃ q, f = q + 1 := ⟨f - 1, by omega⟩
    obtain ⟨wh', al', nu', tr', i1, i2, i3⟩ := ih (k + 1) f (upd wh k (nI k)) (by omega) (by omega) (fun p hp => by
      by_cases q : p = k
      · subst q; exact pk_us
      · rw [pk_un q]; exact hw p (by omega))
    refine ⟨wh', al', nu', tr', ?_, i2, i3⟩
    rw [f_X10_layHouses_l2.eq_2, if_neg (show ¬ (6 : Int32) ≤ nI k from nI_ge (b := 6) (by omega) (by omega)), bdn _ (by omega) (by omega), nI_cl (by omega), show nI k + (1 : Int32) = nI (k + 1) from nI_1 k]
    exact i1
theorem E_layHouses {n : Nat} {mn : Nat → Int32} (hm : mn 0 = nI n) (h2 : 2 ≤ n) (h6 : n ≤ 6) (a1 a2 a3 a4 aM : Int32) (wh al nu tr : Nat → Int32) : ∃ wh' al' nu' tr', f_X10_layHouses a1 a2 a3 a4 aM mn wh al nu tr = some (0, 0, 0, 0, nI (NN n), wh', al', nu', tr') ∧ (∀ p, p < 6 → wh' p = nI p) ∧ TB n (nI (NN n)) al' nu' := by
  have h0 := NF_big
  exact E_layHouses_l hm h2 h6 6 0 NF wh (by omega) (by omega) (fun p hp => absurd hp (by omega))
def D0 : HD := (2, 0, (fun i => if i = 0 then 1 else 0), (fun _ => 5), (fun _ => 0), (fun _ _ => 50))
theorem D0_ok : HOK D0 := by
  refine ⟨show 2 ≤ 2 by omega, show 2 ≤ 6 by omega, show 0 ≤ 1 by omega, fun i hi => ?_, fun i hi => show (5 : Nat) ≤ 20 by omega, fun i hi => show (0 : Nat) ≤ 4 by omega, fun i hi j hj => show (50 : Nat) ≤ 99 by omega⟩
  show (if i = 0 then 1 else 0) < 2
  split <;> omega
theorem bd012 {α : Type} (m : Option α) : bd (0 : Int32) 12 m = m := bdn (k := 0) m (by omega) (by omega)
theorem bd112 {α : Type} (m : Option α) : bd (1 : Int32) 12 m = m := bdn (k := 1) m (by omega) (by omega)
theorem init_ok : Init0 Inv := by
  obtain ⟨lk0, l1, l2⟩ := E_clear 0 0 0 (fun _ => 0)
  have hI2 : f_X2_init = some (0, 0, 0, (fun _ => 0), (fun _ => 0), (fun _ => 0), lk0) := by
    unfold f_X2_init
    rw [l1, Option.bind_some]
  obtain ⟨lkY, n1, n2, n3⟩ := E_noHouses (b := 0) (by omega) (fun _ => 0) (fun _ => 0) (fun _ => 0)
  have hm : (upd (upd (fun _ => 0) 0 0) 0 (2 : Int32)) 0 = nI 2 := rfl
  obtain ⟨wh', al', nu', tr', y1, y2, y3⟩ := E_layHouses (n := 2) hm (by omega) (by omega) 0 0 0 0 0 (fun _ => 0) (fun _ => 0) (fun _ => 0) (fun _ => 0)
  have hu : f_X9_init = some (nI (rw_ 2 0), 0, 0, (fun _ => 0), (fun _ => 0), nI 2, 0, 1, upd (upd (fun _ => 0) 0 1) 1 0, upd (upd (fun _ => 0) 0 5) 1 5, upd (upd (fun _ => 0) 0 0) 1 0, lk0, 0, 0, 0, (fun _ => 0), (fun _ => 0), (fun _ => 0), lk0, 0, (fun _ => 0), 0, (fun _ => 0), 0, (fun _ => 0), 0, (fun _ => 0), (fun _ => 0), (fun _ => 0), (fun _ => 0), 0, 0, 0, 0, -1, (fun _ => 0), (fun _ => 0), 0, (fun _ => 0), (fun _ => 0), (fun _ => 0), (fun _ => 0), 0, 1, (fun _ => 0), (fun _ => 0), 0, 0) := by
    unfold f_X9_init
    rw [hI2]
    rfl
  have hv : f_X10_init = some (0, 0, 0, 0, 0, 0, 0, nI (NN 2), 0, (fun _ => 0), upd (upd (fun _ => 0) 0 0) 0 2, upd (fun _ => 0) 0 1, upd (upd (fun _ => 0) 0 5) 1 5, (fun _ => 0), lkY, upd (fun _ => 0) 0 0, wh', (fun _ => 0), (fun _ => 0), (fun _ => 0), (fun _ => 0), (fun _ => 0), (fun _ => 0), (fun _ => 0), al', nu', tr', (fun _ => 0), (fun _ => 0), (fun _ => 0), (fun _ => 0), (fun _ => 0)) := by
    unfold f_X10_init
    rw [show f_X10_noHouses (0 : Int32) (fun _ => 0) (fun _ => 0) (fun _ => 0) = _ from n1, Option.bind_some, bd0]
    rw [bd012, bd012, bd112]
    show Option.bind (f_X10_layHouses 0 0 0 0 0 (upd (upd (fun _ => 0) 0 0) 0 2) (fun _ => 0) (fun _ => 0) (fun _ => 0) (fun _ => 0)) _ = _
    rw [y1, Option.bind_some]
    rfl
  refine ⟨_, _, hu, hv, D0, 0, D0_ok, by decide, ⟨0, by omega, rfl, rfl, rfl⟩, rfl, rfl, ⟨fun i hi => ?_, fun i hi => ?_, fun i hi => ?_, fun i hi j hj => ?_⟩, ⟨rfl, rfl, fun i hi => ?_, fun i hi => ?_, fun i hi => rfl, fun i hi j hj => ?_⟩, y3, rfl, fun p hp => ?_, ⟨0, by omega, rfl, rfl, fun j hj => absurd hj (by omega)⟩, ⟨0, by omega, rfl, rfl, fun j hj => absurd hj (by omega)⟩, ⟨0, by omega, rfl, rfl, fun j hj => absurd hj (by omega)⟩, ⟨0, by omega, rfl, rfl, fun j hj => absurd hj (by omega)⟩, Or.inl rfl⟩
  · have hi' : i < 2 := hi
    rcases (show i = 0 ∨ i = 1 by omega) with rfl | rfl <;> rfl
  · have hi' : i < 2 := hi
    rcases (show i = 0 ∨ i = 1 by omega) with rfl | rfl <;> rfl
  · have hi' : i < 2 := hi
    rcases (show i = 0 ∨ i = 1 by omega) with rfl | rfl <;> rfl
  · have hi' : i < 2 := hi
    have hj' : j < 2 := hj
    exact l2 (8 * i + j) (by omega)
  · have hi' : i < 2 := hi
    rcases (show i = 0 ∨ i = 1 by omega) with rfl | rfl <;> rfl
  · have hi' : i < 2 := hi
    rcases (show i = 0 ∨ i = 1 by omega) with rfl | rfl <;> rfl
  · have hi' : i < 2 := hi
    have hj' : j < 2 := hj
    have h := n2 (6 * i + j) (by omega)
    rw [Nat.mul_zero, Nat.zero_add] at h
    exact h
  · have hp' : p < 2 := hp
    have h := y2 p (by omega)
    show wh' p = nI (dg 2 0 p)
    rw [tb_id 2 (by omega) (by omega) p hp']
    exact h
