/-! ways from arrangement to arrangement, in general -/
theorem pig : ∀ (n k : Nat) (q : Nat → Nat), (∀ i, i < k → q i < n) → (∀ i j, i < j → j < k → q i ≠ q j) → k ≤ n := by
  intro n
  induction n with
  | zero =>
    intro k q h1 h2
    by_cases hk : k = 0
    · omega
    · exact absurd (h1 0 (by omega)) (by omega)
  | succ n ih =>
    intro k q h1 h2
    by_cases hx : ∃ i, i < k ∧ q i = n
    · obtain ⟨i, hi, e⟩ := hx
      have h := ih (k - 1) (fun j => if j < i then q j else q (j + 1)) (fun j hj => by
        by_cases c : j < i
        · have := h1 j (by omega)
          have := h2 j i c hi
          simp only [c, if_true]; omega
        · have := h1 (j + 1) (by omega)
          have := h2 i (j + 1) (by omega) (by omega)
          simp only [c, if_false]; omega) (fun a b hab hb => by
        by_cases ca : a < i
        · by_cases cb : b < i
          · simp only [ca, cb, if_true]; exact h2 a b hab (by omega)
          · simp only [ca, cb, if_true, if_false]; exact h2 a (b + 1) (by omega) (by omega)
        · have cb : ¬ b < i := by omega
          simp only [ca, cb, if_false]; exact h2 (a + 1) (b + 1) (by omega) (by omega))
      omega
    · have h := ih k q (fun i hi => by
        have := h1 i hi
        have : q i ≠ n := fun e => hx ⟨i, hi, e⟩
        omega) h2
      omega
/-- a way of m changes from a to b -/
def Wy (K : Nat) (S : Nat → Nat → Bool) (T : Nat → Nat → Nat) (a : Nat) : Nat → Nat → Prop
  | 0, b => a = b
  | m + 1, b => ∃ c, Wy K S T a m c ∧ ∃ x, x < K ∧ S c x = true ∧ T c x = b
/-- m is the length of the shortest -/
def Ds (K : Nat) (S : Nat → Nat → Bool) (T : Nat → Nat → Nat) (a m b : Nat) : Prop := Wy K S T a m b ∧ ∀ j, j < m → ¬ Wy K S T a j b
theorem wy_lt {N K : Nat} {S : Nat → Nat → Bool} {T : Nat → Nat → Nat} (hT : ∀ a, a < N → ∀ x, x < K → T a x < N) {a : Nat} (ha : a < N) : ∀ m b, Wy K S T a m b → b < N
  | 0, b, h => by have h' : a = b := h; omega
  | m + 1, b, h => by
    obtain ⟨c, h1, x, hx, _, e⟩ := h
    rw [← e]
    exact hT c (wy_lt hT ha m c h1) x hx
theorem wy_first {K : Nat} {S : Nat → Nat → Bool} {T : Nat → Nat → Nat} {a x : Nat} (hx : x < K) (hs : S a x = true) : ∀ m b, Wy K S T (T a x) m b → Wy K S T a (m + 1) b
  | 0, b, h => ⟨a, rfl, x, hx, hs, h⟩
  | m + 1, b, h => by
    obtain ⟨c, h1, h2⟩ := h
    exact ⟨c, wy_first hx hs m c h1, h2⟩
theorem wy_split {K : Nat} {S : Nat → Nat → Bool} {T : Nat → Nat → Nat} {a : Nat} : ∀ m b, Wy K S T a (m + 1) b → ∃ x, x < K ∧ S a x = true ∧ Wy K S T (T a x) m b
  | 0, b, h => by
    obtain ⟨c, h1, x, hx, hs, e⟩ := h
    have h1' : a = c := h1
    subst h1'
    exact ⟨x, hx, hs, e⟩
  | m + 1, b, h => by
    obtain ⟨c, h1, h2⟩ := h
    obtain ⟨x, hx, hs, h3⟩ := wy_split m c h1
    exact ⟨x, hx, hs, c, h3, h2⟩
theorem ds_uniq {K : Nat} {S : Nat → Nat → Bool} {T : Nat → Nat → Nat} {a b m m' : Nat} (h : Ds K S T a m b) (h' : Ds K S T a m' b) : m = m' := by
  rcases Nat.lt_trichotomy m m' with q | q | q
  · exact absurd h.1 (h'.2 m q)
  · exact q
  · exact absurd h'.1 (h.2 m' q)
/-- the reference, in the course of a round -/
def RI (N K : Nat) (S : Nat → Nat → Bool) (T : Nat → Nat → Nat) (a n z : Nat) (mo : Int32) (rc : Nat → Int32) : Prop :=
  (mo = 0 ∨ (mo = 1 ∧ ∃ b, b < N ∧ Ds K S T a (n + 1) b)) ∧ ∀ b, b < N → (∃ m, m ≤ n ∧ Ds K S T a m b ∧ rc b = nI m) ∨ (Ds K S T a (n + 1) b ∧ rc b = nI (n + 1) ∧ mo = 1) ∨ ((∀ m, m ≤ n → ¬ Wy K S T a m b) ∧ rc b = -4 ∧ ∀ c y, 6 * c + y < z → c < N → y < K → S c y = true → T c y = b → ¬ Ds K S T a n c)
theorem E_lr56 {N K : Nat} {S : Nat → Nat → Bool} {T : Nat → Nat → Nat} {mn ri we : Nat → Int32} (hN : N ≤ 720) (hK : K ≤ 6) (hT : ∀ a, a < N → ∀ x, x < K → T a x < N) (hc : f_X10_changeMany mn ri = some (nI K)) (hw : ∀ a, a < N → ∀ x, x < K → we (6 * a + x) = if S a x then nI (T a x) else -4) {a n k : Nat} (hn : n < 1000) (hk : k < N) (K35 : Int32 → Int32 → (Nat → Int32) → Option (Nat → Int32)) (K44 : Int32 → Int32 → Int32 → (Nat → Int32) → Option (Nat → Int32)) : ∀ (j x f : Nat) (mo : Int32) (rc : Nat → Int32), x + j = K → j < f → RI N K S T a n (6 * k + x) mo rc → ∃ mo' rc', f_X10_layReached_l56 (nI N) mn ri we K35 K44 f mo (nI n) (nI k) (nI x) rc = K44 mo' (nI n) (nI (k + 1)) rc' ∧ RI N K S T a n (6 * (k + 1)) mo' rc' := by
  intro j
  induction j with
  | zero =>
    intro x f mo rc hx hf hI
    obtain ⟨f, rfl⟩ : ∃ q, f = q + 1 := ⟨f - 1, by omega⟩
    refine ⟨mo, rc, ?_, hI.1, fun b hb => ?_⟩
    · rw [f_X10_layReached_l56.eq_2, hc, Option.bind_some, if_pos (nI_le (by omega) (by omega))]
      unfold f_X10_layReached_b124
      rw [show nI k + (1 : Int32) = nI (k + 1) from nI_1 k]
    · rcases hI.2 b hb with h | h | ⟨h1, h2, h3⟩
      · exact Or.inl h
      · exact Or.inr (Or.inl h)
      · exact Or.inr (Or.inr ⟨h1, h2, fun c y hz hcN hy => h3 c y (by omega) hcN hy⟩)
  | succ j ih =>
    intro x f mo rc hx hf hI
    obtain ⟨f, rfl⟩ : ∃ q, f = q + 1 := ⟨f - 1, by omega⟩
    rw [f_X10_layReached_l56.eq_2, hc, Option.bind_some, if_neg (nI_ge (by omega) (by omega)), bdn _ (show k < 720 by omega) (by omega), nI_cl (by omega)]
    have hxK : x < K := by omega
    by_cases hr : rc k = nI n
    · have hD : Ds K S T a n k := by
        rcases hI.2 k hk with ⟨m, hm, hd, e⟩ | ⟨hd, e, _⟩ | ⟨_, e, _⟩
        · rw [e] at hr
          have := (nI_eq (by omega) (by omega)).mp hr
          rw [← this]; exact hd
        · rw [e] at hr
          have := (nI_eq (by omega) (by omega)).mp hr
          omega
        · rw [e] at hr
          exact absurd (show (0 : Int32) ≤ -4 from hr ▸ nI_ge0 (by omega)) (by decide)
      rw [if_pos hr, show (6 : Int32) * nI k + nI x = nI (6 * k + x) from nI_ma 6 k x, bdn _ (show 6 * k + x < 4320 by omega) (by omega), nI_cl (by omega), hw k hk x hxK]
      unfold f_X10_layReached_b118
      rw [show nI x + (1 : Int32) = nI (x + 1) from nI_1 x]
      cases hs : S k x with
      | false =>
        rw [show (if false = true then nI (T k x) else (-4 : Int32)) = -4 from rfl, if_pos (show (-4 : Int32) < 0 by decide)]
        refine ih (x + 1) f mo rc (by omega) (by omega) ⟨hI.1, fun b hb => ?_⟩
        rcases hI.2 b hb with h | h | ⟨h1, h2, h3⟩
        · exact Or.inl h
        · exact Or.inr (Or.inl h)
        · refine Or.inr (Or.inr ⟨h1, h2, fun c y hz hcN hy hsy => ?_⟩)
          by_cases q : 6 * c + y < 6 * k + x
          · exact h3 c y q hcN hy hsy
          · obtain ⟨rfl, rfl⟩ : c = k ∧ y = x := by omega
            rw [hs] at hsy; exact absurd hsy (by decide)
      | true =>
        have ht := hT k hk x hxK
        rw [if_pos rfl, if_neg (nI_lt0 (by omega)), bdn _ (show T k x < 720 by omega) (by omega), nI_cl (by omega)]
        by_cases hv : 0 ≤ rc (T k x)
        · rw [if_pos hv]
          refine ih (x + 1) f mo rc (by omega) (by omega) ⟨hI.1, fun b hb => ?_⟩
          rcases hI.2 b hb with h | h | ⟨h1, h2, h3⟩
          · exact Or.inl h
          · exact Or.inr (Or.inl h)
          · refine Or.inr (Or.inr ⟨h1, h2, fun c y hz hcN hy hsy het => ?_⟩)
            by_cases q : 6 * c + y < 6 * k + x
            · exact h3 c y q hcN hy hsy het
            · obtain ⟨rfl, rfl⟩ : c = k ∧ y = x := by omega
              rw [het, h2] at hv
              exact absurd hv (by decide)
        · rw [if_neg hv, bdn _ (show T k x < 720 by omega) (by omega), show nI n + (1 : Int32) = nI (n + 1) from nI_1 n]
          have hnew : Ds K S T a (n + 1) (T k x) := by
            refine ⟨⟨k, hD.1, x, hxK, hs, rfl⟩, fun m hm => ?_⟩
            rcases hI.2 (T k x) ht with ⟨m', _, _, e⟩ | ⟨_, e, _⟩ | ⟨h1, _, _⟩
            · exact absurd (e ▸ nI_ge0 (by omega)) hv
            · exact absurd (e ▸ nI_ge0 (by omega)) hv
            · exact h1 m (by omega)
          refine ih (x + 1) f 1 _ (by omega) (by omega) ⟨Or.inr ⟨rfl, T k x, ht, hnew⟩, fun b hb => ?_⟩
          by_cases hbt : b = T k x
          · subst hbt
            exact Or.inr (Or.inl ⟨hnew, pk_us, rfl⟩)
          · rw [pk_un hbt]
            rcases hI.2 b hb with h | h | ⟨h1, h2, h3⟩
            · exact Or.inl h
            · exact Or.inr (Or.inl ⟨h.1, h.2.1, rfl⟩)
            · refine Or.inr (Or.inr ⟨h1, h2, fun c y hz hcN hy hsy het => ?_⟩)
              by_cases q : 6 * c + y < 6 * k + x
              · exact h3 c y q hcN hy hsy het
              · obtain ⟨rfl, rfl⟩ : c = k ∧ y = x := by omega
                exact absurd het.symm hbt
    · rw [if_neg hr]
      refine ⟨mo, rc, ?_, hI.1, fun b hb => ?_⟩
      · unfold f_X10_layReached_b124
        rw [show nI k + (1 : Int32) = nI (k + 1) from nI_1 k]
      · rcases hI.2 b hb with h | h | ⟨h1, h2, h3⟩
        · exact Or.inl h
        · exact Or.inr (Or.inl h)
        · refine Or.inr (Or.inr ⟨h1, h2, fun c y hz hcN hy hsy het => ?_⟩)
          by_cases q : 6 * c + y < 6 * k + x
          · exact h3 c y q hcN hy hsy het
          · obtain rfl : c = k := by omega
            intro hd
            rcases hI.2 c hk with ⟨m, hm, hd', e⟩ | ⟨hd', e, _⟩ | ⟨h1', _, _⟩
            · exact hr (by rw [e, ds_uniq hd hd'])
            · exact absurd (ds_uniq hd hd') (by omega)
            · exact h1' n (by omega) hd.1
theorem E_lr44 {N K : Nat} {S : Nat → Nat → Bool} {T : Nat → Nat → Nat} {mn ri we : Nat → Int32} (hN : N ≤ 720) (hK : K ≤ 6) (hT : ∀ a, a < N → ∀ x, x < K → T a x < N) (hc : f_X10_changeMany mn ri = some (nI K)) (hw : ∀ a, a < N → ∀ x, x < K → we (6 * a + x) = if S a x then nI (T a x) else -4) {a n : Nat} (hn : n < 1000) (K35 : Int32 → Int32 → (Nat → Int32) → Option (Nat → Int32)) : ∀ (j k f : Nat) (mo : Int32) (rc : Nat → Int32), k + j = N → j < f → RI N K S T a n (6 * k) mo rc → ∃ mo' rc', f_X10_layReached_l44 (nI N) mn ri we K35 f mo (nI n) (nI k) rc = K35 mo' (nI (n + 1)) rc' ∧ RI N K S T a n (6 * N) mo' rc' := by
  intro j
  induction j with
  | zero =>
    intro k f mo rc hk hf hI
    obtain ⟨f, rfl⟩ : ∃ q, f = q + 1 := ⟨f - 1, by omega⟩
    obtain rfl : k = N := by omega
    refine ⟨mo, rc, ?_, hI⟩
    rw [f_X10_layReached_l44.eq_2, if_pos (nI_le (Nat.le_refl _) (by omega)), show nI n + (1 : Int32) = nI (n + 1) from nI_1 n]
  | succ j ih =>
    intro k f mo rc hk hf hI
    obtain ⟨f, rfl⟩ : ∃ q, f = q + 1 := ⟨f - 1, by omega⟩
    have h0 := NF_big
    obtain ⟨mo1, rc1, e1, hI1⟩ := E_lr56 hN hK hT hc hw hn (show k < N by omega) K35 (f_X10_layReached_l44 (nI N) mn ri we K35 f) K 0 NF mo rc (by omega) (by omega) hI
    obtain ⟨mo2, rc2, e2, hI2⟩ := ih (k + 1) f mo1 rc1 (by omega) (by omega) hI1
    refine ⟨mo2, rc2, ?_, hI2⟩
    rw [f_X10_layReached_l44.eq_2, if_neg (nI_ge (by omega) (by omega))]
    exact e1.trans e2
/-- the reference, when done -/
def RF (N K : Nat) (S : Nat → Nat → Bool) (T : Nat → Nat → Nat) (a : Nat) (rc : Nat → Int32) : Prop :=
  ∀ b, b < N → (∃ m, m < N ∧ Ds K S T a m b ∧ rc b = nI m) ∨ ((∀ m, ¬ Wy K S T a m b) ∧ rc b = -4)
theorem E_lr35 {N K : Nat} {S : Nat → Nat → Bool} {T : Nat → Nat → Nat} {mn ri we : Nat → Int32} (hN : N ≤ 720) (hK : K ≤ 6) (hT : ∀ a, a < N → ∀ x, x < K → T a x < N) (hc : f_X10_changeMany mn ri = some (nI K)) (hw : ∀ a, a < N → ∀ x, x < K → we (6 * a + x) = if S a x then nI (T a x) else -4) {a : Nat} (ha : a < N) : ∀ (j n f : Nat) (rc : Nat → Int32), n + j = N → j + 1 < f → (∃ q : Nat → Nat, ∀ i, i ≤ n → q i < N ∧ Ds K S T a i (q i)) → (∀ b, b < N → (∃ m, m ≤ n ∧ Ds K S T a m b ∧ rc b = nI m) ∨ ((∀ m, m ≤ n → ¬ Wy K S T a m b) ∧ rc b = -4)) → ∃ rc', f_X10_layReached_l35 (nI N) mn ri we f 1 (nI n) rc = some rc' ∧ RF N K S T a rc' := by
  intro j
  induction j with
  | zero =>
    intro n f rc hn hf hq hI
    obtain ⟨q, hq⟩ := hq
    have := pig N (n + 1) q (fun i hi => (hq i (by omega)).1) (fun i j hij hj e => by
      have h1 := (hq i (by omega)).2
      have h2 := (hq j (by omega)).2
      rw [e] at h1
      have := ds_uniq h1 h2
      omega)
    omega
  | succ j ih =>
    intro n f rc hn hf hq hI
    obtain ⟨f, rfl⟩ : ∃ q, f = q + 1 := ⟨f - 1, by omega⟩
    have h0 := NF_big
    obtain ⟨mo1, rc1, e1, hm1, hI1⟩ := E_lr44 hN hK hT hc hw (show n < 1000 by omega) (f_X10_layReached_l35 (nI N) mn ri we f) N 0 NF 0 rc (a := a) (by omega) (by omega) ⟨Or.inl rfl, fun b hb => by
      rcases hI b hb with h | ⟨h1, h2⟩
      · exact Or.inl h
      · exact Or.inr (Or.inr ⟨h1, h2, fun c y hz => absurd hz (by omega)⟩)⟩
    have hno : ∀ b, b < N → (∀ m, m ≤ n → ¬ Wy K S T a m b) → (∀ c y, 6 * c + y < 6 * N → c < N → y < K → S c y = true → T c y = b → ¬ Ds K S T a n c) → ¬ Wy K S T a (n + 1) b := by
      intro b hb h1 h3 hwy
      obtain ⟨c, hc', y, hy, hs, het⟩ := hwy
      have hcN := wy_lt hT ha n c hc'
      refine h3 c y (by omega) hcN hy hs het ⟨hc', fun i hi hwi => ?_⟩
      exact h1 (i + 1) (by omega) ⟨c, hwi, y, hy, hs, het⟩
    rw [f_X10_layReached_l35.eq_2, if_neg (by decide)]
    rcases hm1 with rfl | ⟨rfl, b1, hb1, hd1⟩
    · refine ⟨rc1, ?_, fun b hb => ?_⟩
      · refine e1.trans ?_
        obtain ⟨f, rfl⟩ : ∃ q, f = q + 1 := ⟨f - 1, by omega⟩
        rw [f_X10_layReached_l35.eq_2, if_pos rfl]
      · rcases hI1 b hb with ⟨m, hm, hd, e⟩ | ⟨_, _, e⟩ | ⟨h1, h2, h3⟩
        · exact Or.inl ⟨m, by omega, hd, e⟩
        · exact absurd e (by decide)
        · refine Or.inr ⟨fun m hwy => ?_, h2⟩
          have hall : ∀ m b, Wy K S T a m b → ∃ i, i ≤ n ∧ Wy K S T a i b := by
            intro m
            induction m with
            | zero => intro b h; exact ⟨0, by omega, h⟩
            | succ m ihm =>
              intro b h
              have hbN := wy_lt hT ha _ _ h
              obtain ⟨c, hc', hrest⟩ := h
              obtain ⟨i, hi, hwi⟩ := ihm c hc'
              rcases hI1 b hbN with ⟨m', hm', hd', _⟩ | ⟨_, _, e⟩ | ⟨g1, g2, g3⟩
              · exact ⟨m', hm', hd'.1⟩
              · exact absurd e (by decide)
              · by_cases hin : i = n
                · subst hin
                  exact absurd ⟨c, hwi, hrest⟩ (hno b hbN g1 g3)
                · exact ⟨i + 1, by omega, c, hwi, hrest⟩
          obtain ⟨i, hi, hwi⟩ := hall m b hwy
          exact h1 i hi hwi
    · obtain ⟨q, hq⟩ := hq
      obtain ⟨rc2, e2, hR⟩ := ih (n + 1) f rc1 (by omega) (by omega) ⟨fun i => if i = n + 1 then b1 else q i, fun i hi => by
        by_cases c : i = n + 1
        · subst c; simp only [if_true]; exact ⟨hb1, hd1⟩
        · simp only [c, if_false]; exact hq i (by omega)⟩ (fun b hb => by
        rcases hI1 b hb with ⟨m, hm, hd, e⟩ | ⟨hd, e, _⟩ | ⟨h1, h2, h3⟩
        · exact Or.inl ⟨m, by omega, hd, e⟩
        · exact Or.inl ⟨n + 1, by omega, hd, e⟩
        · refine Or.inr ⟨fun m hm => ?_, h2⟩
          by_cases c : m = n + 1
          · subst c; exact hno b hb h1 h3
          · exact h1 m (by omega))
      exact ⟨rc2, e1.trans e2, hR⟩
theorem E_lr2 {N K : Nat} {S : Nat → Nat → Bool} {T : Nat → Nat → Nat} {mn ri we : Nat → Int32} (hN : N ≤ 720) (hK : K ≤ 6) (hT : ∀ a, a < N → ∀ x, x < K → T a x < N) (hc : f_X10_changeMany mn ri = some (nI K)) (hw : ∀ a, a < N → ∀ x, x < K → we (6 * a + x) = if S a x then nI (T a x) else -4) {a : Nat} (ha : a < N) : ∀ (j k f : Nat) (rc : Nat → Int32), k + j = N → j < f → (∀ b, b < k → rc b = -4) → ∃ rc', f_X10_layReached_l2 (nI N) mn ri we f (nI a) (nI k) rc = some rc' ∧ RF N K S T a rc' := by
  intro j
  induction j with
  | zero =>
    intro k f rc hk hf h4
    obtain ⟨f, rfl⟩ : ∃ q, f = q + 1 := ⟨f - 1, by omega⟩
    have h0 := NF_big
    obtain ⟨rc', e, hR⟩ := E_lr35 hN hK hT hc hw ha N 0 NF (upd rc a 0) (by omega) (by omega) ⟨fun _ => a, fun i hi => ⟨ha, by
      obtain rfl : i = 0 := by omega
      exact ⟨rfl, fun j hj => absurd hj (by omega)⟩⟩⟩ (fun b hb => by
      by_cases c : b = a
      · subst c; exact Or.inl ⟨0, by omega, ⟨rfl, fun j hj => absurd hj (by omega)⟩, pk_us⟩
      · refine Or.inr ⟨fun m hm hwy => ?_, by rw [pk_un c]; exact h4 b (by omega)⟩
        obtain rfl : m = 0 := by omega
        exact c (Eq.symm hwy))
    refine ⟨rc', ?_, hR⟩
    rw [f_X10_layReached_l2.eq_2, if_pos (nI_le (by omega) (by omega)), bdn _ (show a < 720 by omega) (by omega), nI_cl (by omega)]
    exact e
  | succ j ih =>
    intro k f rc hk hf h4
    obtain ⟨f, rfl⟩ : ∃ q, f = q + 1 := ⟨f - 1, by omega⟩
    rw [f_X10_layReached_l2.eq_2, if_neg (nI_ge (by omega) (by omega)), bdn _ (show k < 720 by omega) (by omega), nI_cl (by omega), show nI k + (1 : Int32) = nI (k + 1) from nI_1 k]
    refine ih (k + 1) f _ (by omega) (by omega) (fun b hb => ?_)
    by_cases c : b = k
    · subst c; exact pk_us
    · rw [pk_un c]; exact h4 b (by omega)
theorem E_layReached {N K : Nat} {S : Nat → Nat → Bool} {T : Nat → Nat → Nat} {mn ri we : Nat → Int32} (hN : N ≤ 720) (hK : K ≤ 6) (hT : ∀ a, a < N → ∀ x, x < K → T a x < N) (hc : f_X10_changeMany mn ri = some (nI K)) (hw : ∀ a, a < N → ∀ x, x < K → we (6 * a + x) = if S a x then nI (T a x) else -4) {a : Nat} (ha : a < N) (rc : Nat → Int32) : ∃ rc', f_X10_layReached (nI a) (nI N) mn ri we rc = some rc' ∧ RF N K S T a rc' := by
  have h0 := NF_big
  exact E_lr2 hN hK hT hc hw ha N 0 NF rc (by omega) (by omega) (fun b hb => absurd hb (by omega))
