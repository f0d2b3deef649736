/-! the reference lays its tables -/
theorem scan_add (n : Nat) : ∀ (k l c A : Nat) {B : Nat}, scan n k c A = some B → scan n (k + l) c A = scan n l (c + k) B
  | 0, l, c, A, B, h => by rw [scan] at h; cases h; rw [Nat.zero_add, Nat.add_zero]
  | k + 1, l, c, A, B, h => by
    rw [show k + 1 + l = (k + l) + 1 by omega, scan]
    rw [scan] at h
    by_cases h1 : cset n c 0 = 2 ^ n - 1
    · rw [if_pos h1] at h ⊢
      by_cases h2 : cd_ n A = c ∧ A < NN n ∧ cdig n A c n = true
      · rw [if_pos h2] at h ⊢
        rw [scan_add n k l (c + 1) (A + 1) h, show c + 1 + k = c + (k + 1) by omega]
      · rw [if_neg h2] at h; cases h
    · rw [if_neg h1] at h ⊢
      rw [scan_add n k l (c + 1) A h, show c + 1 + k = c + (k + 1) by omega]
theorem scan6 : scan 6 46656 0 0 = some 720 := by
  have e1 := scan_add 6 7776 38880 0 0 scan6_0
  have e2 := scan_add 6 7776 31104 7776 120 scan6_1
  have e3 := scan_add 6 7776 23328 15552 240 scan6_2
  have e4 := scan_add 6 7776 15552 23328 360 scan6_3
  have e5 := scan_add 6 7776 7776 31104 480 scan6_4
  have h6 := scan6_5
  exact e1.trans (e2.trans (e3.trans (e4.trans (e5.trans h6))))
theorem scan_all {n : Nat} (h2 : 2 ≤ n) (h6 : n ≤ 6) : scan n (6 ^ n) 0 0 = some (NN n) := by
  rcases (show n = 2 ∨ n = 3 ∨ n = 4 ∨ n = 5 ∨ n = 6 by omega) with rfl | rfl | rfl | rfl | rfl
  · exact scan2
  · exact scan3
  · exact scan4
  · exact scan5
  · exact scan6
theorem sh1 : ∀ s, s < 64 → ∀ d, d < 6 → (nI s ||| ((1 : Int32) <<< (nI d &&& 31))) = nI (s ||| 2 ^ d) ∧ (s ||| 2 ^ d) < 64 := by decide +kernel
theorem shn : ∀ n, n < 7 → ((1 : Int32) <<< (nI n &&& 31)) - (1 : Int32) = nI (2 ^ n - 1) := by decide +kernel
theorem p6 : ∀ n, n < 7 → 6 ^ n ≤ 46656 := by decide +kernel
theorem p2 : ∀ n, n < 7 → 2 ^ n ≤ 64 := by decide +kernel
theorem cset_lt : ∀ (k v s : Nat), s < 64 → cset k v s < 64
  | 0, _, s, h => h
  | k + 1, v, s, h => by
    rw [cset]
    exact cset_lt k _ _ (sh1 s h (v % 6) (Nat.mod_lt _ (by omega))).2
theorem cdig_at {n A c : Nat} : ∀ {k : Nat}, cdig n A c k = true → ∀ p, p < k → c / 6 ^ (n - 1 - p) % 6 = dg n A p
  | 0, _, p, hp => absurd hp (by omega)
  | k + 1, h, p, hp => by
    rw [cdig, Bool.and_eq_true] at h
    by_cases e : p = k
    · subst e; exact eq_of_beq h.1
    · exact cdig_at h.2 p (by omega)
/-- the tables hold the first A arrangements, of codes below c -/
def TBA (n A c : Nat) (al nu : Nat → Int32) : Prop := (∀ a, a < A → cd_ n a < c) ∧ (∀ a, a < A → ∀ p, p < n → al (6 * a + p) = nI (dg n a p)) ∧ (∀ a, a < A → nu (cd_ n a) = nI a)
section LA
variable {n : Nat} {mn : Nat → Int32}
theorem E_la52 (hm : mn 0 = nI n) (h6 : n ≤ 6) {c : Nat} {x1 aM : Int32} {al nu : Nat → Int32} (P : Option (Int32 × (Nat → Int32) × (Nat → Int32) × (Nat → Int32)) → Prop) (K : Int32 → Int32 → Int32 → (Nat → Int32) → (Nat → Int32) → (Nat → Int32) → Option (Int32 × (Nat → Int32) × (Nat → Int32) × (Nat → Int32))) :
    ∀ (m v s f : Nat) (tr : Nat → Int32), m ≤ n → m < f → v < 100000 → s < 64 → (∀ (g : Nat) (tr' : Nat → Int32), (∀ p, p < m → tr' p = nI (v / 6 ^ (m - 1 - p) % 6)) → (∀ p, m ≤ p → tr' p = tr p) → P (f_X10_layAll_l52 mn K (g + 1) x1 (nI c) (nI (v / 6 ^ m)) (nI (cset m v s)) (nI 0 - 1) aM al nu tr')) → P (f_X10_layAll_l52 mn K f x1 (nI c) (nI v) (nI s) (nI m - 1) aM al nu tr) := by
  intro m
  induction m with
  | zero =>
    intro v s f tr hmn hf hv hs hP
    obtain ⟨f, rfl⟩ : ∃ g, f = g + 1 := ⟨f - 1, by omega⟩
    have h := hP f tr (fun p hp => absurd hp (by omega)) (fun _ _ => rfl)
    rw [Nat.pow_zero, Nat.div_one] at h
    exact h
  | succ m ih =>
    intro v s f tr hmn hf hv hs hP
    obtain ⟨f, rfl⟩ : ∃ g, f = g + 1 := ⟨f - 1, by omega⟩
    have hd : v % 6 < 6 := Nat.mod_lt _ (by omega)
    obtain ⟨s1, s2⟩ := sh1 s hs (v % 6) hd
    have e6 : nI v / (6 : Int32) = nI (v / 6) := pk_div (d := 6) (by omega) (by omega) (by omega)
    have r6 : nI v - nI v / (6 : Int32) * (6 : Int32) = nI (v % 6) := pk_rem (d := 6) (by omega) (by omega) (by omega)
    have e : nI m + (-1 : Int32) = nI m - 1 := (Int32.sub_eq_add_neg (nI m) 1).symm
    rw [f_X10_layAll_l52.eq_2, nI_s1 (by omega), show m + 1 - 1 = m by omega, if_neg (nI_lt0 (by omega)), bdn _ (by omega) (by omega), r6, e6, s1, nI_cl (by omega), e]
    refine ih (v / 6) (s ||| 2 ^ (v % 6)) f _ (by omega) (by omega) (by omega) s2 (fun g tr' t1 t2 => ?_)
    have h := hP g tr' (fun p hp => ?_) (fun p hp => ?_)
    · rw [show v / 6 ^ (m + 1) = v / 6 / 6 ^ m by rw [Nat.div_div_eq_div_mul, Nat.pow_succ, Nat.mul_comm]] at h
      exact h
    · by_cases q : p = m
      · subst q
        rw [t2 p (Nat.le_refl _), pk_us, show p + 1 - 1 - p = 0 by omega, Nat.pow_zero, Nat.div_one]
      · rw [t1 p (by omega), Nat.div_div_eq_div_mul, show m + 1 - 1 - p = (m - 1 - p) + 1 by omega, Nat.pow_succ, Nat.mul_comm]
    · rw [t2 p (by omega), pk_un (by omega)]
theorem E_la108 (hm : mn 0 = nI n) (h6 : n ≤ 6) {c A : Nat} {x1 : Int32} {nu tr : Nat → Int32} (hc : c < 46656) (hA : A < 720) (P : Option (Int32 × (Nat → Int32) × (Nat → Int32) × (Nat → Int32)) → Prop) (K : Int32 → Int32 → Int32 → (Nat → Int32) → (Nat → Int32) → (Nat → Int32) → Option (Int32 × (Nat → Int32) × (Nat → Int32) × (Nat → Int32))) :
    ∀ (j k f : Nat) (al : Nat → Int32), k + j = n → j < f → (∀ al' : Nat → Int32, (∀ p, k ≤ p → p < n → al' (6 * A + p) = tr p) → (∀ q, (q < 6 * A + k ∨ 6 * A + 6 ≤ q) → al' q = al q) → P (K x1 (nI (c + 1)) (nI (A + 1)) al' (upd nu c (nI A)) tr)) → P (f_X10_layAll_l108 mn K f x1 (nI c) (nI k) (nI A) al nu tr) := by
  intro j
  induction j with
  | zero =>
    intro k f al hk hf hP
    obtain ⟨f, rfl⟩ : ∃ g, f = g + 1 := ⟨f - 1, by omega⟩
    rw [f_X10_layAll_l108.eq_2, bd0, c0, hm, if_pos (nI_le (by omega) (by omega)), bdn _ hc (by omega), nI_cl (by omega)]
    unfold f_X10_layAll_b167
    rw [show nI c + (1 : Int32) = nI (c + 1) from nI_1 c, show nI A + (1 : Int32) = nI (A + 1) from nI_1 A]
    exact hP al (fun p h1 h2 => absurd h2 (by omega)) (fun _ _ => rfl)
  | succ j ih =>
    intro k f al hk hf hP
    obtain ⟨f, rfl⟩ : ∃ g, f = g + 1 := ⟨f - 1, by omega⟩
    rw [f_X10_layAll_l108.eq_2, bd0, c0, hm, if_neg (nI_ge (by omega) (by omega)), bdn _ (by omega) (by omega), show (6 : Int32) * nI A + nI k = nI (6 * A + k) from nI_ma 6 A k, bdn _ (by omega) (by omega), nI_cl (by omega), nI_cl (by omega), show nI k + (1 : Int32) = nI (k + 1) from nI_1 k]
    refine ih (k + 1) f _ (by omega) (by omega) (fun al' h1 h2 => hP al' (fun p p1 p2 => ?_) (fun q hq => ?_))
    · by_cases q : p = k
      · subst q; rw [h2 _ (Or.inl (by omega)), pk_us]
      · exact h1 p (by omega) p2
    · rw [h2 q (by omega), pk_un (by omega)]
theorem E_la32 (hm : mn 0 = nI n) (h2 : 2 ≤ n) (h6 : n ≤ 6) {B : Nat} : ∀ (k c A f : Nat) (al nu tr : Nat → Int32), c + k = 6 ^ n → k < f → scan n k c A = some B → TBA n A c al nu → ∃ al' nu' tr', f_X10_layAll_l32 mn f (nI (6 ^ n)) (nI c) (nI A) al nu tr = some (nI B, al', nu', tr') ∧ TBA n B (6 ^ n) al' nu' := by
  have hp6 := p6 n (by omega)
  have hN := NN_le n
  have h0 := NF_big
  intro k
  induction k with
  | zero =>
    intro c A f al nu tr hc hf hs hT
    obtain ⟨f, rfl⟩ : ∃ g, f = g + 1 := ⟨f - 1, by omega⟩
    rw [scan] at hs
    cases hs
    refine ⟨al, nu, tr, ?_, by rw [← hc]; exact hT⟩
    rw [f_X10_layAll_l32.eq_2, if_pos (nI_le (by omega) (by omega))]
  | succ k ih =>
    intro c A f al nu tr hc hf hs hT
    obtain ⟨f, rfl⟩ : ∃ g, f = g + 1 := ⟨f - 1, by omega⟩
    rw [scan] at hs
    rw [f_X10_layAll_l32.eq_2, if_neg (nI_ge (by omega) (by omega)), bd0, c0, hm]
    refine E_la52 (P := fun o => ∃ al' nu' tr', o = some (nI B, al', nu', tr') ∧ TBA n B (6 ^ n) al' nu') hm h6 (f_X10_layAll_l32 mn f) n c 0 NF tr (Nat.le_refl _) (by omega) (by omega) (by omega) (fun g tr' t1 t2 => ?_)
    have hcs := cset_lt n c 0 (by omega)
    rw [f_X10_layAll_l52.eq_2, if_pos (show nI 0 - 1 < (0 : Int32) by decide), bd0, c0, hm, shn n (by omega)]
    have hpn := p2 n (by omega)
    by_cases h1 : cset n c 0 = 2 ^ n - 1
    · rw [if_pos h1] at hs
      by_cases h3 : cd_ n A = c ∧ A < NN n ∧ cdig n A c n = true
      · rw [if_pos h3] at hs
        obtain ⟨q1, q2, q3⟩ := h3
        rw [if_pos (by rw [h1])]
        refine E_la108 (P := fun o => ∃ al' nu' tr', o = some (nI B, al', nu', tr') ∧ TBA n B (6 ^ n) al' nu') hm h6 (by omega) (by omega) (f_X10_layAll_l32 mn f) n 0 NF al (by omega) (by omega) (fun al' a1 a2 => ?_)
        refine ih (c + 1) (A + 1) f al' (upd nu c (nI A)) tr' (by omega) (by omega) hs ⟨fun a ha => ?_, fun a ha p hp => ?_, fun a ha => ?_⟩
        · by_cases q : a = A
          · subst q; omega
          · have := hT.1 a (by omega); omega
        · by_cases q : a = A
          · subst q
            rw [a1 p (by omega) hp, t1 p hp, cdig_at q3 p hp]
          · rw [a2 _ (Or.inl (by omega))]; exact hT.2.1 a (by omega) p hp
        · by_cases q : a = A
          · subst q; rw [q1, pk_us]
          · have := hT.1 a (by omega)
            rw [pk_un (by omega)]; exact hT.2.2 a (by omega)
      · rw [if_neg h3] at hs; cases hs
    · rw [if_neg h1] at hs
      rw [if_neg (fun q => h1 ((nI_eq (by omega) (by omega)).mp q))]
      unfold f_X10_layAll_b167
      rw [show nI c + (1 : Int32) = nI (c + 1) from nI_1 c]
      exact ih (c + 1) A f al nu tr' (by omega) (by omega) hs ⟨fun a ha => by have := hT.1 a ha; omega, hT.2.1, hT.2.2⟩
theorem E_la9 (hm : mn 0 = nI n) (h6 : n ≤ 6) {al nu tr : Nat → Int32} {aM : Int32} : ∀ (j k f : Nat), k + j = n → j < f → f_X10_layAll_l9 mn f (nI (6 ^ k)) (nI k) aM al nu tr = f_X10_layAll_l32 mn NF (nI (6 ^ n)) (0 : Int32) aM al nu tr := by
  intro j
  induction j with
  | zero =>
    intro k f hk hf
    obtain ⟨f, rfl⟩ : ∃ g, f = g + 1 := ⟨f - 1, by omega⟩
    rw [f_X10_layAll_l9.eq_2, bd0, c0, hm, if_pos (nI_le (by omega) (by omega)), show k = n by omega]
  | succ j ih =>
    intro k f hk hf
    obtain ⟨f, rfl⟩ : ∃ g, f = g + 1 := ⟨f - 1, by omega⟩
    rw [f_X10_layAll_l9.eq_2, bd0, c0, hm, if_neg (nI_ge (by omega) (by omega)), show nI (6 ^ k) * (6 : Int32) = nI (6 ^ (k + 1)) from pk_mul (6 ^ k) 6, show nI k + (1 : Int32) = nI (k + 1) from nI_1 k]
    exact ih (k + 1) f (by omega) (by omega)
theorem E_layAll (hm : mn 0 = nI n) (h2 : 2 ≤ n) (h6 : n ≤ 6) (aM : Int32) (al nu tr : Nat → Int32) : ∃ al' nu' tr', f_X10_layAll aM mn al nu tr = some (nI (NN n), al', nu', tr') ∧ TB n (nI (NN n)) al' nu' := by
  have h0 := NF_big
  have hp6 := p6 n (by omega)
  obtain ⟨al', nu', tr', i1, i2⟩ := E_la32 hm h2 h6 (6 ^ n) 0 0 NF al nu tr (by omega) (by omega) (scan_all h2 h6) ⟨fun a ha => absurd ha (by omega), fun a ha => absurd ha (by omega), fun a ha => absurd ha (by omega)⟩
  refine ⟨al', nu', tr', ?_, rfl, i2.2.1, i2.2.2⟩
  unfold f_X10_layAll
  have e := E_la9 (al := al) (nu := nu) (tr := tr) (aM := (0 : Int32)) hm h6 n 0 NF (by omega) (by omega)
  exact e.trans i1
end LA
