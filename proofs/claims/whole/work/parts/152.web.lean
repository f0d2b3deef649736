/-! the reference's web -/
def WOK (D : HD) (we : Nat → Int32) : Prop := ∀ a, a < NN D.1 → ∀ x, x < kk D.1 D.2.1 → we (6 * a + x) = if suitB D a x then nI (chg D.1 a x) else -4
/-- the lowest change that suits, from k on, of j; behind them: none -/
def lowF (D : HD) (a k : Nat) : Nat → Nat
  | 0 => k
  | j + 1 => if suitB D a k then k else lowF D a (k + 1) j
def lowN (D : HD) (a : Nat) : Nat := lowF D a 0 (kk D.1 D.2.1)
theorem lowF_le (D : HD) (a : Nat) : ∀ (j k : Nat), k ≤ lowF D a k j ∧ lowF D a k j ≤ k + j
  | 0, k => ⟨Nat.le_refl _, Nat.le_refl _⟩
  | j + 1, k => by
    have h := lowF_le D a j (k + 1)
    rw [lowF]
    split <;> omega
theorem lowF_yes (D : HD) (a : Nat) : ∀ (j k : Nat), lowF D a k j < k + j → suitB D a (lowF D a k j) = true
  | 0, k, h => absurd h (by rw [lowF]; omega)
  | j + 1, k, h => by
    rw [lowF] at h ⊢
    cases e : suitB D a k
    · rw [e] at h
      rw [if_neg (by decide)] at h ⊢
      exact lowF_yes D a j (k + 1) (by omega)
    · rw [if_pos rfl]; exact e
theorem lowF_no (D : HD) (a : Nat) : ∀ (j k x : Nat), k ≤ x → x < lowF D a k j → suitB D a x = false
  | 0, k, x, h1, h2 => absurd h2 (by rw [lowF]; omega)
  | j + 1, k, x, h1, h2 => by
    rw [lowF] at h2
    cases e : suitB D a k
    · rw [e, if_neg (by decide)] at h2
      by_cases q : x = k
      · rw [q]; exact e
      · exact lowF_no D a j (k + 1) x (by omega) h2
    · rw [e, if_pos rfl] at h2
      omega
theorem lowN_le (D : HD) (a : Nat) : lowN D a ≤ kk D.1 D.2.1 := by
  have := (lowF_le D a (kk D.1 D.2.1) 0).2
  unfold lowN; omega
theorem rest_low (D : HD) (a : Nat) : restB D a = decide (lowN D a = kk D.1 D.2.1) := by
  by_cases h : lowN D a = kk D.1 D.2.1
  · rw [decide_eq_true h]
    exact restB_yes (fun x hx => lowF_no D a (kk D.1 D.2.1) 0 x (by omega) (by unfold lowN at h; omega))
  · rw [decide_eq_false h]
    have h1 := lowN_le D a
    exact restB_no (x := lowN D a) (by omega) (lowF_yes D a (kk D.1 D.2.1) 0 (by unfold lowN at h h1; omega))
section WB
variable {D : HD} {mn bs st ykd ylk ri all num : Nat → Int32} {am : Int32}
theorem E_web12 (ok : HOK D) (hy : HY D mn bs st ykd ylk ri) (tb : TB D.1 am all num) {a : Nat} {aM : Int32} (ha : a < NN D.1) (K : Int32 → (Nat → Int32) → (Nat → Int32) → Option ((Nat → Int32) × (Nat → Int32))) : ∀ (j k f : Nat) (tr we : Nat → Int32), k + j = kk D.1 D.2.1 → j < f → ∃ tr' we', f_X10_layWeb_l12 aM mn bs st ykd ylk ri all num K f (nI a) (nI k) tr we = K (nI (a + 1)) tr' we' ∧ (∀ x, k ≤ x → x < kk D.1 D.2.1 → we' (6 * a + x) = if suitB D a x then nI (chg D.1 a x) else -4) ∧ (∀ q, q < 6 * a + k ∨ 6 * a + 6 ≤ q → we' q = we q) := by
  have h2 := ok.1
  have h6 := ok.2.1
  have hg := ok.2.2.1
  have hN := NN_le D.1
  have hkk := (kk_bd (rg := D.2.1) h2 h6).2
  intro j
  induction j with
  | zero =>
    intro k f tr we hk hf
    obtain ⟨f, rfl⟩ : ∃ g, f = g + 1 := ⟨f - 1, by omega⟩
    refine ⟨tr, we, ?_, fun x h1 h2 => absurd h2 (by omega), fun _ _ => rfl⟩
    rw [f_X10_layWeb_l12.eq_2, E_countY hy.1 hy.2.1 h2 h6 hg, Option.bind_some, if_pos (nI_le (by omega) (by omega)), show nI a + (1 : Int32) = nI (a + 1) from nI_1 a]
  | succ j ih =>
    intro k f tr we hk hf
    obtain ⟨f, rfl⟩ : ∃ g, f = g + 1 := ⟨f - 1, by omega⟩
    have hkn : k < D.1 := by omega
    obtain ⟨tr1, hd⟩ := E_doesSuit0 (tr := tr) ok hy tb ha hkn
    obtain ⟨tr2, hbh⟩ := E_behind0 (tr := tr1) tb hy.1 h2 h6 ha hkn
    have fin : ∀ (v : Int32) (t : Nat → Int32), v = (if suitB D a k then nI (chg D.1 a k) else -4) → ∃ tr' we', f_X10_layWeb_b52 aM mn bs st ykd ylk ri all num K (f_X10_layWeb_l12 aM mn bs st ykd ylk ri all num K f) (nI a) (nI k) v ((6 : Int32) * nI a + nI k) t we = K (nI (a + 1)) tr' we' ∧ (∀ x, k ≤ x → x < kk D.1 D.2.1 → we' (6 * a + x) = if suitB D a x then nI (chg D.1 a x) else -4) ∧ (∀ q, q < 6 * a + k ∨ 6 * a + 6 ≤ q → we' q = we q) := by
      intro v t hv
      obtain ⟨tr', we', i1, i2, i3⟩ := ih (k + 1) f t (upd we (6 * a + k) v) (by omega) (by omega)
      refine ⟨tr', we', ?_, fun x x1 x2 => ?_, fun q hq => ?_⟩
      · unfold f_X10_layWeb_b52
        rw [show (6 : Int32) * nI a + nI k = nI (6 * a + k) from nI_ma 6 a k, bdn _ (by omega) (by omega), nI_cl (by omega), show nI k + (1 : Int32) = nI (k + 1) from nI_1 k]
        exact i1
      · by_cases h : x = k
        · subst h; rw [i3 _ (Or.inl (by omega)), pk_us, hv]
        · exact i2 x (by omega) x2
      · rw [i3 q (by omega), pk_un (by omega)]
    rw [f_X10_layWeb_l12.eq_2, E_countY hy.1 hy.2.1 h2 h6 hg, Option.bind_some, if_neg (nI_ge (by omega) (by omega)), hd, Option.bind_some]
    cases e : suitB D a k
    · rw [e] at fin
      obtain ⟨tr', we', j1, j2, j3⟩ := fin (-4) tr1 rfl
      refine ⟨tr', we', ?_, j2, j3⟩
      rw [← j1]
      exact if_pos rfl
    · rw [e] at fin
      obtain ⟨tr', we', j1, j2, j3⟩ := fin (nI (chg D.1 a k)) tr2 rfl
      refine ⟨tr', we', ?_, j2, j3⟩
      rw [← j1]
      show (if bI true = 0 then _ else Option.bind (f_X10_behind (nI a) (nI k) 0 mn all num tr1) _) = _
      rw [if_neg (by decide), hbh, Option.bind_some]
theorem E_web2 (ok : HOK D) (hy : HY D mn bs st ykd ylk ri) (tb : TB D.1 am all num) : ∀ (j a f : Nat) (tr we : Nat → Int32), a + j = NN D.1 → j < f → (∀ b, b < a → ∀ x, x < kk D.1 D.2.1 → we (6 * b + x) = if suitB D b x then nI (chg D.1 b x) else -4) → ∃ tr' we', f_X10_layWeb_l2 am mn bs st ykd ylk ri all num f (nI a) tr we = some (tr', we') ∧ WOK D we' := by
  have h2 := ok.1
  have h6 := ok.2.1
  have hN := NN_le D.1
  have h0 := NF_big
  have hkk := (kk_bd (rg := D.2.1) h2 h6).2
  intro j
  induction j with
  | zero =>
    intro a f tr we ha hf hw
    obtain ⟨f, rfl⟩ : ∃ g, f = g + 1 := ⟨f - 1, by omega⟩
    refine ⟨tr, we, ?_, fun b hb x hx => hw b (by omega) x hx⟩
    rw [f_X10_layWeb_l2.eq_2, tb.1, if_pos (nI_le (by omega) (by omega))]
  | succ j ih =>
    intro a f tr we ha hf hw
    obtain ⟨f, rfl⟩ : ∃ g, f = g + 1 := ⟨f - 1, by omega⟩
    obtain ⟨tr1, we1, e1, e2, e3⟩ := E_web12 (aM := am) ok hy tb (show a < NN D.1 by omega) (f_X10_layWeb_l2 am mn bs st ykd ylk ri all num f) (kk D.1 D.2.1) 0 NF tr we (by omega) (by omega)
    obtain ⟨tr2, we2, i1, i2⟩ := ih (a + 1) f tr1 we1 (by omega) (by omega) (fun b hb x hx => by
      by_cases q : b = a
      · subst q; exact e2 x (by omega) hx
      · rw [e3 _ (Or.inl (by omega))]; exact hw b (by omega) x hx)
    refine ⟨tr2, we2, ?_, i2⟩
    have hlt : ¬ am ≤ nI a := by rw [tb.1]; exact nI_ge (by omega) (by omega)
    rw [f_X10_layWeb_l2.eq_2, if_neg hlt]
    rw [show f_X10_layWeb_l12 am mn bs st ykd ylk ri all num (f_X10_layWeb_l2 am mn bs st ykd ylk ri all num f) NF (nI a) (0 : Int32) tr we = _ from e1]
    exact i1
theorem E_layWeb (ok : HOK D) (hy : HY D mn bs st ykd ylk ri) (tb : TB D.1 am all num) (tr we : Nat → Int32) : ∃ tr' we', f_X10_layWeb am mn bs st ykd ylk ri all num tr we = some (tr', we') ∧ WOK D we' := by
  have h0 := NF_big
  have hN := NN_le D.1
  exact E_web2 ok hy tb (NN D.1) 0 NF tr we (by omega) (by omega) (fun b hb => absurd hb (by omega))
def lowI (D : HD) (a : Nat) : Int32 := if lowN D a < kk D.1 D.2.1 then nI (lowN D a) else -4
theorem E_lowest_l (ok : HOK D) (hy : HY D mn bs st ykd ylk ri) {we : Nat → Int32} (hw : WOK D we) {a : Nat} (ha : a < NN D.1) : ∀ (j k f : Nat), k + j = kk D.1 D.2.1 → j < f → f_X10_lowest_l2 mn ri we f (nI a) (nI k) = some (if lowF D a k j < kk D.1 D.2.1 then nI (lowF D a k j) else -4) := by
  have h2 := ok.1
  have h6 := ok.2.1
  have hg := ok.2.2.1
  have hN := NN_le D.1
  have hkk := (kk_bd (rg := D.2.1) h2 h6).2
  intro j
  induction j with
  | zero =>
    intro k f hk hf
    obtain ⟨f, rfl⟩ : ∃ g, f = g + 1 := ⟨f - 1, by omega⟩
    rw [f_X10_lowest_l2.eq_2, E_countY hy.1 hy.2.1 h2 h6 hg, Option.bind_some, if_pos (nI_le (by omega) (by omega)), lowF, if_neg (by omega)]
  | succ j ih =>
    intro k f hk hf
    obtain ⟨f, rfl⟩ : ∃ g, f = g + 1 := ⟨f - 1, by omega⟩
    have hc := tb_chg D.1 a ha k (by omega)
    rw [f_X10_lowest_l2.eq_2, E_countY hy.1 hy.2.1 h2 h6 hg, Option.bind_some, if_neg (nI_ge (by omega) (by omega)), show (6 : Int32) * nI a + nI k = nI (6 * a + k) from nI_ma 6 a k, bdn _ (by omega) (by omega), nI_cl (by omega), hw a ha k (by omega), show nI k + (1 : Int32) = nI (k + 1) from nI_1 k, lowF]
    cases suitB D a k
    · rw [if_neg (show ¬ false = true by decide), if_pos (show (-4 : Int32) < 0 by decide), ih (k + 1) f (by omega) (by omega), if_neg (show ¬ false = true by decide)]
    · rw [if_pos rfl, if_neg (nI_lt0 (by omega)), if_pos rfl, if_pos (by omega)]
theorem E_lowest (ok : HOK D) (hy : HY D mn bs st ykd ylk ri) {we : Nat → Int32} (hw : WOK D we) {a : Nat} (ha : a < NN D.1) : f_X10_lowest (nI a) mn ri we = some (lowI D a) := by
  have h0 := NF_big
  have h6 := ok.2.1
  have hkk := (kk_bd (rg := D.2.1) ok.1 h6).2
  exact E_lowest_l ok hy hw ha (kk D.1 D.2.1) 0 NF (by omega) (by omega)
theorem lowI_neg (ok : HOK D) {a : Nat} : (0 ≤ lowI D a ↔ restB D a = false) := by
  have h6 := ok.2.1
  have hkk := (kk_bd (rg := D.2.1) ok.1 h6).2
  have h1 := lowN_le D a
  rw [rest_low]
  unfold lowI
  by_cases h : lowN D a < kk D.1 D.2.1
  · rw [if_pos h, decide_eq_false (by omega)]
    exact ⟨fun _ => rfl, fun _ => nI_ge0 (by omega)⟩
  · rw [if_neg h, decide_eq_true (by omega)]
    exact ⟨fun q => absurd q (by decide), fun q => absurd q (by decide)⟩
/-- who is at p in the first arrangement at rest -/
def ansR (D : HD) (p k : Nat) : Nat → Int32
  | 0 => -4
  | j + 1 => if restB D k then nI (dg D.1 k p) else ansR D p (k + 1) j
theorem frest_ans (D : HD) (p : Nat) : ∀ (j k : Nat), (frest D k j = -1 ∧ ansR D p k j = -4) ∨ ∃ s, s < k + j ∧ frest D k j = nI s ∧ ansR D p k j = nI (dg D.1 s p)
  | 0, k => Or.inl ⟨rfl, rfl⟩
  | j + 1, k => by
    rw [frest, ansR]
    cases restB D k
    · rw [if_neg (by decide), if_neg (by decide)]
      rcases frest_ans D p j (k + 1) with h | ⟨s, h1, h2, h3⟩
      · exact Or.inl h
      · exact Or.inr ⟨s, by omega, h2, h3⟩
    · rw [if_pos rfl, if_pos rfl]
      exact Or.inr ⟨k, by omega, rfl, rfl⟩
theorem E_restsY_all (ok : HOK D) (hy : HY D mn bs st ykd ylk ri) (tb : TB D.1 am all num) {we tr : Nat → Int32} (hw : WOK D we) : ∀ (j k f c : Nat), k + j = NN D.1 → j < f → f_X10_rests_l23 am mn bs st ykd ylk ri all num f (-1) (nI c) (nI k) tr we = some (nI (c + rests D k j), tr, we) := by
  have hN := NN_le D.1
  intro j
  induction j with
  | zero =>
    intro k f c hk hf
    obtain ⟨f, rfl⟩ : ∃ g, f = g + 1 := ⟨f - 1, by omega⟩
    rw [f_X10_rests_l23.eq_2, tb.1, if_pos (nI_le (by omega) (by omega)), if_neg (by decide)]; rfl
  | succ j ih =>
    intro k f c hk hf
    obtain ⟨f, rfl⟩ : ∃ g, f = g + 1 := ⟨f - 1, by omega⟩
    have hlt : ¬ am ≤ nI k := by rw [tb.1]; exact nI_ge (by omega) (by omega)
    have hl := lowI_neg (a := k) ok
    rw [f_X10_rests_l23.eq_2, if_neg hlt, E_lowest ok hy hw (by omega), Option.bind_some]
    unfold f_X10_rests_b53
    rw [show nI k + (1 : Int32) = nI (k + 1) from nI_1 k, if_pos (show (-1 : Int32) < 0 by decide), rests]
    cases e : restB D k
    · rw [if_pos (hl.mpr e), if_neg (by decide), ih (k + 1) f c (by omega) (by omega)]; rfl
    · rw [if_neg (fun q => absurd (hl.mp q) (by rw [e]; decide)), show nI c + (1 : Int32) = nI (c + 1) from nI_1 c, ih (k + 1) f (c + 1) (by omega) (by omega), if_pos rfl, show c + 1 + rests D (k + 1) j = c + (rests D (k + 1) j + 1) by omega]
theorem E_restsY_p (ok : HOK D) (hy : HY D mn bs st ykd ylk ri) (tb : TB D.1 am all num) {we tr : Nat → Int32} (hw : WOK D we) {p : Nat} (hp : p < D.1) : ∀ (j k f : Nat) (c : Int32), k + j = NN D.1 → j < f → f_X10_rests_l23 am mn bs st ykd ylk ri all num f (nI p) c (nI k) tr we = some (ansR D p k j, tr, we) := by
  have hN := NN_le D.1
  have h6 := ok.2.1
  intro j
  induction j with
  | zero =>
    intro k f c hk hf
    obtain ⟨f, rfl⟩ : ∃ g, f = g + 1 := ⟨f - 1, by omega⟩
    rw [f_X10_rests_l23.eq_2, tb.1, if_pos (nI_le (by omega) (by omega)), if_pos (nI_ge0 (by omega))]; rfl
  | succ j ih =>
    intro k f c hk hf
    obtain ⟨f, rfl⟩ : ∃ g, f = g + 1 := ⟨f - 1, by omega⟩
    have hlt : ¬ am ≤ nI k := by rw [tb.1]; exact nI_ge (by omega) (by omega)
    have hl := lowI_neg (a := k) ok
    rw [f_X10_rests_l23.eq_2, if_neg hlt, E_lowest ok hy hw (by omega), Option.bind_some]
    unfold f_X10_rests_b53
    rw [show nI k + (1 : Int32) = nI (k + 1) from nI_1 k, if_neg (nI_lt0 (by omega)), E_whoIn tb h6 (by omega) hp, Option.bind_some, ansR]
    cases e : restB D k
    · rw [if_pos (hl.mpr e), if_neg (by decide), ih (k + 1) f c (by omega) (by omega)]
    · rw [if_neg (fun q => absurd (hl.mp q) (by rw [e]; decide)), if_pos rfl]
end WB
