/-! the fewest changes, and the first of them, in the reference -/
def FewAt (N K : Nat) (S : Nat → Nat → Bool) (T : Nat → Nat → Nat) (P : Nat → Bool) (a m : Nat) : Prop := (∃ b, b < N ∧ P b = true ∧ Wy K S T a m b) ∧ ∀ b, b < N → P b = true → ∀ m', Wy K S T a m' b → m ≤ m'
def FewNo (N K : Nat) (S : Nat → Nat → Bool) (T : Nat → Nat → Nat) (P : Nat → Bool) (a : Nat) : Prop := ∀ b, b < N → P b = true → ∀ m, ¬ Wy K S T a m b
def Few (N M K : Nat) (S : Nat → Nat → Bool) (T : Nat → Nat → Nat) (P : Nat → Bool) (a : Nat) (r : Int32) : Prop := (∃ m, m < N ∧ FewAt M K S T P a m ∧ r = nI m) ∨ (FewNo M K S T P a ∧ r = -4)
theorem few_uniq {N K : Nat} {S : Nat → Nat → Bool} {T : Nat → Nat → Nat} {P : Nat → Bool} {a m m' : Nat} (h : FewAt N K S T P a m) (h' : FewAt N K S T P a m') : m = m' := by
  obtain ⟨⟨b, b1, b2, b3⟩, h1⟩ := h
  obtain ⟨⟨c, c1, c2, c3⟩, h2⟩ := h'
  have q1 := h1 c c1 c2 m' c3
  have q2 := h2 b b1 b2 m b3
  omega
theorem bI_t0 : ¬ bI true = 0 := by decide
theorem bI_f0 : bI false = 0 := rfl
theorem E_few58 {N K M : Nat} {S : Nat → Nat → Bool} {T : Nat → Nat → Nat} {P : Nat → Bool} {mn ri all we : Nat → Int32} (hN : N ≤ 720) (K12 : Int32 → Int32 → Int32 → Int32 → (Nat → Int32) → Option (Int32 × (Nat → Int32))) {a k : Nat} {rc : Nat → Int32} {x2 x3 : Int32} (hk : k < N) (hF : RF N K S T a rc) {x4 : Int32} (hx : Few N k K S T P a x4) (hM : M = k + 1) : ∃ x4', f_X10_fewestFrom_b58 (nI N) mn ri all we K12 x2 x3 x4 (nI k) (bI (P k)) rc = K12 x2 x3 x4' (nI (k + 1)) rc ∧ Few N M K S T P a x4' := by
  subst hM
  have hb : ∀ b, b < k + 1 → b < k ∨ b = k := fun b hb => by omega
  unfold f_X10_fewestFrom_b58 f_X10_fewestFrom_b102 f_X10_fewestFrom_b92 f_X10_fewestFrom_b104
  rw [show nI k + (1 : Int32) = nI (k + 1) from nI_1 k]
  cases hP : P k with
  | false =>
    rw [if_pos bI_f0]
    refine ⟨x4, rfl, ?_⟩
    rcases hx with ⟨m, hm, ⟨⟨b, b1, b2, b3⟩, h1⟩, rfl⟩ | ⟨h1, rfl⟩
    · refine Or.inl ⟨m, hm, ⟨⟨b, by omega, b2, b3⟩, fun c hc hPc => ?_⟩, rfl⟩
      rcases hb c hc with q | rfl
      · exact h1 c q hPc
      · rw [hP] at hPc; exact absurd hPc (by decide)
    · refine Or.inr ⟨fun c hc hPc => ?_, rfl⟩
      rcases hb c hc with q | rfl
      · exact h1 c q hPc
      · rw [hP] at hPc; exact absurd hPc (by decide)
  | true =>
    rw [if_neg bI_t0, bdn _ (show k < 720 by omega) (by omega), nI_cl (by omega)]
    rcases hF k hk with ⟨m, hm, hd, e⟩ | ⟨hno, e⟩
    · have hle : ∀ m', Wy K S T a m' k → m ≤ m' := fun m' hw => by
        by_cases q : m ≤ m'
        · exact q
        · exact absurd hw (hd.2 m' (by omega))
      rw [e, if_neg (nI_lt0 (by omega))]
      rcases hx with ⟨l, hl, ⟨⟨b, b1, b2, b3⟩, h1⟩, rfl⟩ | ⟨h1, rfl⟩
      · rw [if_neg (nI_lt0 (by omega)), bdn _ (show k < 720 by omega) (by omega)]
        by_cases hlm : l ≤ m
        · rw [if_pos (nI_le hlm (by omega))]
          refine ⟨_, rfl, Or.inl ⟨l, hl, ⟨⟨b, by omega, b2, b3⟩, fun c hc hPc m' hw => ?_⟩, rfl⟩⟩
          rcases hb c hc with q | rfl
          · exact h1 c q hPc m' hw
          · have := hle m' hw; omega
        · rw [if_neg (nI_ge (by omega) (by omega)), bdn _ (show k < 720 by omega) (by omega)]
          refine ⟨_, rfl, Or.inl ⟨m, hm, ⟨⟨k, by omega, hP, hd.1⟩, fun c hc hPc m' hw => ?_⟩, rfl⟩⟩
          rcases hb c hc with q | rfl
          · have := h1 c q hPc m' hw; omega
          · exact hle m' hw
      · rw [if_pos (show (-4 : Int32) < 0 by decide), bdn _ (show k < 720 by omega) (by omega)]
        refine ⟨_, rfl, Or.inl ⟨m, hm, ⟨⟨k, by omega, hP, hd.1⟩, fun c hc hPc m' hw => ?_⟩, rfl⟩⟩
        rcases hb c hc with q | rfl
        · exact absurd hw (h1 c q hPc m')
        · exact hle m' hw
    · rw [e, if_pos (show (-4 : Int32) < 0 by decide)]
      refine ⟨x4, rfl, ?_⟩
      rcases hx with ⟨l, hl, ⟨⟨b, b1, b2, b3⟩, h1⟩, rfl⟩ | ⟨h1, rfl⟩
      · refine Or.inl ⟨l, hl, ⟨⟨b, by omega, b2, b3⟩, fun c hc hPc m' hw => ?_⟩, rfl⟩
        rcases hb c hc with q | rfl
        · exact h1 c q hPc m' hw
        · exact absurd hw (hno m')
      · refine Or.inr ⟨fun c hc hPc m' hw => ?_, rfl⟩
        rcases hb c hc with q | rfl
        · exact h1 c q hPc m' hw
        · exact hno m' hw
theorem E_few12 {N K : Nat} {S : Nat → Nat → Bool} {T : Nat → Nat → Nat} {P : Nat → Bool} {mn ri all we : Nat → Int32} (hN : N ≤ 720) {x2 x3 : Int32} (hst : ∀ (f : Nat) (k : Nat) (x4 : Int32) (rc : Nat → Int32), k < N → f_X10_fewestFrom_l12 (nI N) mn ri all we (f + 1) x2 x3 x4 (nI k) rc = f_X10_fewestFrom_b58 (nI N) mn ri all we (f_X10_fewestFrom_l12 (nI N) mn ri all we f) x2 x3 x4 (nI k) (bI (P k)) rc) {a : Nat} {rc : Nat → Int32} (hF : RF N K S T a rc) : ∀ (j k f : Nat) (x4 : Int32), k + j = N → j < f → Few N k K S T P a x4 → ∃ x4', f_X10_fewestFrom_l12 (nI N) mn ri all we f x2 x3 x4 (nI k) rc = some (x4', rc) ∧ Few N N K S T P a x4' := by
  intro j
  induction j with
  | zero =>
    intro k f x4 hk hf hx
    obtain ⟨f, rfl⟩ : ∃ q, f = q + 1 := ⟨f - 1, by omega⟩
    obtain rfl : k = N := by omega
    refine ⟨x4, ?_, hx⟩
    rw [f_X10_fewestFrom_l12.eq_2, if_pos (nI_le (Nat.le_refl _) (by omega))]
  | succ j ih =>
    intro k f x4 hk hf hx
    obtain ⟨f, rfl⟩ : ∃ q, f = q + 1 := ⟨f - 1, by omega⟩
    rw [hst f k x4 rc (by omega)]
    obtain ⟨x4', e1, h1⟩ := E_few58 (mn := mn) (ri := ri) (all := all) (we := we) (M := k + 1) hN (f_X10_fewestFrom_l12 (nI N) mn ri all we f) (x2 := x2) (x3 := x3) (show k < N by omega) hF hx rfl
    obtain ⟨x4'', e2, h2⟩ := ih (k + 1) f x4' (by omega) (by omega) h1
    exact ⟨x4'', e1.trans e2, h2⟩
/-- what the reference's tables must be like -/
def WK (N K : Nat) (S : Nat → Nat → Bool) (T : Nat → Nat → Nat) (P : Nat → Bool) (mn ri all we : Nat → Int32) (x2 x3 : Int32) : Prop := N ≤ 720 ∧ K ≤ 6 ∧ (∀ a, a < N → ∀ x, x < K → T a x < N) ∧ f_X10_changeMany mn ri = some (nI K) ∧ (∀ a, a < N → ∀ x, x < K → we (6 * a + x) = if S a x then nI (T a x) else -4) ∧ ∀ (f : Nat) (k : Nat) (x4 : Int32) (rc : Nat → Int32), k < N → f_X10_fewestFrom_l12 (nI N) mn ri all we (f + 1) x2 x3 x4 (nI k) rc = f_X10_fewestFrom_b58 (nI N) mn ri all we (f_X10_fewestFrom_l12 (nI N) mn ri all we f) x2 x3 x4 (nI k) (bI (P k)) rc
theorem E_fewest {N K : Nat} {S : Nat → Nat → Bool} {T : Nat → Nat → Nat} {P : Nat → Bool} {mn ri all we : Nat → Int32} {x2 x3 : Int32} (hW : WK N K S T P mn ri all we x2 x3) {a : Nat} (ha : a < N) (rc : Nat → Int32) : ∃ r rc', f_X10_fewestFrom (nI a) x2 x3 (nI N) mn ri all we rc = some (r, rc') ∧ Few N N K S T P a r := by
  obtain ⟨hN, hK, hT, hc, hw, hst⟩ := hW
  have h0 := NF_big
  obtain ⟨rc1, e1, hF⟩ := E_layReached hN hK hT hc hw ha rc
  obtain ⟨r, e2, h2⟩ := E_few12 (P := P) (x2 := x2) (x3 := x3) hN hst hF N 0 NF (-4) (by omega) (by omega) (Or.inr ⟨fun b hb => absurd hb (by omega), rfl⟩)
  refine ⟨r, rc1, ?_, h2⟩
  unfold f_X10_fewestFrom
  rw [e1, Option.bind_some]
  exact e2
theorem E_fo9 {N K : Nat} {S : Nat → Nat → Bool} {T : Nat → Nat → Nat} {P : Nat → Bool} {mn ri all we wh num : Nat → Int32} {x2 x3 : Int32} (hW : WK N K S T P mn ri all we x2 x3) {a w : Nat} (ha : a < N) (hw1 : 1 ≤ w) (hwN : w < 1000) : ∀ (j x f : Nat) (rc : Nat → Int32), x + j = K → j < f → ∃ r rc', f_X10_firstOf_l9 (nI N) mn ri wh all num we f x2 x3 (nI w) (nI a) (nI x) rc = some (r, rc') ∧ ((∃ y, x ≤ y ∧ y < K ∧ S a y = true ∧ FewAt N K S T P (T a y) (w - 1) ∧ r = nI y ∧ ∀ z, x ≤ z → z < y → S a z = true → ¬ FewAt N K S T P (T a z) (w - 1)) ∨ (r = -4 ∧ ∀ z, x ≤ z → z < K → S a z = true → ¬ FewAt N K S T P (T a z) (w - 1))) := by
  intro j
  induction j with
  | zero =>
    intro x f rc hx hf
    obtain ⟨f, rfl⟩ : ∃ q, f = q + 1 := ⟨f - 1, by omega⟩
    refine ⟨-4, rc, ?_, Or.inr ⟨rfl, fun z h1 h2 => absurd h2 (by omega)⟩⟩
    obtain ⟨hN, hK, hT, hc, hw, hst⟩ := hW
    rw [f_X10_firstOf_l9.eq_2, hc, Option.bind_some, if_pos (nI_le (by omega) (by omega))]
  | succ j ih =>
    intro x f rc hx hf
    obtain ⟨f, rfl⟩ : ∃ q, f = q + 1 := ⟨f - 1, by omega⟩
    obtain ⟨hN, hK, hT, hc, hw, hst⟩ := id hW
    have hxK : x < K := by omega
    rw [f_X10_firstOf_l9.eq_2, hc, Option.bind_some, if_neg (nI_ge (by omega) (by omega)), show (6 : Int32) * nI a + nI x = nI (6 * a + x) from nI_ma 6 a x, bdn _ (show 6 * a + x < 4320 by omega) (by omega), nI_cl (by omega), hw a ha x hxK]
    unfold f_X10_firstOf_b55
    rw [show nI x + (1 : Int32) = nI (x + 1) from nI_1 x]
    have hgo : ∀ rc', ¬ (S a x = true ∧ FewAt N K S T P (T a x) (w - 1)) → ∃ r rc'', f_X10_firstOf_l9 (nI N) mn ri wh all num we f x2 x3 (nI w) (nI a) (nI (x + 1)) rc' = some (r, rc'') ∧ ((∃ y, x ≤ y ∧ y < K ∧ S a y = true ∧ FewAt N K S T P (T a y) (w - 1) ∧ r = nI y ∧ ∀ z, x ≤ z → z < y → S a z = true → ¬ FewAt N K S T P (T a z) (w - 1)) ∨ (r = -4 ∧ ∀ z, x ≤ z → z < K → S a z = true → ¬ FewAt N K S T P (T a z) (w - 1))) := by
      intro rc' hn
      obtain ⟨r, rc'', e, h⟩ := ih (x + 1) f rc' (by omega) (by omega)
      refine ⟨r, rc'', e, ?_⟩
      rcases h with ⟨y, y1, y2, y3, y4, y5, y6⟩ | ⟨h1, h2⟩
      · refine Or.inl ⟨y, by omega, y2, y3, y4, y5, fun z z1 z2 z3 z4 => ?_⟩
        by_cases q : z = x
        · subst q; exact hn ⟨z3, z4⟩
        · exact y6 z (by omega) z2 z3 z4
      · refine Or.inr ⟨h1, fun z z1 z2 z3 z4 => ?_⟩
        by_cases q : z = x
        · subst q; exact hn ⟨z3, z4⟩
        · exact h2 z (by omega) z2 z3 z4
    cases hs : S a x with
    | false =>
      rw [show (if false = true then nI (T a x) else (-4 : Int32)) = -4 from rfl, if_pos (show (-4 : Int32) < 0 by decide)]
      exact hgo rc (fun h => by rw [hs] at h; exact absurd h.1 (by decide))
    | true =>
      have ht := hT a ha x hxK
      rw [show (if true = true then nI (T a x) else (-4 : Int32)) = nI (T a x) from rfl, if_neg (nI_lt0 (by omega))]
      obtain ⟨r1, rc1, e1, h1⟩ := E_fewest hW ht rc
      rw [e1, Option.bind_some, nI_s1 hw1]
      show ∃ r rc', (if r1 = nI (w - 1) then some (nI x, rc1) else f_X10_firstOf_l9 (nI N) mn ri wh all num we f x2 x3 (nI w) (nI a) (nI (x + 1)) rc1) = some (r, rc') ∧ _
      rcases h1 with ⟨m, hm, hat, rfl⟩ | ⟨hno, rfl⟩
      · by_cases hmw : m = w - 1
        · subst hmw
          rw [if_pos rfl]
          exact ⟨_, _, rfl, Or.inl ⟨x, by omega, hxK, hs, hat, rfl, fun z z1 z2 => absurd z2 (by omega)⟩⟩
        · rw [if_neg (fun q => hmw ((nI_eq (by omega) (by omega)).mp q))]
          exact hgo rc1 (fun h => hmw (few_uniq hat h.2))
      · rw [if_neg (show ¬ (-4 : Int32) = nI (w - 1) from fun q => absurd (show (0 : Int32) ≤ -4 from q ▸ nI_ge0 (by omega)) (by decide))]
        refine hgo rc1 (fun h => ?_)
        obtain ⟨⟨b, b1, b2, b3⟩, _⟩ := h.2
        exact hno b b1 b2 _ b3
