/-! numbers in the text -/
def FG (L : Nat) (tx : Nat → Int32) (k : Nat) : Prop := k < L ∧ ¬ tx k < (48 : Int32) ∧ ¬ (57 : Int32) < tx k
def bt (L : Nat) (tx : Nat → Int32) (k : Nat) : Int32 := if k < L then tx k else 0
section NU
variable {L : Nat} {tx : Nat → Int32}
theorem FG_val {k : Nat} (h : FG L tx k) : ∃ d, d ≤ 9 ∧ tx k = nI (48 + d) := by
  obtain ⟨_, h1, h2⟩ := h
  rcases nI_range (tx k) (n := 58) (by omega) with c | ⟨_, c⟩ | ⟨j, hj, e⟩
  · exact absurd (Int32.lt_trans c (by decide)) h1
  · exact absurd (Int32.lt_of_lt_of_le (show (57 : Int32) < nI 58 by decide) c) h2
  · rw [e] at h1
    have : 48 ≤ j := by
      by_cases q : 48 ≤ j
      · exact q
      · exact absurd (show nI j < (48 : Int32) from nI_lt (b := 48) (by omega) (by omega)) h1
    exact ⟨j - 48, by omega, by rw [e, show 48 + (j - 48) = j by omega]⟩
theorem E_fig1 (hL : L ≤ 300) {k : Nat} (h : FG L tx k) : f_X7_isFigure (nI k) (nI L) tx = some 1 := by
  have hk := h.1
  unfold f_X7_isFigure
  rw [if_neg (nI_ge hk (by omega)), bdn _ (show k < 300 by omega) (by omega), nI_cl (by omega), if_neg h.2.1, bdn _ (show k < 300 by omega) (by omega), if_neg h.2.2]
theorem E_fig0 (hL : L ≤ 300) {k : Nat} (hk : k ≤ 1000) (h : ¬ FG L tx k) : f_X7_isFigure (nI k) (nI L) tx = some 0 := by
  unfold f_X7_isFigure
  by_cases c : k < L
  · rw [if_neg (nI_ge c (by omega)), bdn _ (show k < 300 by omega) (by omega), nI_cl (by omega)]
    by_cases c1 : tx k < (48 : Int32)
    · rw [if_pos c1]
    · rw [if_neg c1, bdn _ (show k < 300 by omega) (by omega)]
      by_cases c2 : (57 : Int32) < tx k
      · rw [if_pos c2]
      · exact absurd ⟨c, c1, c2⟩ h
  · rw [if_pos (nI_le (by omega) (by omega))]
theorem E_byte (hL : L ≤ 300) {k : Nat} (hk : k ≤ 1000) : f_X10_byteAt (nI k) (nI L) tx = some (bt L tx k) := by
  unfold f_X10_byteAt bt
  by_cases c : k < L
  · rw [if_neg (nI_ge c (by omega)), bdn _ (show k < 300 by omega) (by omega), nI_cl (by omega), if_pos c]
  · rw [if_pos (nI_le (by omega) (by omega)), if_neg c]
theorem eF (x : Int32) : f_X10_in x.toInt64 48 57 = some (if x < nI 48 then 0 else if nI 57 < x then 0 else 1) := in_eq2 x (lo := 48) (k := 57) (by omega) (by omega)
theorem eF1 {k : Nat} (h : FG L tx k) : f_X10_in (bt L tx k).toInt64 48 57 = some 1 := by
  unfold bt
  rw [eF, if_pos h.1, if_neg (show ¬ tx k < nI 48 from h.2.1), if_neg (show ¬ nI 57 < tx k from h.2.2)]
theorem eF0 {k : Nat} (h : ¬ FG L tx k) : f_X10_in (bt L tx k).toInt64 48 57 = some 0 := by
  unfold bt
  rw [eF]
  by_cases c : k < L
  · rw [if_pos c]
    by_cases c1 : tx k < (48 : Int32)
    · rw [if_pos (show tx k < nI 48 from c1)]
    · rw [if_neg (show ¬ tx k < nI 48 from c1)]
      by_cases c2 : (57 : Int32) < tx k
      · rw [if_pos (show nI 57 < tx k from c2)]
      · exact absurd ⟨c, c1, c2⟩ h
  · rw [if_neg c, if_pos (by decide)]
theorem ten (v d : Nat) : (10 : Int32) * nI v + nI (48 + d) - (48 : Int32) = nI (10 * v + d) := by
  rw [show (10 : Int32) * nI v = nI (10 * v) from pk_mul 10 v, nI_add]
  exact (pk_sub (b := 48) (by omega)).trans (congrArg nI (by omega))
def sg (n j : Nat) : Int32 := if j = n - 1 then 59 else 44
theorem sg_0 (n j : Nat) : ¬ (0 : Int32) = sg n j := by
  unfold sg; split <;> decide
theorem sg_fig {n j k : Nat} (h : FG L tx k) : ¬ tx k = sg n j := by
  intro e
  obtain ⟨_, h1, h2⟩ := h
  rw [e] at h1 h2
  unfold sg at h1 h2
  split at h1
  · rename_i c
    rw [if_pos c] at h2; exact h2 (by decide)
  · exact h1 (by decide)
theorem c_57 {n j k c v : Nat} (hn1 : 1 ≤ n) (hn : n ≤ 3) (hj : j < n) (K5 : Int32 → Int32 → Int32 → (Nat → Int32) → Option (Int32 × (Nat → Int32))) (nu : Nat → Int32) : f_X7_readNumbers_b57 (nI L) tx K5 (nI n) (nI k) (nI j) (nI v) (nI c) nu = f_X7_readNumbers_b72 (nI L) tx K5 (nI n) (nI k) (nI j) (nI v) (nI c) (sg n j) nu := by
  unfold f_X7_readNumbers_b57 sg
  rw [nI_s1 hn1]
  by_cases q : j = n - 1
  · rw [if_pos q, if_pos (by rw [q])]
  · rw [if_neg q, if_neg (fun e => q ((nI_eq (by omega) (by omega)).mp e))]
theorem c_fail0 {n j k v : Nat} (hn1 : 1 ≤ n) (hn : n ≤ 3) (hj : j < n) (K5 : Int32 → Int32 → Int32 → (Nat → Int32) → Option (Int32 × (Nat → Int32))) (nu : Nat → Int32) : f_X7_readNumbers_b57 (nI L) tx K5 (nI n) (nI k) (nI j) (nI v) (nI 0) nu = some (-1, nu) := by
  rw [c_57 hn1 hn hj]
  unfold f_X7_readNumbers_b72
  exact if_pos rfl
theorem c_failF (hL : L ≤ 300) {n j k v c : Nat} (hn1 : 1 ≤ n) (hn : n ≤ 3) (hj : j < n) (hc : 0 < c) (hc2 : c ≤ 3) (h : FG L tx k) (K5 : Int32 → Int32 → Int32 → (Nat → Int32) → Option (Int32 × (Nat → Int32))) (nu : Nat → Int32) : f_X7_readNumbers_b57 (nI L) tx K5 (nI n) (nI k) (nI j) (nI v) (nI c) nu = some (-1, nu) := by
  have hk := h.1
  rw [c_57 hn1 hn hj]
  unfold f_X7_readNumbers_b72
  rw [if_neg (fun e => by have := (nI_eq0 (by omega)).mp e; omega), if_neg (nI_ge hk (by omega)), bdn _ (show k < 300 by omega) (by omega), nI_cl (by omega), if_neg (sg_fig h)]
theorem in12 (x : Int32) : f_X10_in x.toInt64 1 2 = some (if x < nI 1 then 0 else if nI 2 < x then 0 else 1) := in_eq2 x (lo := 1) (k := 2) (by omega) (by omega)
theorem r_fail {n j k v c : Nat} (hc : c = 0 ∨ c = 3) (K2 : Int32 → Int32 → Int32 → (Nat → Int32) → Option (Int32 × Int32 × (Nat → Int32))) (to : Nat → Int32) : f_X10_figures_b73 (nI L) tx K2 (nI n) (nI j) (nI c) (nI v) (nI k) to = some (0, nI k, to) := by
  unfold f_X10_figures_b73
  rw [in12]
  rcases hc with rfl | rfl
  · rw [if_pos (by decide), Option.bind_some, if_pos rfl]
  · rw [if_neg (by decide), if_pos (by decide), Option.bind_some, if_pos rfl]
theorem E_sep (hL : L ≤ 300) {n j k v c : Nat} (hn1 : 1 ≤ n) (hn : n ≤ 3) (hj : j < n) (hk : k ≤ 1000) (hc : c = 1 ∨ c = 2) (K5 : Int32 → Int32 → Int32 → (Nat → Int32) → Option (Int32 × (Nat → Int32))) (K2 : Int32 → Int32 → Int32 → (Nat → Int32) → Option (Int32 × Int32 × (Nat → Int32))) (nu to : Nat → Int32) :
    (f_X7_readNumbers_b57 (nI L) tx K5 (nI n) (nI k) (nI j) (nI v) (nI c) nu = some (-1, nu) ∧ f_X10_figures_b73 (nI L) tx K2 (nI n) (nI j) (nI c) (nI v) (nI k) to = some (0, nI k, to)) ∨
    (k < L ∧ f_X7_readNumbers_b57 (nI L) tx K5 (nI n) (nI k) (nI j) (nI v) (nI c) nu = K5 (nI n) (nI (k + 1)) (nI (j + 1)) (upd nu j (nI v)) ∧ f_X10_figures_b73 (nI L) tx K2 (nI n) (nI j) (nI c) (nI v) (nI k) to = K2 (nI n) (nI (j + 1)) (nI (k + 1)) (upd to j (nI v))) := by
  have c0' : ¬ nI c = 0 := fun e => by have := (nI_eq0 (by omega)).mp e; omega
  have ec : f_X7_readNumbers_b57 (nI L) tx K5 (nI n) (nI k) (nI j) (nI v) (nI c) nu = if nI L ≤ nI k then some (-1, nu) else bd (nI k) 300 (if tx (nI k).toNatClampNeg = sg n j then bd (nI j) 3 (K5 (nI n) (nI k + 1) (nI j + 1) (upd nu (nI j).toNatClampNeg (nI v))) else some (-1, nu)) := by
    rw [c_57 hn1 hn hj]
    unfold f_X7_readNumbers_b72
    rw [if_neg c0']
  have er : f_X10_figures_b73 (nI L) tx K2 (nI n) (nI j) (nI c) (nI v) (nI k) to = if bt L tx k = sg n j then K2 (nI n) (nI (j + 1)) (nI (k + 1)) (upd to j (nI v)) else some (0, nI k, to) := by
    have e12 : f_X10_in (nI c).toInt64 1 2 = some 1 := by
      rw [in12]
      rcases hc with rfl | rfl <;> rfl
    unfold f_X10_figures_b73 f_X10_figures_b107 sg
    rw [e12, Option.bind_some, if_neg (by decide), E_byte hL hk, Option.bind_some, nI_s1 hn1, bdn _ (show j < 3 by omega) (by omega), nI_cl (by omega), show nI k + (1 : Int32) = nI (k + 1) from nI_1 k, show nI j + (1 : Int32) = nI (j + 1) from nI_1 j]
    by_cases q : j = n - 1
    · rw [if_pos (nI_le (by omega) (by omega)), if_pos q]
    · rw [if_neg (nI_ge (by omega) (by omega)), if_neg q]
  by_cases hkL : k < L
  · rw [if_neg (nI_ge hkL (by omega)), bdn _ (show k < 300 by omega) (by omega), nI_cl (by omega), bdn _ (show j < 3 by omega) (by omega), nI_cl (by omega), show nI k + (1 : Int32) = nI (k + 1) from nI_1 k, show nI j + (1 : Int32) = nI (j + 1) from nI_1 j] at ec
    rw [show bt L tx k = tx k from if_pos hkL] at er
    by_cases hs : tx k = sg n j
    · rw [if_pos hs] at ec er
      exact Or.inr ⟨hkL, ec, er⟩
    · rw [if_neg hs] at ec er
      exact Or.inl ⟨ec, er⟩
  · rw [if_pos (nI_le (by omega) (by omega))] at ec
    rw [show bt L tx k = 0 from if_neg hkL, if_neg (sg_0 n j)] at er
    exact Or.inl ⟨ec, er⟩
theorem c_stop (hL : L ≤ 300) {n j k v c f : Nat} (hk : k ≤ 1000) (h : ¬ FG L tx k ∨ c = 2) (hc : c ≤ 2) (K5 : Int32 → Int32 → Int32 → (Nat → Int32) → Option (Int32 × (Nat → Int32))) (nu : Nat → Int32) : f_X7_readNumbers_l17 (nI L) tx K5 (f + 1) (nI n) (nI k) (nI j) (nI v) (nI c) nu = f_X7_readNumbers_b57 (nI L) tx K5 (nI n) (nI k) (nI j) (nI v) (nI c) nu := by
  rw [f_X7_readNumbers_l17.eq_2]
  by_cases h2 : c = 2
  · subst h2; exact if_pos (by decide)
  · rw [if_neg (show ¬ (2 : Int32) ≤ nI c from nI_ge (b := 2) (by omega) (by omega)), E_fig0 hL hk (h.resolve_right h2), Option.bind_some, if_pos rfl]
theorem c_go (hL : L ≤ 300) {n j k v c f d : Nat} (h : FG L tx k) (hd : tx k = nI (48 + d)) (hc : c < 2) (K5 : Int32 → Int32 → Int32 → (Nat → Int32) → Option (Int32 × (Nat → Int32))) (nu : Nat → Int32) : f_X7_readNumbers_l17 (nI L) tx K5 (f + 1) (nI n) (nI k) (nI j) (nI v) (nI c) nu = f_X7_readNumbers_l17 (nI L) tx K5 f (nI n) (nI (k + 1)) (nI j) (nI (10 * v + d)) (nI (c + 1)) nu := by
  have hk := h.1
  rw [f_X7_readNumbers_l17.eq_2, if_neg (show ¬ (2 : Int32) ≤ nI c from nI_ge (b := 2) (by omega) (by omega)), E_fig1 hL h, Option.bind_some, if_neg (by decide), bdn _ (show k < 300 by omega) (by omega), nI_cl (by omega), hd, ten, show nI k + (1 : Int32) = nI (k + 1) from nI_1 k, show nI c + (1 : Int32) = nI (c + 1) from nI_1 c]
theorem r_stop (hL : L ≤ 300) {n j k v c f : Nat} (hk : k ≤ 1000) (h : ¬ FG L tx k ∨ c = 3) (K2 : Int32 → Int32 → Int32 → (Nat → Int32) → Option (Int32 × Int32 × (Nat → Int32))) (to : Nat → Int32) : f_X10_figures_l12 (nI L) tx K2 (f + 1) (nI n) (nI j) (nI c) (nI v) (nI k) to = f_X10_figures_b73 (nI L) tx K2 (nI n) (nI j) (nI c) (nI v) (nI k) to := by
  rw [f_X10_figures_l12.eq_2, E_byte hL hk, Option.bind_some]
  by_cases hF : FG L tx k
  · have hc : c = 3 := h.resolve_left (fun q => q hF)
    subst hc
    rw [eF1 hF, Option.bind_some, if_neg (by decide), if_pos (by decide)]
  · rw [eF0 hF, Option.bind_some, if_pos rfl]
theorem r_go (hL : L ≤ 300) {n j k v c f d : Nat} (h : FG L tx k) (hd : tx k = nI (48 + d)) (hc : c < 3) (K2 : Int32 → Int32 → Int32 → (Nat → Int32) → Option (Int32 × Int32 × (Nat → Int32))) (to : Nat → Int32) : f_X10_figures_l12 (nI L) tx K2 (f + 1) (nI n) (nI j) (nI c) (nI v) (nI k) to = f_X10_figures_l12 (nI L) tx K2 f (nI n) (nI j) (nI (c + 1)) (nI (10 * v + d)) (nI (k + 1)) to := by
  have hk := h.1
  rw [f_X10_figures_l12.eq_2, E_byte hL (by omega), Option.bind_some, eF1 h, Option.bind_some, if_neg (by decide), if_neg (show ¬ (3 : Int32) ≤ nI c from nI_ge (b := 3) (by omega) (by omega)), Option.bind_some, show bt L tx k = tx k from if_pos hk, hd, ten, show nI k + (1 : Int32) = nI (k + 1) from nI_1 k, show nI c + (1 : Int32) = nI (c + 1) from nI_1 c]
theorem E_num (hL : L ≤ 300) {n j k : Nat} (hn1 : 1 ≤ n) (hn : n ≤ 3) (hj : j < n) (hk : k ≤ L) (K5 : Int32 → Int32 → Int32 → (Nat → Int32) → Option (Int32 × (Nat → Int32))) (K2 : Int32 → Int32 → Int32 → (Nat → Int32) → Option (Int32 × Int32 × (Nat → Int32))) (nu to : Nat → Int32) (f : Nat) :
    (∃ pl, f_X7_readNumbers_l17 (nI L) tx K5 (f + 4) (nI n) (nI k) (nI j) (nI 0) (nI 0) nu = some (-1, nu) ∧ f_X10_figures_l12 (nI L) tx K2 (f + 4) (nI n) (nI j) (nI 0) (nI 0) (nI k) to = some (0, pl, to)) ∨
    (∃ k' v, k < k' ∧ k' ≤ L ∧ v ≤ 99 ∧ f_X7_readNumbers_l17 (nI L) tx K5 (f + 4) (nI n) (nI k) (nI j) (nI 0) (nI 0) nu = K5 (nI n) (nI k') (nI (j + 1)) (upd nu j (nI v)) ∧ f_X10_figures_l12 (nI L) tx K2 (f + 4) (nI n) (nI j) (nI 0) (nI 0) (nI k) to = K2 (nI n) (nI (j + 1)) (nI k') (upd to j (nI v))) := by
  by_cases F0 : FG L tx k
  · obtain ⟨d0, d0b, d0e⟩ := FG_val F0
    have hk0 := F0.1
    rw [c_go hL F0 d0e (by omega), r_go hL F0 d0e (by omega)]
    by_cases F1 : FG L tx (k + 1)
    · obtain ⟨d1, d1b, d1e⟩ := FG_val F1
      have hk1 := F1.1
      rw [c_go hL F1 d1e (by omega), r_go hL F1 d1e (by omega), c_stop hL (by omega) (Or.inr rfl) (by omega)]
      by_cases F2 : FG L tx (k + 1 + 1)
      · obtain ⟨d2, d2b, d2e⟩ := FG_val F2
        have hk2 := F2.1
        rw [r_go hL F2 d2e (by omega), r_stop hL (by omega) (Or.inr rfl), c_failF hL hn1 hn hj (by omega) (by omega) F2, r_fail (Or.inr rfl)]
        exact Or.inl ⟨_, rfl, rfl⟩
      · rw [r_stop hL (by omega) (Or.inl F2)]
        rcases E_sep (tx := tx) (v := 10 * (10 * 0 + d0) + d1) hL hn1 hn hj (show k + 1 + 1 ≤ 1000 by omega) (Or.inr rfl) K5 K2 nu to with ⟨e1, e2⟩ | ⟨e0, e1, e2⟩
        · exact Or.inl ⟨_, e1, e2⟩
        · exact Or.inr ⟨_, _, by omega, by omega, by omega, e1, e2⟩
    · rw [c_stop hL (by omega) (Or.inl F1) (by omega), r_stop hL (by omega) (Or.inl F1)]
      rcases E_sep (tx := tx) (v := 10 * 0 + d0) hL hn1 hn hj (show k + 1 ≤ 1000 by omega) (Or.inl rfl) K5 K2 nu to with ⟨e1, e2⟩ | ⟨e0, e1, e2⟩
      · exact Or.inl ⟨_, e1, e2⟩
      · exact Or.inr ⟨_, _, by omega, by omega, by omega, e1, e2⟩
  · rw [c_stop hL (by omega) (Or.inl F0) (by omega), r_stop hL (by omega) (Or.inl F0), c_fail0 hn1 hn hj, r_fail (Or.inl rfl)]
    exact Or.inl ⟨_, rfl, rfl⟩
theorem E_nums (hL : L ≤ 300) {n k0 : Nat} (hn1 : 1 ≤ n) (hn : n ≤ 3) : ∀ (r j k f f' : Nat) (nu to : Nat → Int32), j + r = n → r < f → r < f' → k0 ≤ k → (0 < j → k0 < k) → k ≤ L → (∀ i, i < j → ∃ v, v ≤ 99 ∧ nu i = nI v ∧ to i = nI v) →
    (∃ nu' pl to', f_X7_readNumbers_l5 (nI L) tx f (nI n) (nI k) (nI j) nu = some (-1, nu') ∧ f_X10_figures_l2 (nI L) tx f' (nI n) (nI j) (nI k) to = some (0, pl, to')) ∨
    (∃ k' nu' to', f_X7_readNumbers_l5 (nI L) tx f (nI n) (nI k) (nI j) nu = some (nI k', nu') ∧ f_X10_figures_l2 (nI L) tx f' (nI n) (nI j) (nI k) to = some (1, nI k', to') ∧ k0 < k' ∧ k' ≤ L ∧ ∀ i, i < n → ∃ v, v ≤ 99 ∧ nu' i = nI v ∧ to' i = nI v) := by
  have h0 := NF_big
  obtain ⟨F, hF⟩ : ∃ F, NF = F + 4 := ⟨NF - 4, by omega⟩
  intro r
  induction r with
  | zero =>
    intro j k f f' nu to hj hf hf' hk0 hk1 hk hv
    obtain ⟨f, rfl⟩ : ∃ q, f = q + 1 := ⟨f - 1, by omega⟩
    obtain ⟨f', rfl⟩ : ∃ q, f' = q + 1 := ⟨f' - 1, by omega⟩
    obtain rfl : j = n := by omega
    right
    refine ⟨k, nu, to, ?_, ?_, hk1 (by omega), hk, hv⟩
    · rw [f_X7_readNumbers_l5.eq_2, if_pos (nI_le (Nat.le_refl _) (by omega))]
    · rw [f_X10_figures_l2.eq_2, if_pos (nI_le (Nat.le_refl _) (by omega))]
  | succ r ih =>
    intro j k f f' nu to hj hf hf' hk0 hk1 hk hv
    obtain ⟨f, rfl⟩ : ∃ q, f = q + 1 := ⟨f - 1, by omega⟩
    obtain ⟨f', rfl⟩ : ∃ q, f' = q + 1 := ⟨f' - 1, by omega⟩
    rw [f_X7_readNumbers_l5.eq_2, if_neg (nI_ge (by omega) (by omega)), f_X10_figures_l2.eq_2, if_neg (nI_ge (by omega) (by omega)), hF]
    rcases E_num (tx := tx) hL hn1 hn (show j < n by omega) hk (f_X7_readNumbers_l5 (nI L) tx f) (f_X10_figures_l2 (nI L) tx f') nu to F with ⟨pl, e1, e2⟩ | ⟨k', v, a1, a2, a3, e1, e2⟩
    · exact Or.inl ⟨_, _, _, e1, e2⟩
    · have h := ih (j + 1) k' f f' (upd nu j (nI v)) (upd to j (nI v)) (by omega) (by omega) (by omega) (by omega) (fun _ => by omega) a2 (fun i hi => by
        by_cases c : i = j
        · subst c; exact ⟨v, a3, pk_us, pk_us⟩
        · rw [pk_un c, pk_un c]; exact hv i (by omega))
      rw [show f_X7_readNumbers_l17 (nI L) tx (f_X7_readNumbers_l5 (nI L) tx f) (F + 4) (nI n) (nI k) (nI j) 0 0 nu = _ from e1, show f_X10_figures_l12 (nI L) tx (f_X10_figures_l2 (nI L) tx f') (F + 4) (nI n) (nI j) 0 0 (nI k) to = _ from e2]
      exact h
end NU
