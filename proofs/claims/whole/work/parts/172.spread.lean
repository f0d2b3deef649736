/-! the class's search -/
/-- queue q of R, how many changes d, the first of them g; what is done: up to change z of the queue's numbers -/
def SQ (N K : Nat) (S : Nat → Nat → Bool) (T : Nat → Nat → Nat) (a R : Nat) (qu st fi : Nat → Int32) (q d g : Nat → Nat) : Prop :=
  0 < R ∧ q 0 = a ∧ d a = 0 ∧ g a = 0 ∧ (∀ j, j < R → q j < N ∧ qu j = nI (q j) ∧ st (q j) = nI (d (q j)) ∧ fi (q j) = nI (g (q j)) ∧ d (q j) ≤ j ∧ g (q j) < 6) ∧ (∀ b, b < N → (∀ j, j < R → q j ≠ b) → st b = -1) ∧ (∀ i j, i < j → j < R → q i ≠ q j) ∧ (∀ j, 0 < j → j < R → 0 < d (q j) ∧ g (q j) < K ∧ S a (g (q j)) = true ∧ Wy K S T (T a (g (q j))) (d (q j) - 1) (q j)) ∧ (∀ i j, i < j → j < R → 8 * d (q i) + g (q i) ≤ 8 * d (q j) + g (q j))
def SD (K : Nat) (S : Nat → Nat → Bool) (T : Nat → Nat → Nat) (R z : Nat) (q d g : Nat → Nat) : Prop := ∀ j y, j < R → y < K → 6 * j + y < z → S (q j) y = true → ∃ i, i < R ∧ q i = T (q j) y ∧ 8 * d (q i) + g (q i) ≤ 8 * (d (q j) + 1) + (if j = 0 then y else g (q j))
def SB (R k x : Nat) (q d g : Nat → Nat) : Prop := ∀ i, i < R → 8 * d (q i) + g (q i) ≤ 8 * (d (q k) + 1) + (if k = 0 then x else g (q k))
theorem SQ_le {N K : Nat} {S : Nat → Nat → Bool} {T : Nat → Nat → Nat} {a R : Nat} {qu st fi : Nat → Int32} {q d g : Nat → Nat} (h : SQ N K S T a R qu st fi q d g) : R ≤ N := pig N R q (fun i hi => (h.2.2.2.2.1 i hi).1) h.2.2.2.2.2.2.1
theorem SQ_push {N K : Nat} {S : Nat → Nat → Bool} {T : Nat → Nat → Nat} {a R k x t : Nat} {qu st fi : Nat → Int32} {q d g : Nat → Nat} (hK : K ≤ 6) (h : SQ N K S T a R qu st fi q d g) (hD : SD K S T R (6 * k + x) q d g) (hB : SB R k x q d g) (hk : k < R) (hx : x < K) (hs : S (q k) x = true) (ht : T (q k) x = t) (htN : t < N) (hn : ∀ j, j < R → q j ≠ t) :
    ∃ q' d' g', SQ N K S T a (R + 1) (upd qu R (nI t)) (upd st t (nI (d (q k) + 1))) (upd fi t (nI (if k = 0 then x else g (q k)))) q' d' g' ∧ SD K S T (R + 1) (6 * k + (x + 1)) q' d' g' ∧ SB (R + 1) k (x + 1) q' d' g' ∧ q' k = q k ∧ d' (q k) = d (q k) ∧ g' (q k) = g (q k) := by
  obtain ⟨h1, h2, h3, h4, h5, h6, h7, h8, h9⟩ := h
  have at0 : a ≠ t := by rw [← h2]; exact hn 0 h1
  generalize hF : (if k = 0 then x else g (q k)) = F
  have hF6 : F < 6 := by
    rw [← hF]; split
    · omega
    · exact (h5 k hk).2.2.2.2.2
  refine ⟨fun j => if j = R then t else q j, fun b => if b = t then d (q k) + 1 else d b, fun b => if b = t then F else g b, ?_, ?_, ?_, ?_, ?_, ?_⟩
  · have eq : ∀ j, j < R → (if j = R then t else q j) = q j := fun j hj => if_neg (by omega)
    have ed : ∀ j, j < R → (if q j = t then d (q k) + 1 else d (q j)) = d (q j) := fun j hj => if_neg (hn j hj)
    have eg : ∀ j, j < R → (if q j = t then F else g (q j)) = g (q j) := fun j hj => if_neg (hn j hj)
    refine ⟨by omega, ?_, ?_, ?_, fun j hj => ?_, fun b hb hnb => ?_, fun i j hij hj => ?_, fun j hj0 hj => ?_, fun i j hij hj => ?_⟩
    · show (if 0 = R then t else q 0) = a
      rw [if_neg (by omega), h2]
    · show (if a = t then _ else d a) = 0
      rw [if_neg at0, h3]
    · show (if a = t then _ else g a) = 0
      rw [if_neg at0, h4]
    · show (if j = R then t else q j) < N ∧ _
      by_cases c : j = R
      · subst c
        have := (h5 k hk).2.2.2.2.1
        simp only [if_true]
        exact ⟨htN, pk_us, pk_us, pk_us, by omega, hF6⟩
      · have hj' : j < R := by omega
        obtain ⟨a1, a2, a3, a4, a5, a6⟩ := h5 j hj'
        simp only [eq j hj', ed j hj', eg j hj']
        exact ⟨a1, by rw [pk_un c, a2], by rw [pk_un (hn j hj'), a3], by rw [pk_un (hn j hj'), a4], a5, a6⟩
    · have hbt : b ≠ t := fun e => hnb R (by omega) (by show (if R = R then t else q R) = b; rw [if_pos rfl, e])
      rw [pk_un hbt]
      exact h6 b hb (fun j hj e => hnb j (by omega) (by show (if j = R then t else q j) = b; rw [eq j hj, e]))
    · show (if i = R then t else q i) ≠ (if j = R then t else q j)
      rw [eq i (by omega)]
      by_cases c : j = R
      · rw [if_pos c]; exact hn i (by omega)
      · rw [if_neg c]; exact h7 i j hij (by omega)
    · by_cases c : j = R
      · subst c
        simp only [if_true]
        refine ⟨by omega, ?_⟩
        by_cases ck : k = 0
        · subst ck
          rw [if_pos rfl] at hF
          subst hF
          rw [h2] at ht hs
          rw [h2, h3]
          exact ⟨hx, hs, ht⟩
        · rw [if_neg ck] at hF
          subst hF
          obtain ⟨b1, b2, b3, b4⟩ := h8 k (by omega) hk
          refine ⟨b2, b3, ?_⟩
          rw [show d (q k) + 1 - 1 = (d (q k) - 1) + 1 by omega]
          exact ⟨q k, b4, x, hx, hs, ht⟩
      · have hj' : j < R := by omega
        simp only [eq j hj', ed j hj', eg j hj']
        exact h8 j hj0 hj'
    · have hi' : i < R := by omega
      by_cases c : j = R
      · subst c
        simp only [eq i hi', ed i hi', eg i hi', if_true]
        have := hB i hi'
        rw [hF] at this
        exact this
      · have hj' : j < R := by omega
        simp only [eq i hi', ed i hi', eg i hi', eq j hj', ed j hj', eg j hj']
        exact h9 i j hij hj'
  · have eq : ∀ j, j < R → (if j = R then t else q j) = q j := fun j hj => if_neg (by omega)
    have ed : ∀ j, j < R → (if q j = t then d (q k) + 1 else d (q j)) = d (q j) := fun j hj => if_neg (hn j hj)
    have eg : ∀ j, j < R → (if q j = t then F else g (q j)) = g (q j) := fun j hj => if_neg (hn j hj)
    intro j y hj hy hz hs'
    have hj' : j < R := by omega
    simp only [eq j hj', ed j hj', eg j hj'] at hs' ⊢
    by_cases c : 6 * j + y < 6 * k + x
    · obtain ⟨i, i1, i2, i3⟩ := hD j y hj' hy c hs'
      refine ⟨i, by omega, ?_, ?_⟩
      · rw [eq i i1]; exact i2
      · rw [eq i i1, ed i i1, eg i i1]; exact i3
    · obtain ⟨rfl, rfl⟩ : j = k ∧ y = x := by omega
      refine ⟨R, by omega, ?_, ?_⟩
      · rw [if_pos rfl]; exact ht.symm
      · rw [if_pos rfl, if_pos rfl, if_pos rfl, hF]
        exact Nat.le_refl _
  · have eq : ∀ j, j < R → (if j = R then t else q j) = q j := fun j hj => if_neg (by omega)
    have ed : ∀ j, j < R → (if q j = t then d (q k) + 1 else d (q j)) = d (q j) := fun j hj => if_neg (hn j hj)
    have eg : ∀ j, j < R → (if q j = t then F else g (q j)) = g (q j) := fun j hj => if_neg (hn j hj)
    intro i hi
    have hle : F ≤ (if k = 0 then x + 1 else g (q k)) := by
      rw [← hF]; split <;> omega
    by_cases c : i = R
    · subst c
      simp only [eq k hk, ed k hk, eg k hk, if_true]
      omega
    · have hi' : i < R := by omega
      simp only [eq i hi', ed i hi', eg i hi', eq k hk, ed k hk, eg k hk]
      have := hB i hi'
      rw [hF] at this
      omega
  · exact if_neg (by omega)
  · exact if_neg (hn k hk)
  · exact if_neg (hn k hk)
theorem SD_skip {K : Nat} {S : Nat → Nat → Bool} {T : Nat → Nat → Nat} {R k x : Nat} {q d g : Nat → Nat} (hK : K ≤ 6) (hx : x < K) (hD : SD K S T R (6 * k + x) q d g) (hB : SB R k x q d g) (hv : S (q k) x = true → ∃ i, i < R ∧ q i = T (q k) x) : SD K S T R (6 * k + (x + 1)) q d g ∧ SB R k (x + 1) q d g := by
  constructor
  · intro j y hj hy hz hs
    by_cases c : 6 * j + y < 6 * k + x
    · exact hD j y hj hy c hs
    · obtain ⟨rfl, rfl⟩ : j = k ∧ y = x := by omega
      obtain ⟨i, i1, i2⟩ := hv hs
      exact ⟨i, i1, i2, hB i i1⟩
  · intro i hi
    have := hB i hi
    split <;> rename_i c
    · rw [if_pos c] at this; omega
    · rw [if_neg c] at this; omega
theorem E_sp52 {N K : Nat} {S : Nat → Nat → Bool} {T : Nat → Nat → Nat} {mk pe sz : Int32} {rows edges : Nat → Int32} (hN : N ≤ 720) (hK : K ≤ 6) (hT : ∀ a, a < N → ∀ x, x < K → T a x < N) (hl : ∀ a, a < N → ∀ x, x < K → f_X1_leadsTo (nI a) (nI x) mk pe sz (nI K) rows edges = some (if S a x then nI (T a x) else -1)) {a k s : Nat} (K23 : Int32 → Int32 → Int32 → (Nat → Int32) → (Nat → Int32) → (Nat → Int32) → Option (Int32 × (Nat → Int32) × (Nat → Int32) × (Nat → Int32))) : ∀ (j x f R : Nat) (qu st fi : Nat → Int32) (q d g : Nat → Nat), x + j = K → j < f → SQ N K S T a R qu st fi q d g → SD K S T R (6 * k + x) q d g → SB R k x q d g → k < R → q k = s → ∃ R' qu' st' fi' q' d' g', f_X5_spread_l52 pe sz (nI K) rows edges K23 f mk (nI k) (nI s) (nI x) (nI R) qu st fi = K23 mk (nI (k + 1)) (nI R') qu' st' fi' ∧ SQ N K S T a R' qu' st' fi' q' d' g' ∧ SD K S T R' (6 * k + K) q' d' g' ∧ SB R' k K q' d' g' ∧ k < R' := by
  intro j
  induction j with
  | zero =>
    intro x f R qu st fi q d g hx hf h1 h2 h3 h4 h5
    obtain ⟨f, rfl⟩ : ∃ q, f = q + 1 := ⟨f - 1, by omega⟩
    obtain rfl : x = K := by omega
    refine ⟨R, qu, st, fi, q, d, g, ?_, h1, h2, h3, h4⟩
    rw [f_X5_spread_l52.eq_2, if_pos (nI_le (Nat.le_refl _) (by omega)), show nI k + (1 : Int32) = nI (k + 1) from nI_1 k]
  | succ j ih =>
    intro x f R qu st fi q d g hx hf h1 h2 h3 h4 h5
    obtain ⟨f, rfl⟩ : ∃ q, f = q + 1 := ⟨f - 1, by omega⟩
    have hxK : x < K := by omega
    subst h5
    have hRN := SQ_le h1
    obtain ⟨a1, a2, a3, a4, a5, a6⟩ := h1.2.2.2.2.1 k h4
    rw [f_X5_spread_l52.eq_2, if_neg (nI_ge (by omega) (by omega)), hl _ a1 x hxK, Option.bind_some, bdn _ (show q k < 720 by omega) (by omega), nI_cl (by omega), bdn _ (show q k < 720 by omega) (by omega), a3, a4, show nI (d (q k)) + (1 : Int32) = nI (d (q k) + 1) from nI_1 _]
    have hmid : ∀ u, (if nI k = 0 then f_X5_spread_b97 pe sz (nI K) rows edges K23 (f_X5_spread_l52 pe sz (nI K) rows edges K23 f) mk (nI k) (nI (q k)) (nI x) (nI x) (nI (d (q k) + 1)) u (nI R) qu st fi else f_X5_spread_b97 pe sz (nI K) rows edges K23 (f_X5_spread_l52 pe sz (nI K) rows edges K23 f) mk (nI k) (nI (q k)) (nI x) (nI (g (q k))) (nI (d (q k) + 1)) u (nI R) qu st fi) = f_X5_spread_b97 pe sz (nI K) rows edges K23 (f_X5_spread_l52 pe sz (nI K) rows edges K23 f) mk (nI k) (nI (q k)) (nI x) (nI (if k = 0 then x else g (q k))) (nI (d (q k) + 1)) u (nI R) qu st fi := by
      intro u
      by_cases c : k = 0
      · subst c; rw [if_pos (show nI 0 = (0 : Int32) from rfl), if_pos rfl]
      · rw [if_neg (fun e => c ((nI_eq0 (by omega)).mp e)), if_neg c]
    rw [hmid]
    unfold f_X5_spread_b97
    rw [show nI x + (1 : Int32) = nI (x + 1) from nI_1 x]
    have hskip : ∀ u, f_X5_reach u (nI (d (q k) + 1)) (nI (if k = 0 then x else g (q k))) (nI R) qu st fi = some (nI R, qu, st, fi) → (S (q k) x = true → ∃ i, i < R ∧ q i = T (q k) x) → ∃ R' qu' st' fi' q' d' g', Option.bind (f_X5_reach u (nI (d (q k) + 1)) (nI (if k = 0 then x else g (q k))) (nI R) qu st fi) (fun u_1 => f_X5_spread_l52 pe sz (nI K) rows edges K23 f mk (nI k) (nI (q k)) (nI (x + 1)) u_1.1 u_1.2.1 u_1.2.2.1 u_1.2.2.2) = K23 mk (nI (k + 1)) (nI R') qu' st' fi' ∧ SQ N K S T a R' qu' st' fi' q' d' g' ∧ SD K S T R' (6 * k + K) q' d' g' ∧ SB R' k K q' d' g' ∧ k < R' := by
      intro u e hv
      obtain ⟨g1, g2⟩ := SD_skip hK hxK h2 h3 hv
      rw [e, Option.bind_some]
      exact ih (x + 1) f R qu st fi q d g (by omega) (by omega) h1 g1 g2 h4 rfl
    cases hs : S (q k) x with
    | false =>
      refine hskip _ ?_ (fun h => by rw [hs] at h; exact absurd h (by decide))
      unfold f_X5_reach
      exact if_pos (show (-1 : Int32) < 0 by decide)
    | true =>
      have ht := hT _ a1 x hxK
      by_cases hv : ∃ i, i < R ∧ q i = T (q k) x
      · refine hskip _ ?_ (fun _ => hv)
        obtain ⟨i, i1, i2⟩ := hv
        unfold f_X5_reach
        refine (if_neg (show ¬ nI (T (q k) x) < 0 from nI_lt0 (by omega))).trans ?_
        refine (if_neg (show ¬ (720 : Int32) ≤ nI (T (q k) x) from nI_ge (b := 720) (by omega) (by omega))).trans ?_
        refine (bdn _ (show T (q k) x < 720 by omega) (by omega)).trans ?_
        refine if_pos (show 0 ≤ st (nI (T (q k) x)).toNatClampNeg from ?_)
        have := (h1.2.2.2.2.1 i i1).2.2.2.2.1
        rw [nI_cl (by omega), ← i2, (h1.2.2.2.2.1 i i1).2.2.1]
        exact nI_ge0 (by omega)
      · have hn : ∀ j, j < R → q j ≠ T (q k) x := fun j hj e => hv ⟨j, hj, e⟩
        obtain ⟨q', d', g', p1, p2, p3, p4, p5, p6⟩ := SQ_push hK h1 h2 h3 h4 hxK hs rfl ht hn
        have hR1 := SQ_le p1
        have e : f_X5_reach (nI (T (q k) x)) (nI (d (q k) + 1)) (nI (if k = 0 then x else g (q k))) (nI R) qu st fi = some (nI (R + 1), upd qu R (nI (T (q k) x)), upd st (T (q k) x) (nI (d (q k) + 1)), upd fi (T (q k) x) (nI (if k = 0 then x else g (q k)))) := by
          unfold f_X5_reach
          rw [if_neg (show ¬ nI (T (q k) x) < 0 from nI_lt0 (by omega)), if_neg (show ¬ (720 : Int32) ≤ nI (T (q k) x) from nI_ge (b := 720) (by omega) (by omega)), bdn _ (show T (q k) x < 720 by omega) (by omega), nI_cl (by omega), h1.2.2.2.2.2.1 _ ht hn, if_neg (by decide), if_neg (show ¬ (720 : Int32) ≤ nI R from nI_ge (b := 720) (by omega) (by omega)), bdn _ (show T (q k) x < 720 by omega) (by omega), bdn _ (show T (q k) x < 720 by omega) (by omega), bdn _ (show R < 720 by omega) (by omega), nI_cl (by omega), show nI R + (1 : Int32) = nI (R + 1) from nI_1 R]
        show ∃ R' qu' st' fi' q' d' g', Option.bind (f_X5_reach (nI (T (q k) x)) (nI (d (q k) + 1)) (nI (if k = 0 then x else g (q k))) (nI R) qu st fi) _ = _ ∧ _
        rw [e, Option.bind_some]
        exact ih (x + 1) f (R + 1) _ _ _ q' d' g' (by omega) (by omega) p1 p2 p3 (by omega) p4
theorem E_sp23 {N K : Nat} {S : Nat → Nat → Bool} {T : Nat → Nat → Nat} {mk pe sz : Int32} {rows edges : Nat → Int32} (hN : N ≤ 720) (hK : K ≤ 6) (hT : ∀ a, a < N → ∀ x, x < K → T a x < N) (hl : ∀ a, a < N → ∀ x, x < K → f_X1_leadsTo (nI a) (nI x) mk pe sz (nI K) rows edges = some (if S a x then nI (T a x) else -1)) {a : Nat} : ∀ (j k f R : Nat) (qu st fi : Nat → Int32) (q d g : Nat → Nat), k + j = 721 → j < f → SQ N K S T a R qu st fi q d g → SD K S T R (6 * k) q d g → (k < R → SB R k 0 q d g) → k ≤ R → ∃ R' qu' st' fi' q' d' g', f_X5_spread_l23 pe sz (nI K) rows edges f mk (nI k) (nI R) qu st fi = some (nI R', qu', st', fi') ∧ SQ N K S T a R' qu' st' fi' q' d' g' ∧ SD K S T R' (6 * R') q' d' g' := by
  intro j
  induction j with
  | zero =>
    intro k f R qu st fi q d g hk hf h1 h2 h3 h4
    have hRN := SQ_le h1
    omega
  | succ j ih =>
    intro k f R qu st fi q d g hk hf h1 h2 h3 h4
    have hRN := SQ_le h1
    obtain ⟨f, rfl⟩ : ∃ q, f = q + 1 := ⟨f - 1, by omega⟩
    rw [f_X5_spread_l23.eq_2]
    by_cases hkR : k = R
    · subst hkR
      rw [if_pos (nI_le (Nat.le_refl _) (by omega))]
      exact ⟨_, _, _, _, q, d, g, rfl, h1, h2⟩
    · have h0 := NF_big
      have hkR' : k < R := by omega
      rw [if_neg (nI_ge hkR' (by omega)), if_neg (show ¬ (720 : Int32) ≤ nI k from nI_ge (b := 720) (by omega) (by omega)), bdn _ (show k < 720 by omega) (by omega), nI_cl (by omega), (h1.2.2.2.2.1 k hkR').2.1]
      obtain ⟨R1, qu1, st1, fi1, q1, d1, g1, e1, p1, p2, p3, p4⟩ := E_sp52 hN hK hT hl (f_X5_spread_l23 pe sz (nI K) rows edges f) K 0 NF R qu st fi q d g (by omega) (by omega) h1 h2 (h3 hkR') hkR' rfl
      obtain ⟨R2, qu2, st2, fi2, q2, d2, g2, e2, r1, r2⟩ := ih (k + 1) f R1 qu1 st1 fi1 q1 d1 g1 (by omega) (by omega) p1 (fun i y hi hy hz => p2 i y hi hy (by omega)) (fun hk1 i hi => by
        have b := p3 i hi
        have m := p1.2.2.2.2.2.2.2.2 k (k + 1) (by omega) hk1
        rw [if_neg (by omega)]
        by_cases c : k = 0
        · subst c
          rw [if_pos rfl, p1.2.1, p1.2.2.1] at b
          have := (p1.2.2.2.2.2.2.2.1 1 (by omega) hk1).1
          show _ ≤ 8 * (d1 (q1 1) + 1) + g1 (q1 1)
          omega
        · rw [if_neg c] at b
          omega) (by omega)
      exact ⟨R2, qu2, st2, fi2, q2, d2, g2, e1.trans e2, r1, r2⟩
/-- all that the search finds -/
def SF (N K : Nat) (S : Nat → Nat → Bool) (T : Nat → Nat → Nat) (a R : Nat) (qu st fi : Nat → Int32) (q d g : Nat → Nat) : Prop := SQ N K S T a R qu st fi q d g ∧ (∀ x, x < K → S a x = true → ∀ m b, Wy K S T (T a x) m b → ∃ i, i < R ∧ q i = b ∧ 8 * d b + g b ≤ 8 * (m + 1) + x) ∧ SD K S T R (6 * R) q d g
theorem SF_all {N K : Nat} {S : Nat → Nat → Bool} {T : Nat → Nat → Nat} {a R : Nat} {qu st fi : Nat → Int32} {q d g : Nat → Nat} (hK : K ≤ 6) (h : SQ N K S T a R qu st fi q d g) (hD : SD K S T R (6 * R) q d g) : SF N K S T a R qu st fi q d g := by
  refine ⟨h, fun x hx hs m => ?_, hD⟩
  induction m with
  | zero =>
    intro b hb
    have hb' : T a x = b := hb
    subst hb'
    obtain ⟨i, i1, i2, i3⟩ := hD 0 x h.1 hx (by have := h.1; omega) (by rw [h.2.1]; exact hs)
    rw [if_pos rfl, h.2.1, h.2.2.1] at i3
    rw [h.2.1] at i2
    rw [i2] at i3
    exact ⟨i, i1, i2, by omega⟩
  | succ m ih =>
    intro b hb
    obtain ⟨c, c1, y, y1, y2, y3⟩ := hb
    obtain ⟨j, j1, j2, j3⟩ := ih c c1
    subst j2
    obtain ⟨i, i1, i2, i3⟩ := hD j y j1 y1 (by omega) y2
    rw [i2, y3] at i3
    refine ⟨i, i1, i2.trans y3, ?_⟩
    by_cases c : j = 0
    · subst c
      rw [if_pos rfl, h.2.1, h.2.2.1] at i3
      omega
    · rw [if_neg c] at i3
      omega
theorem E_spread {N K : Nat} {S : Nat → Nat → Bool} {T : Nat → Nat → Nat} {mk pe sz : Int32} {rows edges : Nat → Int32} (hN : N ≤ 720) (hK : K ≤ 6) (hT : ∀ a, a < N → ∀ x, x < K → T a x < N) (hl : ∀ a, a < N → ∀ x, x < K → f_X1_leadsTo (nI a) (nI x) mk pe sz (nI K) rows edges = some (if S a x then nI (T a x) else -1)) {a : Nat} (ha : a < N) (r0 : Int32) (qu st fi : Nat → Int32) : ∃ R qu' st' fi' q d g, f_X5_spread (nI a) mk r0 qu st fi pe sz (nI K) rows edges = some (nI R, qu', st', fi') ∧ SF N K S T a R qu' st' fi' q d g := by
  have h0 := NF_big
  obtain ⟨st1, f1, f2⟩ := E_fill (-1) (n := 720) (by omega) st
  have e : f_X5_reach (nI a) 0 0 0 qu st1 fi = some (nI 1, upd qu 0 (nI a), upd st1 a 0, upd fi a 0) := by
    unfold f_X5_reach
    rw [if_neg (nI_lt0 (by omega)), if_neg (show ¬ (720 : Int32) ≤ nI a from nI_ge (b := 720) (by omega) (by omega)), bdn _ (show a < 720 by omega) (by omega), nI_cl (by omega), f2 a (by omega), if_neg (by decide), if_neg (by decide), bdn _ (show a < 720 by omega) (by omega), bdn _ (show a < 720 by omega) (by omega), show bd (0 : Int32) 720 = bd (nI 0) 720 from rfl, bdn _ (show 0 < 720 by omega) (by omega), c0]
    rfl
  obtain ⟨R, qu', st', fi', q, d, g, e1, p1, p2⟩ := E_sp23 (mk := mk) (pe := pe) (sz := sz) (rows := rows) (edges := edges) (a := a) hN hK hT hl 721 0 NF 1 (upd qu 0 (nI a)) (upd st1 a 0) (upd fi a 0) (fun _ => a) (fun _ => 0) (fun _ => 0) (by omega) (by omega) ⟨by omega, rfl, rfl, rfl, fun j hj => by
    obtain rfl : j = 0 := by omega
    exact ⟨ha, pk_us, pk_us, pk_us, Nat.le_refl _, show 0 < 6 by omega⟩, fun b hb hn => by
    rw [pk_un (fun e => hn 0 (by omega) e.symm)]; exact f2 b (by omega), fun i j h1 h2 => absurd h2 (by omega), fun j h1 h2 => absurd h2 (by omega), fun i j h1 h2 => absurd h2 (by omega)⟩ (fun j y hj hy hz => absurd hz (by omega)) (fun _ i hi => show 8 * 0 + 0 ≤ 8 * (0 + 1) + (if 0 = 0 then 0 else 0) by decide) (by omega)
  refine ⟨R, qu', st', fi', q, d, g, ?_, SF_all hK p1 p2⟩
  unfold f_X5_spread
  rw [f1, Option.bind_some, e, Option.bind_some]
  exact e1
