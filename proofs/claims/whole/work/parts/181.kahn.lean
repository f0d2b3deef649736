/-! the longest way, in the class -/
theorem SF_in {N K : Nat} {S : Nat → Nat → Bool} {T : Nat → Nat → Nat} {a R : Nat} {qu st fi : Nat → Int32} {q d g : Nat → Nat} (hF : SF N K S T a R qu st fi q d g) : ∀ m b, Wy K S T a m b → ∃ i, i < R ∧ q i = b := by
  intro m b hw
  cases m with
  | zero => exact ⟨0, hF.1.1, hF.1.2.1.trans hw⟩
  | succ m =>
    obtain ⟨x, hx, hs, hw'⟩ := wy_split m b hw
    obtain ⟨i, i1, i2, _⟩ := hF.2.1 x hx hs m b hw'
    exact ⟨i, i1, i2⟩
theorem SF_wy {N K : Nat} {S : Nat → Nat → Bool} {T : Nat → Nat → Nat} {a R : Nat} {qu st fi : Nat → Int32} {q d g : Nat → Nat} (hF : SF N K S T a R qu st fi q d g) {j : Nat} (hj : j < R) : Wy K S T a (d (q j)) (q j) ∧ (0 < j → 0 < d (q j)) := by
  obtain ⟨s1, s2, s3, s4, s5, s6, s7, s8, s9⟩ := hF.1
  by_cases c : j = 0
  · subst c
    refine ⟨?_, fun h => absurd h (by omega)⟩
    rw [s2, s3]; exact rfl
  · obtain ⟨b1, b2, b3, b4⟩ := s8 j (by omega) hj
    have := wy_first b2 b3 _ _ b4
    rw [show d (q j) - 1 + 1 = d (q j) by omega] at this
    exact ⟨this, fun _ => b1⟩
/-- the changes of U that lead to t -/
def edB (S : Nat → Nat → Bool) (T : Nat → Nat → Nat) (t : Nat) (U : Nat → Bool) : Nat → Bool := fun e => U e && (S (e / 6) (e % 6) && decide (T (e / 6) (e % 6) = t))
def hit (S : Nat → Nat → Bool) (T : Nat → Nat → Nat) (t e : Nat) : Nat := if (S (e / 6) (e % 6) && decide (T (e / 6) (e % 6) = t)) = true then 1 else 0
theorem ed_new {S : Nat → Nat → Bool} {T : Nat → Nat → Nat} {U V : Nat → Bool} {e0 M t : Nat} (he : e0 < M) (hU : U e0 = false) (hV : V e0 = true) (h : ∀ e, e ≠ e0 → V e = U e) : cn (edB S T t V) M = cn (edB S T t U) M + hit S T t e0 := by
  unfold hit
  cases q : (S (e0 / 6) (e0 % 6) && decide (T (e0 / 6) (e0 % 6) = t)) with
  | false =>
    rw [if_neg (by decide)]
    refine cn_cong (fun i hi => ?_)
    unfold edB
    by_cases c : i = e0
    · subst c; rw [q, Bool.and_false, Bool.and_false]
    · rw [h i c]
  | true =>
    rw [if_pos rfl]
    refine cn_up (e := e0) ?_ ?_ he (fun i hi c => ?_)
    · unfold edB; rw [hU, Bool.false_and]
    · unfold edB; rw [hV, q]; rfl
    · unfold edB; rw [h i c]
theorem ed6 {s x : Nat} (hx : x < 6) : (6 * s + x) / 6 = s ∧ (6 * s + x) % 6 = x := by omega
theorem hit_no {S : Nat → Nat → Bool} {T : Nat → Nat → Nat} {t s x : Nat} (hx : x < 6) (h : S s x = true → T s x ≠ t) : hit S T t (6 * s + x) = 0 := by
  unfold hit
  rw [(ed6 hx).1, (ed6 hx).2]
  refine if_neg (fun q => ?_)
  rw [Bool.and_eq_true, decide_eq_true_iff] at q
  exact h q.1 q.2
theorem hit_yes {S : Nat → Nat → Bool} {T : Nat → Nat → Nat} {t s x : Nat} (hx : x < 6) (h1 : S s x = true) (h2 : T s x = t) : hit S T t (6 * s + x) = 1 := by
  unfold hit
  rw [(ed6 hx).1, (ed6 hx).2, h1, decide_eq_true h2]
  rfl
section KA
variable {N K : Nat} {S : Nat → Nat → Bool} {T : Nat → Nat → Nat} {pe sz : Int32} {rows edges : Nat → Int32}
/-- ways in that were counted -/
def CW (N K : Nat) (S : Nat → Nat → Bool) (T : Nat → Nat → Nat) (R z : Nat) (q : Nat → Nat) (wi : Nat → Int32) : Prop := ∃ U : Nat → Bool, (∀ e, U e = true ↔ ∃ j y, j < R ∧ y < K ∧ 6 * j + y < z ∧ e = 6 * q j + y) ∧ ∀ t, t < N → wi t = nI (cn (edB S T t U) (6 * N))
theorem CW_step {R k x : Nat} {q : Nat → Nat} {wi wi' : Nat → Int32} (hK : K ≤ 6) (hq : ∀ j, j < R → q j < N) (hd : ∀ i j, i < j → j < R → q i ≠ q j) (hk : k < R) (hx : x < K) (h : CW N K S T R (6 * k + x) q wi) (hwi : ∀ t, t < N → wi' t = if S (q k) x = true ∧ T (q k) x = t then wi t + 1 else wi t) : CW N K S T R (6 * k + (x + 1)) q wi' := by
  obtain ⟨U, h1, h2⟩ := h
  have hqk := hq k hk
  have hU : U (6 * q k + x) = false := by
    cases c : U (6 * q k + x) with
    | false => rfl
    | true =>
      obtain ⟨j, y, j1, y1, z1, e⟩ := (h1 _).mp c
      have e1 : q j = q k := by omega
      have : j = k := by
        rcases Nat.lt_trichotomy j k with w | w | w
        · exact absurd e1 (hd j k w hk)
        · exact w
        · exact absurd e1.symm (hd k j w j1)
      omega
  refine ⟨fun e => decide (e = 6 * q k + x) || U e, fun e => ?_, fun t ht => ?_⟩
  · rw [Bool.or_eq_true, decide_eq_true_iff, h1]
    constructor
    · rintro (rfl | ⟨j, y, j1, y1, z1, e1⟩)
      · exact ⟨k, x, hk, hx, by omega, rfl⟩
      · exact ⟨j, y, j1, y1, by omega, e1⟩
    · rintro ⟨j, y, j1, y1, z1, e1⟩
      by_cases c : 6 * j + y < 6 * k + x
      · exact Or.inr ⟨j, y, j1, y1, c, e1⟩
      · obtain ⟨rfl, rfl⟩ : j = k ∧ y = x := by omega
        exact Or.inl e1
  · have e := ed_new (S := S) (T := T) (U := U) (V := fun e => decide (e = 6 * q k + x) || U e) (e0 := 6 * q k + x) (M := 6 * N) (t := t) (by omega) hU (by rw [decide_eq_true rfl]; rfl) (fun e he => by rw [decide_eq_false he, Bool.false_or])
    rw [e, hwi t ht, h2 t ht]
    by_cases c : S (q k) x = true ∧ T (q k) x = t
    · rw [if_pos c, hit_yes (by omega) c.1 c.2]; exact nI_1 _
    · rw [if_neg c, hit_no (by omega) (fun a b => c ⟨a, b⟩)]; rfl
theorem E_cw20 (hN : N ≤ 720) (hK : K ≤ 6) (hT : ∀ a, a < N → ∀ x, x < K → T a x < N) (hl : ∀ a, a < N → ∀ x, x < K → f_X1_leadsTo (nI a) (nI x) (-1) pe sz (nI K) rows edges = some (if S a x then nI (T a x) else -1)) {R k : Nat} {qu : Nat → Int32} {q : Nat → Nat} (hR : R ≤ N) (hq : ∀ j, j < R → q j < N ∧ qu j = nI (q j)) (hd : ∀ i j, i < j → j < R → q i ≠ q j) (hk : k < R) (K10 : Int32 → (Nat → Int32) → Option (Nat → Int32)) : ∀ (j x f : Nat) (wi : Nat → Int32), x + j = K → j < f → CW N K S T R (6 * k + x) q wi → ∃ wi', f_X5_countWaysIn_l20 (nI R) qu pe sz (nI K) rows edges K10 f (nI k) (nI x) wi = K10 (nI (k + 1)) wi' ∧ CW N K S T R (6 * k + K) q wi' := by
  intro j
  induction j with
  | zero =>
    intro x f wi hx hf hC
    obtain ⟨f, rfl⟩ : ∃ q, f = q + 1 := ⟨f - 1, by omega⟩
    obtain rfl : x = K := by omega
    refine ⟨wi, ?_, hC⟩
    rw [f_X5_countWaysIn_l20.eq_2, if_pos (nI_le (Nat.le_refl _) (by omega)), show nI k + (1 : Int32) = nI (k + 1) from nI_1 k]
  | succ j ih =>
    intro x f wi hx hf hC
    obtain ⟨f, rfl⟩ : ∃ q, f = q + 1 := ⟨f - 1, by omega⟩
    have hxK : x < K := by omega
    obtain ⟨q1, q2⟩ := hq k hk
    rw [f_X5_countWaysIn_l20.eq_2, if_neg (nI_ge (by omega) (by omega)), bdn _ (show k < 720 by omega) (by omega), nI_cl (by omega), q2, hl _ q1 x hxK, Option.bind_some]
    unfold f_X5_countWaysIn_b58
    rw [show nI x + (1 : Int32) = nI (x + 1) from nI_1 x]
    cases hs : S (q k) x with
    | false =>
      rw [show (if false = true then nI (T (q k) x) else (-1 : Int32)) = -1 from rfl, if_pos (show (-1 : Int32) < 0 by decide)]
      exact ih (x + 1) f wi (by omega) (by omega) (CW_step hK (fun j hj => (hq j hj).1) hd hk hxK hC (fun t ht => (if_neg (fun c => by rw [hs] at c; exact absurd c.1 (by decide))).symm))
    | true =>
      have ht := hT _ q1 x hxK
      rw [show (if true = true then nI (T (q k) x) else (-1 : Int32)) = nI (T (q k) x) from rfl, if_neg (nI_lt0 (by omega)), bdn _ (show T (q k) x < 720 by omega) (by omega), bdn _ (show T (q k) x < 720 by omega) (by omega), nI_cl (by omega)]
      refine ih (x + 1) f _ (by omega) (by omega) (CW_step hK (fun j hj => (hq j hj).1) hd hk hxK hC (fun t ht' => ?_))
      by_cases c : T (q k) x = t
      · subst c; rw [pk_us, if_pos ⟨hs, rfl⟩]
      · rw [pk_un (fun e => c e.symm), if_neg (fun w => c w.2)]
theorem E_cw10 (hN : N ≤ 720) (hK : K ≤ 6) (hT : ∀ a, a < N → ∀ x, x < K → T a x < N) (hl : ∀ a, a < N → ∀ x, x < K → f_X1_leadsTo (nI a) (nI x) (-1) pe sz (nI K) rows edges = some (if S a x then nI (T a x) else -1)) {R : Nat} {qu : Nat → Int32} {q : Nat → Nat} (hR : R ≤ N) (hq : ∀ j, j < R → q j < N ∧ qu j = nI (q j)) (hd : ∀ i j, i < j → j < R → q i ≠ q j) : ∀ (j k f : Nat) (wi : Nat → Int32), k + j = R → j < f → CW N K S T R (6 * k) q wi → ∃ wi', f_X5_countWaysIn_l10 (nI R) qu pe sz (nI K) rows edges f (nI k) wi = some wi' ∧ CW N K S T R (6 * R) q wi' := by
  have h0 := NF_big
  intro j
  induction j with
  | zero =>
    intro k f wi hk hf hC
    obtain ⟨f, rfl⟩ : ∃ q, f = q + 1 := ⟨f - 1, by omega⟩
    obtain rfl : k = R := by omega
    refine ⟨wi, ?_, hC⟩
    rw [f_X5_countWaysIn_l10.eq_2, if_pos (nI_le (Nat.le_refl _) (by omega))]
  | succ j ih =>
    intro k f wi hk hf hC
    obtain ⟨f, rfl⟩ : ∃ q, f = q + 1 := ⟨f - 1, by omega⟩
    obtain ⟨wi1, e1, hC1⟩ := E_cw20 hN hK hT hl hR hq hd (show k < R by omega) (f_X5_countWaysIn_l10 (nI R) qu pe sz (nI K) rows edges f) K 0 NF wi (by omega) (by omega) hC
    have hC2 : CW N K S T R (6 * (k + 1)) q wi1 := by
      obtain ⟨U, u1, u2⟩ := hC1
      refine ⟨U, fun e => (u1 e).trans ⟨?_, ?_⟩, u2⟩
      · rintro ⟨j, y, j1, y1, z1, e1⟩; exact ⟨j, y, j1, y1, by omega, e1⟩
      · rintro ⟨j, y, j1, y1, z1, e1⟩; exact ⟨j, y, j1, y1, by omega, e1⟩
    obtain ⟨wi2, e2, hC3⟩ := ih (k + 1) f wi1 (by omega) (by omega) hC2
    refine ⟨wi2, ?_, hC3⟩
    rw [f_X5_countWaysIn_l10.eq_2, if_neg (nI_ge (by omega) (by omega))]
    exact e1.trans e2
/-- the second queue p of P, ways in of the changes U that are not gone through yet, lengths l -/
def KQ (N K : Nat) (S : Nat → Nat → Bool) (T : Nat → Nat → Nat) (a R : Nat) (q : Nat → Nat) (k x P : Nat) (p : Nat → Nat) (qu st wi : Nat → Int32) (U : Nat → Bool) (l : Nat → Nat) : Prop :=
  (∀ i, i < P → p i < N ∧ qu i = nI (p i) ∧ (∃ j, j < R ∧ q j = p i) ∧ cn (edB S T (p i) U) (6 * N) = 0) ∧
  (∀ i j, i < j → j < P → p i ≠ p j) ∧
  (∀ e, U e = true ↔ (e % 6 < K ∧ (∃ j, j < R ∧ q j = e / 6) ∧ ∀ i, i < P → p i = e / 6 → 6 * k + x ≤ 6 * i + e % 6)) ∧
  (∀ t, t < N → wi t = nI (cn (edB S T t U) (6 * N))) ∧
  (∀ j, j < R → cn (edB S T (q j) U) (6 * N) = 0 → ∃ i, i < P ∧ p i = q j) ∧
  (∀ j, j < R → st (q j) = nI (l (q j)) ∧ Wy K S T a (l (q j)) (q j) ∧ l (q j) ≤ R + k + 1) ∧
  (∀ j y, j < R → y < K → S (q j) y = true → U (6 * q j + y) = false → l (q j) + 1 ≤ l (T (q j) y))
/-- a change that is gone through is out of U -/
theorem KQ_U {R k x P : Nat} {p q : Nat → Nat} {U : Nat → Bool} (hK : K ≤ 6) (hk : k < P) (hx : x < K) (hd : ∀ i j, i < j → j < P → p i ≠ p j) (h : ∀ e, U e = true ↔ (e % 6 < K ∧ (∃ j, j < R ∧ q j = e / 6) ∧ ∀ i, i < P → p i = e / 6 → 6 * k + x ≤ 6 * i + e % 6)) : ∀ e, (!decide (e = 6 * p k + x) && U e) = true ↔ (e % 6 < K ∧ (∃ j, j < R ∧ q j = e / 6) ∧ ∀ i, i < P → p i = e / 6 → 6 * k + (x + 1) ≤ 6 * i + e % 6) := by
  intro e
  rw [Bool.and_eq_true, h, Bool.not_eq_true', decide_eq_false_iff_not]
  constructor
  · rintro ⟨h1, h2, h3, h4⟩
    refine ⟨h2, h3, fun i hi hp => ?_⟩
    have := h4 i hi hp
    by_cases c : 6 * i + e % 6 = 6 * k + x
    · obtain ⟨rfl, c2⟩ : i = k ∧ e % 6 = x := by omega
      exact absurd (show e = 6 * p i + x by omega) h1
    · omega
  · rintro ⟨h2, h3, h4⟩
    refine ⟨fun c => ?_, h2, h3, fun i hi hp => by have := h4 i hi hp; omega⟩
    have := h4 k hk (by omega)
    omega
theorem E_ka93 (hN : N ≤ 720) (hK : K ≤ 6) (hT : ∀ a, a < N → ∀ x, x < K → T a x < N) (hl : ∀ a, a < N → ∀ x, x < K → f_X1_leadsTo (nI a) (nI x) (-1) pe sz (nI K) rows edges = some (if S a x then nI (T a x) else -1)) {a R k s : Nat} {q : Nat → Nat} {x3 x4 : Int32} {fi : Nat → Int32} (hR : R ≤ N) (hq : ∀ j, j < R → q j < N) (hcl : ∀ j y, j < R → y < K → S (q j) y = true → ∃ i, i < R ∧ q i = T (q j) y) (hkN : k ≤ 720) (K50 : Int32 → Int32 → Int32 → Int32 → (Nat → Int32) → (Nat → Int32) → (Nat → Int32) → (Nat → Int32) → Option (Int32 × Int32 × (Nat → Int32) × (Nat → Int32) × (Nat → Int32) × (Nat → Int32))) : ∀ (j x f P : Nat) (p : Nat → Nat) (qu st wi : Nat → Int32) (U : Nat → Bool) (l : Nat → Nat), x + j = K → j < f → KQ N K S T a R q k x P p qu st wi U l → k < P → p k = s → l s ≤ R + k → ∃ P' p' qu' st' wi' U' l', f_X5_longestFrom_l93 pe sz (nI K) rows edges K50 f x3 x4 (nI k) (nI s) (nI x) (nI P) qu st fi wi = K50 x3 x4 (nI (k + 1)) (nI P') qu' st' fi wi' ∧ KQ N K S T a R q k K P' p' qu' st' wi' U' l' ∧ P ≤ P' ∧ ∀ i, i < P → p' i = p i ∧ l' (p i) = l (p i) := by
  intro j
  induction j with
  | zero =>
    intro x f P p qu st wi U l hx hf hQ hk hp hls
    obtain ⟨f, rfl⟩ : ∃ q, f = q + 1 := ⟨f - 1, by omega⟩
    obtain rfl : x = K := by omega
    refine ⟨P, p, qu, st, wi, U, l, ?_, hQ, Nat.le_refl _, fun i _ => ⟨rfl, rfl⟩⟩
    rw [f_X5_longestFrom_l93.eq_2, if_pos (nI_le (Nat.le_refl _) (by omega)), show nI k + (1 : Int32) = nI (k + 1) from nI_1 k]
  | succ j ih =>
    intro x f P p qu st wi U l hx hf hQ hk hp hls
    obtain ⟨f, rfl⟩ : ∃ q, f = q + 1 := ⟨f - 1, by omega⟩
    have hxK : x < K := by omega
    obtain ⟨k1, k2, k3, k4, k5, k6, k7⟩ := hQ
    subst hp
    obtain ⟨s1, s2, ⟨js, js1, js2⟩, s4⟩ := k1 k hk
    have hst : st (p k) = nI (l (p k)) := by rw [← js2]; exact (k6 js js1).1
    have hUe : U (6 * p k + x) = true := by
      rw [k3, (ed6 (s := p k) (show x < 6 by omega)).1, (ed6 (s := p k) (show x < 6 by omega)).2]
      refine ⟨hxK, ⟨js, js1, js2⟩, fun i hi he => ?_⟩
      have : i = k := by
        rcases Nat.lt_trichotomy i k with w | w | w
        · exact absurd he (k2 i k w hk)
        · exact w
        · exact absurd he.symm (k2 k i w hi)
      omega
    have hU' := KQ_U (U := U) (q := q) (R := R) hK hk hxK k2 k3
    have hcn : ∀ t, cn (edB S T t U) (6 * N) = cn (edB S T t (fun e => !decide (e = 6 * p k + x) && U e)) (6 * N) + hit S T t (6 * p k + x) := fun t => ed_new (e0 := 6 * p k + x) (by omega) (by rw [decide_eq_true rfl]; rfl) hUe (fun e he => by rw [decide_eq_false he]; rfl)
    rw [f_X5_longestFrom_l93.eq_2, if_neg (nI_ge (by omega) (by omega)), hl _ s1 x hxK, Option.bind_some, bdn _ (show p k < 720 by omega) (by omega), nI_cl (by omega), hst, show nI (l (p k)) + (1 : Int32) = nI (l (p k) + 1) from nI_1 _, show nI x + (1 : Int32) = nI (x + 1) from nI_1 x]
    cases hs : S (p k) x with
    | false =>
      have e : f_X5_goThrough (-1) (nI (l (p k) + 1)) (nI P) qu st wi = some (nI P, qu, st, wi) := by
        unfold f_X5_goThrough
        exact if_pos (by decide)
      have hno : ∀ t, cn (edB S T t (fun e => !decide (e = 6 * p k + x) && U e)) (6 * N) = cn (edB S T t U) (6 * N) := fun t => by
        rw [hcn t, hit_no (by omega) (fun h => by rw [hs] at h; exact absurd h (by decide))]; rfl
      show ∃ P' p' qu' st' wi' U' l', Option.bind (f_X5_goThrough (-1) (nI (l (p k) + 1)) (nI P) qu st wi) _ = _ ∧ _
      rw [e, Option.bind_some]
      refine ih (x + 1) f P p qu st wi (fun e => !decide (e = 6 * p k + x) && U e) l (by omega) (by omega) ⟨fun i hi => ?_, k2, hU', fun t ht => ?_, fun j hj h => ?_, k6, fun j y hj hy hsy hUf => ?_⟩ hk rfl hls
      · obtain ⟨a1, a2, a3, a4⟩ := k1 i hi
        exact ⟨a1, a2, a3, by rw [hno]; exact a4⟩
      · rw [hno]; exact k4 t ht
      · rw [hno] at h; exact k5 j hj h
      · by_cases c : 6 * q j + y = 6 * p k + x
        · obtain ⟨c1, rfl⟩ : q j = p k ∧ y = x := by omega
          rw [c1, hs] at hsy; exact absurd hsy (by decide)
        · have hUg : (!decide (6 * q j + y = 6 * p k + x) && U (6 * q j + y)) = false := hUf
          rw [decide_eq_false c] at hUg
          exact k7 j y hj hy hsy hUg
    | true =>
      have ht := hT _ s1 x hxK
      generalize hte : T (p k) x = t at ht
      have hcnt := hcn t
      rw [hit_yes (by omega) hs hte] at hcnt
      have htp : ∀ i, i < P → p i ≠ t := fun i hi c => by
        have := (k1 i hi).2.2.2
        rw [c] at this; omega
      have hno : ∀ t', t' ≠ t → cn (edB S T t' (fun e => !decide (e = 6 * p k + x) && U e)) (6 * N) = cn (edB S T t' U) (6 * N) := fun t' h' => by
        rw [hcn t', hit_no (by omega) (fun _ h => h' (h.symm.trans hte))]; rfl
      obtain ⟨jt, jt1, jt2⟩ : ∃ i, i < R ∧ q i = t := by
        obtain ⟨i, i1, i2⟩ := hcl js x js1 hxK (by rw [js2]; exact hs)
        rw [js2, hte] at i2
        exact ⟨i, i1, i2⟩
      obtain ⟨t1, t2, t3⟩ := k6 jt jt1
      rw [jt2] at t1 t2 t3
      have hws : Wy K S T a (l (p k) + 1) t := by
        have := (k6 js js1).2.1
        rw [js2] at this
        exact ⟨p k, this, x, hxK, hs, hte⟩
      have hpk : p k ≠ t := htp k hk
      -- the new lengths
      have hl' : ∃ l' : Nat → Nat, (if st t < nI (l (p k) + 1) then nI (l (p k) + 1) else st t) = nI (l' t) ∧ Wy K S T a (l' t) t ∧ l' t ≤ R + k + 1 ∧ l t ≤ l' t ∧ l (p k) + 1 ≤ l' t ∧ ∀ b, b ≠ t → l' b = l b := by
        rw [t1]
        by_cases c : l t < l (p k) + 1
        · refine ⟨fun b => if b = t then l (p k) + 1 else l b, ?_, ?_, ?_, ?_, ?_, fun b hb => if_neg hb⟩
          · rw [if_pos (nI_lt c (by omega))]; simp only [if_true]
          · simp only [if_true]; exact hws
          · simp only [if_true]; omega
          · simp only [if_true]; omega
          · simp only [if_true]; omega
        · refine ⟨l, ?_, t2, t3, Nat.le_refl _, by omega, fun _ _ => rfl⟩
          rw [if_neg (nI_nlt (by omega) (by omega))]
      obtain ⟨l', m1, m2, m3, m4, m5, m6⟩ := hl'
      have hk6 : ∀ j, j < R → upd st t (nI (l' t)) (q j) = nI (l' (q j)) ∧ Wy K S T a (l' (q j)) (q j) ∧ l' (q j) ≤ R + k + 1 := fun j hj => by
        by_cases c : q j = t
        · rw [c, pk_us]; exact ⟨rfl, m2, m3⟩
        · rw [pk_un c, m6 _ c]; exact k6 j hj
      have hk7 : ∀ j y, j < R → y < K → S (q j) y = true → (!decide (6 * q j + y = 6 * p k + x) && U (6 * q j + y)) = false → l' (q j) + 1 ≤ l' (T (q j) y) := fun j y hj hy hsy hUf => by
        have hle : ∀ b, l b ≤ l' b := fun b => by
          by_cases c : b = t
          · rw [c]; exact m4
          · rw [m6 b c]; exact Nat.le_refl _
        by_cases c : 6 * q j + y = 6 * p k + x
        · obtain ⟨c1, rfl⟩ : q j = p k ∧ y = x := by omega
          rw [c1, hte, m6 _ hpk]; exact m5
        · rw [decide_eq_false c] at hUf
          have hUf' : U (6 * q j + y) = false := hUf
          have h7 := k7 j y hj hy hsy hUf'
          have hne : q j ≠ t := fun e => by
            have h3 := k3 (6 * q j + y)
            rw [(ed6 (s := q j) (show y < 6 by omega)).1, (ed6 (s := q j) (show y < 6 by omega)).2] at h3
            have : U (6 * q j + y) = true := h3.mpr ⟨hy, ⟨j, hj, rfl⟩, fun i hi hpi => absurd (hpi.trans e) (htp i hi)⟩
            rw [hUf'] at this; exact absurd this (by decide)
          rw [m6 _ hne]
          have := hle (T (q j) y)
          omega
      have hwt : wi t - 1 = nI (cn (edB S T t (fun e => !decide (e = 6 * p k + x) && U e)) (6 * N)) := by
        rw [k4 t ht, hcnt, nI_s1 (by omega), Nat.add_sub_cancel]
      have hk4 : ∀ b, b < N → upd wi t (wi t - 1) b = nI (cn (edB S T b (fun e => !decide (e = 6 * p k + x) && U e)) (6 * N)) := fun b hb => by
        by_cases c : b = t
        · subst c; rw [pk_us]; exact hwt
        · rw [pk_un c, hno b c]; exact k4 b hb
      have hbig := cn_le (edB S T t (fun e => !decide (e = 6 * p k + x) && U e)) (6 * N)
      show ∃ P' p' qu' st' wi' U' l', Option.bind (f_X5_goThrough (nI t) (nI (l (p k) + 1)) (nI P) qu st wi) _ = _ ∧ _
      by_cases hc0 : cn (edB S T t (fun e => !decide (e = 6 * p k + x) && U e)) (6 * N) = 0
      · have hd' : ∀ i j, i < j → j < P + 1 → (if i = P then t else p i) ≠ (if j = P then t else p j) := fun i j hij hj => by
          rw [if_neg (show ¬ i = P by omega)]
          by_cases c : j = P
          · rw [if_pos c]; exact htp i (by omega)
          · rw [if_neg c]; exact k2 i j hij (by omega)
        have hP1 := pig N (P + 1) (fun i => if i = P then t else p i) (fun i hi => by
          by_cases c : i = P
          · simp only [c, if_true]; exact ht
          · simp only [c, if_false]; exact (k1 i (by omega)).1) hd'
        have e : f_X5_goThrough (nI t) (nI (l (p k) + 1)) (nI P) qu st wi = some (nI (P + 1), upd qu P (nI t), upd st t (nI (l' t)), upd wi t (wi t - 1)) := by
          unfold f_X5_goThrough
          rw [if_neg (nI_lt0 (by omega)), if_pos (show nI t < (720 : Int32) from nI_lt (b := 720) (by omega) (by omega)), bdn _ (show t < 720 by omega) (by omega), bdn _ (show t < 720 by omega) (by omega), bdn _ (show t < 720 by omega) (by omega), bdn _ (show t < 720 by omega) (by omega), bdn _ (show t < 720 by omega) (by omega), nI_cl (by omega), pk_us, if_pos (by rw [hwt, hc0]; rfl), if_neg (show ¬ (720 : Int32) ≤ nI P from nI_ge (b := 720) (by omega) (by omega)), bdn _ (show P < 720 by omega) (by omega), nI_cl (by omega), show nI P + (1 : Int32) = nI (P + 1) from nI_1 P, m1]
        rw [e, Option.bind_some]
        have hpe : ∀ i, i < P → (if i = P then t else p i) = p i := fun i hi => if_neg (by omega)
        have hqe : ∀ i, i < P → p i = p i := fun i _ => rfl
        obtain ⟨P2, p2, qu2, st2, wi2, U2, l2, z1, z2, z3, z4⟩ := ih (x + 1) f (P + 1) (fun i => if i = P then t else p i) (upd qu P (nI t)) (upd st t (nI (l' t))) (upd wi t (wi t - 1)) (fun e => !decide (e = 6 * p k + x) && U e) l' (by omega) (by omega) ⟨fun i hi => by
          by_cases c : i = P
          · subst c
            simp only [if_true]
            exact ⟨ht, pk_us, ⟨jt, jt1, jt2⟩, hc0⟩
          · obtain ⟨a1, a2, a3, a4⟩ := k1 i (by omega)
            simp only [c, if_false]
            exact ⟨a1, by rw [pk_un c, a2], a3, by rw [hno _ (htp i (by omega))]; exact a4⟩, hd', fun e => (hU' e).trans ⟨fun ⟨b1, b2, b3⟩ => ⟨b1, b2, fun i hi hpi => by
          by_cases c : i = P
          · omega
          · simp only [c, if_false] at hpi
            exact b3 i (by omega) hpi⟩, fun ⟨b1, b2, b3⟩ => ⟨b1, b2, fun i hi hpi => b3 i (by omega) (by simp only [hpe i hi]; exact hpi)⟩⟩, hk4, fun j hj h => by
          by_cases c : q j = t
          · exact ⟨P, by omega, by simp only [if_true]; exact c.symm⟩
          · rw [hno _ c] at h
            obtain ⟨i, i1, i2⟩ := k5 j hj h
            exact ⟨i, by omega, by simp only [hpe i i1]; exact i2⟩, hk6, hk7⟩ (by omega) (hpe k hk) (by rw [m6 _ hpk]; exact hls)
        refine ⟨P2, p2, qu2, st2, wi2, U2, l2, z1, z2, by omega, fun i hi => ?_⟩
        obtain ⟨w1, w2⟩ := z4 i (by omega)
        simp only [hpe i hi] at w1 w2
        exact ⟨w1, w2.trans (m6 _ (htp i hi))⟩
      · have e : f_X5_goThrough (nI t) (nI (l (p k) + 1)) (nI P) qu st wi = some (nI P, qu, upd st t (nI (l' t)), upd wi t (wi t - 1)) := by
          unfold f_X5_goThrough
          rw [if_neg (nI_lt0 (by omega)), if_pos (show nI t < (720 : Int32) from nI_lt (b := 720) (by omega) (by omega)), bdn _ (show t < 720 by omega) (by omega), bdn _ (show t < 720 by omega) (by omega), bdn _ (show t < 720 by omega) (by omega), bdn _ (show t < 720 by omega) (by omega), bdn _ (show t < 720 by omega) (by omega), nI_cl (by omega), pk_us, if_neg (by rw [hwt]; exact fun q => hc0 ((nI_eq0 (by omega)).mp q)), m1]
        rw [e, Option.bind_some]
        obtain ⟨P2, p2, qu2, st2, wi2, U2, l2, z1, z2, z3, z4⟩ := ih (x + 1) f P p qu (upd st t (nI (l' t))) (upd wi t (wi t - 1)) (fun e => !decide (e = 6 * p k + x) && U e) l' (by omega) (by omega) ⟨fun i hi => by
          obtain ⟨a1, a2, a3, a4⟩ := k1 i hi
          exact ⟨a1, a2, a3, by rw [hno _ (htp i hi)]; exact a4⟩, k2, hU', hk4, fun j hj h => by
          by_cases c : q j = t
          · rw [c] at h; exact absurd h hc0
          · rw [hno _ c] at h; exact k5 j hj h, hk6, hk7⟩ hk rfl (by rw [m6 _ hpk]; exact hls)
        exact ⟨P2, p2, qu2, st2, wi2, U2, l2, z1, z2, z3, fun i hi => ⟨(z4 i hi).1, (z4 i hi).2.trans (m6 _ (htp i hi))⟩⟩
end KA
