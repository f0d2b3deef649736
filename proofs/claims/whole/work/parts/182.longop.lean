/-! the class's answer -/
theorem wy_trans {K : Nat} {S : Nat → Nat → Bool} {T : Nat → Nat → Nat} {a b : Nat} {n : Nat} (h : Wy K S T a n b) : ∀ m c, Wy K S T b m c → Wy K S T a (n + m) c
  | 0, c, hc => by
    have hc' : b = c := hc
    subst hc'; exact h
  | m + 1, c, hc => by
    obtain ⟨e, h1, h2⟩ := hc
    exact ⟨e, wy_trans h m e h1, h2⟩
/-- as many as there are: all -/
theorem onto {P R : Nat} {p q : Nat → Nat} (hp : ∀ i, i < P → ∃ j, j < R ∧ q j = p i) (hd : ∀ i j, i < j → j < P → p i ≠ p j) : P ≤ R ∧ (P = R → ∀ j, j < R → ∃ i, i < P ∧ p i = q j) := by
  have h1 : ∀ i : Nat, ∃ j : Nat, i < P → (j < R ∧ q j = p i) := fun i => by
    by_cases c : i < P
    · obtain ⟨j, h⟩ := hp i c
      exact ⟨j, fun _ => h⟩
    · exact ⟨0, fun h => absurd h c⟩
  obtain ⟨f, hf⟩ := Classical.axiomOfChoice h1
  refine ⟨pig R P f (fun i hi => (hf i hi).1) (fun i j hij hj e => ?_), fun hPR j hj => ?_⟩
  · have a1 := (hf i (by omega)).2
    have a2 := (hf j hj).2
    rw [e] at a1
    exact hd i j hij hj (a1.symm.trans a2)
  · apply Classical.byContradiction
    intro hno
    have hno' : ∀ i, i < P → p i ≠ q j := fun i hi e => hno ⟨i, hi, e⟩
    have := pig R (P + 1) (fun i => if i = P then j else f i) (fun i hi => by
      by_cases c : i = P
      · simp only [c, if_true]; exact hj
      · simp only [c, if_false]; exact (hf i (by omega)).1) (fun i k hik hk e => by
      rw [if_neg (show ¬ i = P by omega)] at e
      by_cases c : k = P
      · rw [if_pos c] at e
        have a1 := (hf i (by omega)).2
        rw [e] at a1
        exact hno' i (by omega) a1.symm
      · rw [if_neg c] at e
        have a1 := (hf i (by omega)).2
        have a2 := (hf k (by omega)).2
        rw [e] at a1
        exact hd i k hik (by omega) (a1.symm.trans a2))
    omega
section KB
variable {N K : Nat} {S : Nat → Nat → Bool} {T : Nat → Nat → Nat} {pe sz : Int32} {rows edges : Nat → Int32}
theorem KQ_end {a R P : Nat} {q p : Nat → Nat} {qu st wi : Nat → Int32} {U : Nat → Bool} {l : Nat → Nat} {mx : Nat} (hK : K ≤ 6) (hin : ∀ m b, Wy K S T a m b → ∃ i, i < R ∧ q i = b) (hd : ∀ i j, i < j → j < R → q i ≠ q j) (h : KQ N K S T a R q P 0 P p qu st wi U l) (hmx : ∃ c, Wy K S T a mx c) (hall : ∀ i, i < P → l (p i) ≤ mx) : (P = R → LG K S T a mx) ∧ (P ≠ R → ∀ m, ∃ m' c, m ≤ m' ∧ Wy K S T a m' c) := by
  obtain ⟨k1, k2, k3, k4, k5, k6, k7⟩ := h
  obtain ⟨hPR, hon⟩ := onto (q := q) (R := R) (fun i hi => (k1 i hi).2.2.1) k2
  constructor
  · intro hP
    have honto := hon hP
    refine ⟨hmx, ?_⟩
    have hm : ∀ m c, Wy K S T a m c → m ≤ l c := by
      intro m
      induction m with
      | zero => intro c _; omega
      | succ m ih =>
        intro c ⟨e, e1, x, x1, x2, x3⟩
        obtain ⟨j, j1, j2⟩ := hin m e e1
        have := ih e e1
        subst j2
        have hU : U (6 * q j + x) = false := by
          cases c' : U (6 * q j + x) with
          | false => rfl
          | true =>
            obtain ⟨_, _, h3⟩ := (k3 _).mp c'
            obtain ⟨i, i1, i2⟩ := honto j j1
            have := h3 i i1 (by rw [(ed6 (show x < 6 by omega)).1]; exact i2)
            rw [(ed6 (show x < 6 by omega)).2] at this
            omega
        have := k7 j x j1 x1 x2 hU
        rw [x3] at this
        omega
    intro m c hw
    obtain ⟨j, j1, j2⟩ := hin m c hw
    obtain ⟨i, i1, i2⟩ := honto j j1
    have := hm m c hw
    have := hall i i1
    rw [i2, j2] at this
    omega
  · intro hP m
    have hu : ∃ j, j < R ∧ ∀ i, i < P → p i ≠ q j := by
      apply Classical.byContradiction
      intro hno
      have h2 := (onto (p := q) (q := p) (P := R) (R := P) (fun j hj => by
        apply Classical.byContradiction
        intro h'
        exact hno ⟨j, hj, fun i hi e => h' ⟨i, hi, e⟩⟩) hd).1
      omega
    have hback : ∀ m u, (∃ j, j < R ∧ q j = u) → (∀ i, i < P → p i ≠ u) → ∃ j, j < R ∧ Wy K S T (q j) m u := by
      intro m
      induction m with
      | zero =>
        intro u ⟨j, j1, j2⟩ _
        exact ⟨j, j1, j2⟩
      | succ m ih =>
        intro u ⟨j, j1, j2⟩ hno
        have hne : ∃ e, edB S T (q j) U e = true := by
          apply Classical.byContradiction
          intro h'
          obtain ⟨i, i1, i2⟩ := k5 j j1 (cn_zero' (fun i hi => by
            cases c : edB S T (q j) U i with
            | false => rfl
            | true => exact absurd ⟨i, c⟩ h'))
          exact hno i i1 (i2.trans j2)
        obtain ⟨e, he⟩ := hne
        unfold edB at he
        rw [Bool.and_eq_true, Bool.and_eq_true, decide_eq_true_iff] at he
        obtain ⟨e1, e2, e3⟩ := he
        obtain ⟨u1, u2, u3⟩ := (k3 e).mp e1
        obtain ⟨j', j1', w⟩ := ih (e / 6) u2 (fun i hi c => by
          have := u3 i hi c
          omega)
        exact ⟨j', j1', e / 6, w, e % 6, u1, e2, e3.trans j2⟩
    obtain ⟨j, j1, j2⟩ := hu
    obtain ⟨j', j1', w⟩ := hback m (q j) ⟨j, j1, rfl⟩ j2
    exact ⟨_, _, Nat.le_add_left _ _, wy_trans (k6 j' j1').2.1 m _ w⟩
theorem E_ka50 (hN : N ≤ 720) (hK : K ≤ 6) (hT : ∀ a, a < N → ∀ x, x < K → T a x < N) (hl : ∀ a, a < N → ∀ x, x < K → f_X1_leadsTo (nI a) (nI x) (-1) pe sz (nI K) rows edges = some (if S a x then nI (T a x) else -1)) {a R : Nat} {q : Nat → Nat} {fi : Nat → Int32} (hR : R ≤ N) (hq : ∀ j, j < R → q j < N) (hcl : ∀ j y, j < R → y < K → S (q j) y = true → ∃ i, i < R ∧ q i = T (q j) y) (hin : ∀ m b, Wy K S T a m b → ∃ i, i < R ∧ q i = b) (hd : ∀ i j, i < j → j < R → q i ≠ q j) : ∀ (j k f P : Nat) (p : Nat → Nat) (qu st wi : Nat → Int32) (U : Nat → Bool) (l : Nat → Nat) (mx : Nat), k + j = 721 → j < f → KQ N K S T a R q k 0 P p qu st wi U l → k ≤ P → (∀ j, j < R → l (q j) ≤ R + k) → mx ≤ R + k → (∃ c, Wy K S T a mx c) → (∀ i, i < k → l (p i) ≤ mx) → ∃ r P' qu' st' wi', f_X5_longestFrom_l50 pe sz (nI K) rows edges f (nI R) (nI mx) (nI k) (nI P) qu st fi wi = some (r, nI P', qu', st', fi, wi') ∧ ((∃ m, m ≤ 2000 ∧ LG K S T a m ∧ r = nI m) ∨ (r = -1 ∧ ∀ m, ∃ m' c, m ≤ m' ∧ Wy K S T a m' c)) := by
  have h0 := NF_big
  intro j
  induction j with
  | zero =>
    intro k f P p qu st wi U l mx hk hf hQ hkP
    have := pig N P p (fun i hi => (hQ.1 i hi).1) hQ.2.1
    omega
  | succ j ih =>
    intro k f P p qu st wi U l mx hk hf hQ hkP hlb hmx hwx hall
    have hPN := pig N P p (fun i hi => (hQ.1 i hi).1) hQ.2.1
    obtain ⟨f, rfl⟩ : ∃ q, f = q + 1 := ⟨f - 1, by omega⟩
    rw [f_X5_longestFrom_l50.eq_2]
    by_cases hc : k = P
    · subst hc
      rw [if_pos (nI_le (Nat.le_refl _) (by omega))]
      unfold f_X5_longestFrom_b136
      obtain ⟨g1, g2⟩ := KQ_end hK hin hd hQ hwx hall
      by_cases hPR : k = R
      · rw [if_pos (by rw [hPR])]
        exact ⟨_, _, _, _, _, rfl, Or.inl ⟨mx, by omega, g1 hPR, rfl⟩⟩
      · rw [if_neg (fun e => hPR ((nI_eq (by omega) (by omega)).mp e))]
        exact ⟨_, _, _, _, _, rfl, Or.inr ⟨rfl, g2 hPR⟩⟩
    · have hkP' : k < P := by omega
      obtain ⟨a1, a2, ⟨js, js1, js2⟩, a4⟩ := hQ.1 k hkP'
      have hst : st (p k) = nI (l (p k)) := by rw [← js2]; exact (hQ.2.2.2.2.2.1 js js1).1
      have hlk : l (p k) ≤ R + k := by rw [← js2]; exact hlb js js1
      have hwk : Wy K S T a (l (p k)) (p k) := by rw [← js2]; exact (hQ.2.2.2.2.2.1 js js1).2.1
      rw [if_neg (nI_ge hkP' (by omega)), if_neg (show ¬ (720 : Int32) ≤ nI k from nI_ge (b := 720) (by omega) (by omega)), bdn _ (show k < 720 by omega) (by omega), nI_cl (by omega), a2, bdn _ (show p k < 720 by omega) (by omega), nI_cl (by omega), hst]
      have hmo : ∃ mx', (if nI mx < nI (l (p k)) then nI (l (p k)) else nI mx) = nI mx' ∧ mx ≤ mx' ∧ l (p k) ≤ mx' ∧ mx' ≤ R + k ∧ ∃ c, Wy K S T a mx' c := by
        by_cases c : mx < l (p k)
        · exact ⟨l (p k), if_pos (nI_lt c (by omega)), by omega, Nat.le_refl _, hlk, _, hwk⟩
        · exact ⟨mx, if_neg (nI_nlt (by omega) (by omega)), Nat.le_refl _, by omega, hmx, hwx⟩
      obtain ⟨mx', e0, m1, m2, m3, m4⟩ := hmo
      rw [e0]
      obtain ⟨P1, p1, qu1, st1, wi1, U1, l1, e1, hQ1, hP1, hsame⟩ := E_ka93 (x3 := nI R) (x4 := nI mx') (fi := fi) hN hK hT hl hR hq hcl (show k ≤ 720 by omega) (f_X5_longestFrom_l50 pe sz (nI K) rows edges f) K 0 NF P p qu st wi U l (by omega) (by omega) hQ hkP' rfl hlk
      obtain ⟨b1, b2, b3, b4, b5, b6, b7⟩ := hQ1
      obtain ⟨r, P2, qu2, st2, wi2, e2, hr⟩ := ih (k + 1) f P1 p1 qu1 st1 wi1 U1 l1 mx' (by omega) (by omega) ⟨b1, b2, fun e => (b3 e).trans ⟨fun ⟨c1, c2, c3⟩ => ⟨c1, c2, fun i hi hpi => by have := c3 i hi hpi; omega⟩, fun ⟨c1, c2, c3⟩ => ⟨c1, c2, fun i hi hpi => by have := c3 i hi hpi; omega⟩⟩, b4, b5, fun j hj => by
        obtain ⟨c1, c2, c3⟩ := b6 j hj
        exact ⟨c1, c2, by omega⟩, b7⟩ (by omega) (fun j hj => by have := (b6 j hj).2.2; omega) (by omega) m4 (fun i hi => by
        obtain ⟨d1, d2⟩ := hsame i (by omega)
        rw [d1, d2]
        by_cases c : i = k
        · subst c; exact m2
        · have := hall i (by omega)
          omega)
      exact ⟨r, P2, qu2, st2, wi2, e1.trans e2, hr⟩
theorem E_longestFrom (hN : N ≤ 720) (hK : K ≤ 6) (hT : ∀ a, a < N → ∀ x, x < K → T a x < N) (hl : ∀ a, a < N → ∀ x, x < K → f_X1_leadsTo (nI a) (nI x) (-1) pe sz (nI K) rows edges = some (if S a x then nI (T a x) else -1)) {a : Nat} (ha : a < N) (r0 : Int32) (qu st fi wi : Nat → Int32) : ∃ r R' qu' st' fi' wi', f_X5_longestFrom (nI a) r0 qu st fi wi pe sz (nI K) rows edges = some (r, R', qu', st', fi', wi') ∧ ((∃ m, m ≤ 2000 ∧ LG K S T a m ∧ r = nI m) ∨ (r = -1 ∧ ∀ m, ∃ m' c, m ≤ m' ∧ Wy K S T a m' c)) := by
  have h0 := NF_big
  obtain ⟨R, qu1, st1, fi1, q, d, g, hsp, hF⟩ := E_spread hN hK hT hl ha r0 qu st fi
  obtain ⟨hRN, hq⟩ := SF_q hF
  have hin := SF_in hF
  obtain ⟨s1, s2, s3, s4, s5, s6, s7, s8, s9⟩ := hF.1
  obtain ⟨wi1, f1, f2⟩ := E_fill 0 (n := 720) (by omega) wi
  obtain ⟨wi2, c1, U, u1, u2⟩ := E_cw10 hN hK hT hl hRN hq s7 R 0 NF wi1 (by omega) (by omega) ⟨fun _ => false, fun e => ⟨fun h => absurd (show false = true from h) (by decide), fun ⟨j, y, j1, y1, z1, _⟩ => absurd z1 (by omega)⟩, fun t ht => by
    rw [f2 t (by omega), show cn (edB S T t fun _ => false) (6 * N) = 0 from cn_zero' (fun i hi => rfl)]; rfl⟩
  have hcl : ∀ j y, j < R → y < K → S (q j) y = true → ∃ i, i < R ∧ q i = T (q j) y := fun j y hj hy hs => by
    obtain ⟨i, i1, i2, _⟩ := hF.2.2 j y hj hy (by omega) hs
    exact ⟨i, i1, i2⟩
  have hU : ∀ e, U e = true ↔ (e % 6 < K ∧ ∃ j, j < R ∧ q j = e / 6) := fun e => (u1 e).trans ⟨fun ⟨j, y, j1, y1, z1, e1⟩ => by
    subst e1
    rw [(ed6 (show y < 6 by omega)).1, (ed6 (show y < 6 by omega)).2]
    exact ⟨y1, j, j1, rfl⟩, fun ⟨h1, j, j1, j2⟩ => ⟨j, e % 6, j1, h1, by omega, by omega⟩⟩
  have hpos : ∀ j, j < R → 0 < j → cn (edB S T (q j) U) (6 * N) ≠ 0 := fun j hj hj0 hz => by
    obtain ⟨w1, w2⟩ := SF_wy hF hj
    obtain ⟨n, hn⟩ : ∃ n, d (q j) = n + 1 := ⟨d (q j) - 1, by have := w2 hj0; omega⟩
    rw [hn] at w1
    obtain ⟨c, hc, x, x1, x2, x3⟩ := w1
    obtain ⟨i, i1, i2⟩ := hin n c hc
    have hcN := (hq i i1).1
    rw [i2] at hcN
    have hz' := cn_zero hz (6 * c + x) (by omega)
    unfold edB at hz'
    rw [(hU (6 * c + x)).mpr (by rw [(ed6 (show x < 6 by omega)).1, (ed6 (show x < 6 by omega)).2]; exact ⟨x1, i, i1, i2⟩), (ed6 (show x < 6 by omega)).1, (ed6 (show x < 6 by omega)).2, x2, decide_eq_true x3] at hz'
    exact absurd hz' (by decide)
  have hKQ : ∀ P, (P = 0 ∧ cn (edB S T a U) (6 * N) ≠ 0 ∨ P = 1 ∧ cn (edB S T a U) (6 * N) = 0) → KQ N K S T a R q 0 0 P (fun _ => a) qu1 st1 wi2 U d := fun P hP => by
    refine ⟨fun i hi => ?_, fun i j hij hj => absurd hj (by omega), fun e => (hU e).trans ⟨fun ⟨h1, h2⟩ => ⟨h1, h2, fun i hi _ => by omega⟩, fun ⟨h1, h2, _⟩ => ⟨h1, h2⟩⟩, u2, fun j hj hz => ?_, fun j hj => ?_, fun j y hj hy hs hUf => ?_⟩
    · obtain rfl : i = 0 := by omega
      have hq0 := (hq 0 s1).2
      rw [s2] at hq0
      exact ⟨ha, hq0, ⟨0, s1, s2⟩, show cn (edB S T a U) (6 * N) = 0 by omega⟩
    · by_cases c : j = 0
      · subst c
        rw [s2] at hz
        exact ⟨0, by omega, s2.symm⟩
      · exact absurd hz (hpos j hj (by omega))
    · obtain ⟨b1, b2, b3, b4, b5, b6⟩ := s5 j hj
      exact ⟨b3, (SF_wy hF hj).1, by omega⟩
    · have : U (6 * q j + y) = true := (hU _).mpr (by rw [(ed6 (show y < 6 by omega)).1, (ed6 (show y < 6 by omega)).2]; exact ⟨hy, j, hj, rfl⟩)
      rw [hUf] at this
      exact absurd this (by decide)
  have hfin : ∀ P, (P = 0 ∧ cn (edB S T a U) (6 * N) ≠ 0 ∨ P = 1 ∧ cn (edB S T a U) (6 * N) = 0) → ∃ r R' qu' st' fi' wi', f_X5_longestFrom_l50 pe sz (nI K) rows edges NF (nI R) (nI 0) (nI 0) (nI P) qu1 st1 fi1 wi2 = some (r, R', qu', st', fi', wi') ∧ ((∃ m, m ≤ 2000 ∧ LG K S T a m ∧ r = nI m) ∨ (r = -1 ∧ ∀ m, ∃ m' c, m ≤ m' ∧ Wy K S T a m' c)) := fun P hP => by
    obtain ⟨r, P', qu', st', wi', e, hr⟩ := E_ka50 (fi := fi1) hN hK hT hl hRN (fun j hj => (hq j hj).1) hcl hin s7 721 0 NF P (fun _ => a) qu1 st1 wi2 U d 0 (by omega) (by omega) (hKQ P hP) (by omega) (fun j hj => by have := (s5 j hj).2.2.2.2.1; omega) (by omega) ⟨a, rfl⟩ (fun i hi => absurd hi (by omega))
    exact ⟨r, _, qu', st', fi1, wi', e, hr⟩
  have hcw : f_X5_countWaysIn (nI R) qu1 wi pe sz (nI K) rows edges = some wi2 := by
    unfold f_X5_countWaysIn
    rw [f1, Option.bind_some]
    exact c1
  unfold f_X5_longestFrom f_X5_longestFrom_b43 f_X5_longestFrom_b44
  rw [hsp, Option.bind_some]
  show ∃ r R' qu' st' fi' wi', Option.bind (f_X5_countWaysIn (nI R) qu1 wi pe sz (nI K) rows edges) _ = _ ∧ _
  rw [hcw, Option.bind_some]
  have hq0 := (hq 0 s1).2
  rw [s2] at hq0
  show ∃ r R' qu' st' fi' wi', (if nI R ≤ 0 then _ else bd (nI 0) 720 (bd (qu1 (0 : Int32).toNatClampNeg) 720 (if wi2 (qu1 (0 : Int32).toNatClampNeg).toNatClampNeg = 0 then f_X5_longestFrom_l50 pe sz (nI K) rows edges NF (nI R) (nI 0) (nI 0) (nI 1) qu1 st1 fi1 wi2 else f_X5_longestFrom_l50 pe sz (nI K) rows edges NF (nI R) (nI 0) (nI 0) (nI 0) qu1 st1 fi1 wi2))) = _ ∧ _
  have hcb := cn_le (edB S T a U) (6 * N)
  rw [if_neg (fun e => by have := (nI_le0 (by omega)).mp e; omega), bdn _ (show 0 < 720 by omega) (by omega), c0, hq0, bdn _ (show a < 720 by omega) (by omega), nI_cl (by omega), u2 a ha]
  by_cases hz : cn (edB S T a U) (6 * N) = 0
  · rw [if_pos (by rw [hz]; rfl)]
    exact hfin 1 (Or.inr ⟨rfl, hz⟩)
  · rw [if_neg (fun e => hz ((nI_eq0 (by omega)).mp e))]
    exact hfin 0 (Or.inl ⟨rfl, hz⟩)
end KB
theorem op_longest : ∀ (X : ZX9) (Y : ZX10), Inv X Y → ∃ (r : Int32) (X1 : ZX9) (Y1 : ZX10), xo_longest  X = some (r, X1) ∧ yo_longest  Y = some (r, Y1) ∧ Inv X1 Y1 := by
  intro X Y hI
  obtain ⟨⟨tby, tle, tnu⟩, ⟨pe, ri, hto, bp, sc, kd, lk⟩, dr, row, ⟨ton, tos⟩, ⟨don, dos⟩, ⟨ken, kes⟩, ⟨sw, sf, st, sy, ss⟩, gr, gd, se, ev, wa⟩ := X
  obtain ⟨yle, ytx, ymn, ybs, yst, ykd, ylk, yri, yli, ywh, ykm, yun, yum, yrm, yrw, ysm, yso, ysf, ysg, ysy, ypl, yto, yam, yal, ynu, ytr, ywe, ywt, ylo, yre, ywa, ynx⟩ := Y
  obtain ⟨D, a, hI⟩ := hI
  have hI0 : InvC D a tby tle pe ri bp sc kd lk row ton tos don dos ken kes sw sf st sy ss gr gd yle ytx ymn ybs yst ykd ylk yri ywh ykm yun yum yrm yrw ysm yso ysf ysg ysy yam yal ynu := hI
  obtain ⟨ok, ha, hT, hpe, hri, hHX, hHY, hTB, hrow, hwh, hR, hU, hK, hS, hG⟩ := id hI0
  have h2 := ok.1
  have h6 := ok.2.1
  have hg := ok.2.2.1
  subst hpe hri hrow
  have h0 := NF_big
  have hN := NN_le D.1
  obtain ⟨rows, edges, hd, hG0⟩ := E_drawGraph ok hHX hG
  obtain ⟨tr', we', hwb, hW⟩ := E_layWeb ok hHY hTB ytr ywe
  obtain ⟨r, R', qu', st', fi', wi', hlf, hr⟩ := E_longestFrom hN (kk6 ok) (chg_in ok) (ld_B ok hG0) ha se.2.2.2.2 se.1 se.2.1 se.2.2.1 se.2.2.2.1
  have hc := E_countY hHY.1 hHY.2.1 h2 h6 hg
  have hnow := E_now hTB hHY.1 h6 ha hwh
  obtain ⟨rc, hlr, hF⟩ := E_layReached hN (kk6 ok) (chg_in ok) hc hW ha yre
  obtain ⟨r', lo', hlo, hr'⟩ := E_lo14 (bs := ybs) (st := yst) (kd := ykd) (lk := ylk) (all := yal) (tr := tr') hN (kk6 ok) (chg_in ok) hc hW ha hnow hF (NN D.1) 0 NF ylo (by omega) (by omega) (fun b hb => absurd hb (by omega))
  have hY : f_X10_longest yam ymn ybs yst ykd ylk yri ywh yal ynu ytr ywe ylo yre = some (r', tr', we', lo', rc) := by
    unfold f_X10_longest
    rw [hwb, Option.bind_some, hnow, Option.bind_some, hTB.1]
    show Option.bind (f_X10_layReached (nI a) (nI (NN D.1)) ymn yri we' yre) _ = _
    rw [hlr, Option.bind_some]
    exact hlo
  have hX : f_X9_longest (nI (rw_ D.1 a)) gd (nI D.1) (nI D.2.1) bp sc kd lk gr.2.2.1 gr.2.2.2.1 gr.2.2.2.2.1 gr.2.2.2.2.2.1 gr.2.2.2.2.2.2 gr.1 gr.2.1 se.2.2.2.2 se.1 se.2.1 se.2.2.1 se.2.2.2.1 = some (r', (1 : Int32), nI D.1, nI (NN D.1), nI (kk D.1 D.2.1), nI (rests D 0 (NN D.1)), frest D 0 (NN D.1), rows, edges, R', qu', st', fi', wi') := by
    unfold f_X9_longest
    rw [hd, Option.bind_some]
    show Option.bind (f_X1_stateOf (nI (rw_ D.1 a)) (nI D.1) (nI (NN D.1))) _ = _
    rw [E_stateOf ha, Option.bind_some]
    show Option.bind (f_X5_longestFrom (nI a) se.2.2.2.2 se.1 se.2.1 se.2.2.1 se.2.2.2.1 (nI D.1) (nI (NN D.1)) (nI (kk D.1 D.2.1)) rows edges) _ = _
    rw [hlf, Option.bind_some]
    rcases hr with ⟨m, hm, hL, rfl⟩ | ⟨rfl, hinf⟩
    · rcases hr' with ⟨m', hL', rfl⟩ | ⟨rfl, hinf'⟩
      · rw [lg_uniq hL' hL]
        exact if_pos (nI_ge0 (by omega))
      · obtain ⟨c, hc'⟩ := hinf' (m + 1)
        exact absurd (hL.2 _ _ hc') (by omega)
    · rcases hr' with ⟨m', hL', rfl⟩ | ⟨rfl, hinf'⟩
      · obtain ⟨m2, c, h1, h2'⟩ := hinf (m' + 1)
        exact absurd (hL'.2 _ _ h2') (by omega)
      · exact if_neg (show ¬ (0 : Int32) ≤ -1 by decide)
  exact ⟨_, _, _, xo_of hX rfl, xo_of hY rfl, D, a, ok, ha, hT, rfl, rfl, hHX, hHY, hTB, rfl, hwh, hR, hU, hK, hS, Or.inr ⟨rfl, rfl, rfl, rfl, hG0.1, hG0.2, rfl, rfl⟩⟩
