/-! evenings by chance: how many ways there are -/
def bump (f : Nat → Nat) (d v : Nat) : Nat → Nat := fun b => if b = d then f b + v else f b
def dst (S : Nat → Nat → Bool) (T : Nat → Nat → Nat) (s x : Nat) : Nat := if S s x then T s x else s
def ax (S : Nat → Nat → Bool) (T : Nat → Nat → Nat) (w : Nat → Nat) (s : Nat) (acc : Nat → Nat) : Nat → (Nat → Nat)
  | 0 => acc
  | x + 1 => bump (ax S T w s acc x) (dst S T s x) (w s)
def asx (K : Nat) (S : Nat → Nat → Bool) (T : Nat → Nat → Nat) (w : Nat → Nat) : Nat → (Nat → Nat)
  | 0 => fun _ => 0
  | s + 1 => ax S T w s (asx K S T w s) K
def wt (N K : Nat) (S : Nat → Nat → Bool) (T : Nat → Nat → Nat) (a : Nat) : Nat → (Nat → Nat)
  | 0 => fun b => if b = a then 1 else 0
  | t + 1 => asx K S T (wt N K S T a t) N
def SN (f : Nat → Nat) : Nat → Nat
  | 0 => 0
  | n + 1 => SN f n + f n
theorem SN_cong {f g : Nat → Nat} : ∀ {n : Nat}, (∀ k, k < n → f k = g k) → SN f n = SN g n
  | 0, _ => rfl
  | n + 1, h => by rw [SN, SN, SN_cong (fun k hk => h k (by omega)), h n (by omega)]
theorem SN_le (f : Nat → Nat) : ∀ (n b : Nat), b < n → f b ≤ SN f n
  | 0, b, h => absurd h (by omega)
  | n + 1, b, h => by
    rw [SN]
    by_cases c : b = n
    · subst c; omega
    · have := SN_le f n b (by omega)
      omega
theorem SN_bump (f : Nat → Nat) {d v : Nat} : ∀ {n : Nat}, d < n → SN (bump f d v) n = SN f n + v
  | 0, h => absurd h (by omega)
  | n + 1, h => by
    rw [SN, SN]
    by_cases c : d = n
    · subst c
      rw [SN_cong (f := bump f d v) (g := f) (fun k hk => if_neg (by omega)), show bump f d v d = f d + v from if_pos rfl]
      omega
    · rw [SN_bump f (show d < n by omega), show bump f d v n = f n from if_neg (fun e => c e.symm)]
      omega
theorem SN_zero : ∀ n, SN (fun _ => 0) n = 0
  | 0 => rfl
  | n + 1 => by rw [SN, SN_zero n]
theorem SN_one {a : Nat} : ∀ {n : Nat}, a < n → SN (fun b => if b = a then 1 else 0) n = 1
  | 0, h => absurd h (by omega)
  | n + 1, h => by
    rw [SN]
    by_cases c : a = n
    · subst c
      rw [SN_cong (g := fun _ => 0) (fun k hk => if_neg (by omega)), SN_zero, if_pos rfl]
    · rw [SN_one (show a < n by omega), if_neg (fun e => c e.symm)]
section MS
variable {N K : Nat} {S : Nat → Nat → Bool} {T : Nat → Nat → Nat}
theorem dst_lt (hT : ∀ a, a < N → ∀ x, x < K → T a x < N) {s x : Nat} (hs : s < N) (hx : x < K) : dst S T s x < N := by
  unfold dst
  split
  · exact hT s hs x hx
  · exact hs
theorem SN_ax (hT : ∀ a, a < N → ∀ x, x < K → T a x < N) {w acc : Nat → Nat} {s : Nat} (hs : s < N) : ∀ x, x ≤ K → SN (ax S T w s acc x) N = SN acc N + x * w s
  | 0, _ => by rw [ax, Nat.zero_mul]; rfl
  | x + 1, h => by
    rw [ax, SN_bump _ (dst_lt hT hs (show x < K by omega)), SN_ax hT hs x (by omega), Nat.succ_mul]
    omega
theorem SN_asx (hT : ∀ a, a < N → ∀ x, x < K → T a x < N) {w : Nat → Nat} : ∀ s, s ≤ N → SN (asx K S T w s) N = K * SN w s
  | 0, _ => by rw [asx, SN_zero]; rfl
  | s + 1, h => by
    rw [asx, SN_ax hT (show s < N by omega) K (Nat.le_refl _), SN_asx hT s (by omega), SN, Nat.mul_add]
theorem SN_wt (hT : ∀ a, a < N → ∀ x, x < K → T a x < N) {a : Nat} (ha : a < N) : ∀ t, SN (wt N K S T a t) N = K ^ t
  | 0 => by rw [wt, SN_one ha]; rfl
  | t + 1 => by rw [wt, SN_asx hT N (Nat.le_refl _), SN_wt hT ha t, Nat.pow_succ, Nat.mul_comm]
theorem pw_le (hK : K ≤ 6) {t : Nat} (ht : t ≤ 6) : K ^ t ≤ 46656 := by
  have h1 : K ^ t ≤ 6 ^ t := Nat.pow_le_pow_left hK t
  have h2 : 6 ^ t ≤ 6 ^ 6 := Nat.pow_le_pow_right (by omega) ht
  have h3 : 6 ^ 6 = 46656 := by decide
  omega
theorem wt_le (hK : K ≤ 6) (hT : ∀ a, a < N → ∀ x, x < K → T a x < N) {a : Nat} (ha : a < N) {t : Nat} (ht : t ≤ 6) {b : Nat} (hb : b < N) : wt N K S T a t b ≤ 46656 := by
  have h1 := SN_le (wt N K S T a t) N b hb
  rw [SN_wt hT ha t] at h1
  have := pw_le hK ht
  omega
theorem ax_zero {w acc : Nat → Nat} {s : Nat} (h : w s = 0) : ∀ x, ax S T w s acc x = acc
  | 0 => rfl
  | x + 1 => by
    rw [ax, ax_zero h x, h]
    funext b
    unfold bump
    split <;> rfl
end MS
section MC
variable {N K : Nat} {S : Nat → Nat → Bool} {T : Nat → Nat → Nat} {pe : Int32} {rows edges : Nat → Int32}
theorem E_p20 (hN : N ≤ 720) (hK : K ≤ 6) (hT : ∀ a, a < N → ∀ x, x < K → T a x < N) (hl : ∀ a, a < N → ∀ x, x < K → f_X1_leadsTo (nI a) (nI x) (-1) pe (nI N) (nI K) rows edges = some (if S a x then nI (T a x) else -1)) {w acc : Nat → Nat} {s : Nat} {now : Nat → Int32} (hs : s < N) (hw : now s = nI (w s)) (hwb : w s ≤ 100000) (K10 : Int32 → (Nat → Int32) → (Nat → Int32) → Option ((Nat → Int32) × (Nat → Int32))) : ∀ (j x f : Nat) (th : Nat → Int32), x + j = K → j < f → (∀ b, b < N → th b = nI (ax S T w s acc x b)) → ∃ th', f_X0_passOne_l20 pe (nI N) (nI K) rows edges K10 f (nI s) (nI x) now th = K10 (nI (s + 1)) now th' ∧ ∀ b, b < N → th' b = nI (ax S T w s acc K b) := by
  intro j
  induction j with
  | zero =>
    intro x f th hx hf ht
    obtain ⟨f, rfl⟩ : ∃ q, f = q + 1 := ⟨f - 1, by omega⟩
    obtain rfl : x = K := by omega
    refine ⟨th, ?_, ht⟩
    rw [f_X0_passOne_l20.eq_2, if_pos (nI_le (Nat.le_refl _) (by omega))]
    unfold f_X0_passOne_b77
    rw [show nI s + (1 : Int32) = nI (s + 1) from nI_1 s]
  | succ j ih =>
    intro x f th hx hf ht
    obtain ⟨f, rfl⟩ : ∃ q, f = q + 1 := ⟨f - 1, by omega⟩
    have hxK : x < K := by omega
    rw [f_X0_passOne_l20.eq_2, if_neg (nI_ge (by omega) (by omega)), bdn _ (show s < 720 by omega) (by omega), nI_cl (by omega), hw]
    by_cases h0 : w s = 0
    · rw [if_pos ((nI_le0 (by omega)).mpr h0)]
      refine ⟨th, ?_, fun b hb => ?_⟩
      · unfold f_X0_passOne_b77
        rw [show nI s + (1 : Int32) = nI (s + 1) from nI_1 s]
      · rw [ht b hb, ax_zero h0, ax_zero h0]
    · rw [if_neg (fun e => h0 ((nI_le0 (by omega)).mp e)), hl s hs x hxK, Option.bind_some]
      have hd := dst_lt (S := S) hT hs hxK
      have hb61 : f_X0_passOne_b61 pe (nI N) (nI K) rows edges K10 (f_X0_passOne_l20 pe (nI N) (nI K) rows edges K10 f) (nI s) (nI x) (nI (dst S T s x)) now th = f_X0_passOne_l20 pe (nI N) (nI K) rows edges K10 f (nI s) (nI (x + 1)) now (upd th (dst S T s x) (nI (ax S T w s acc (x + 1) (dst S T s x)))) := by
        unfold f_X0_passOne_b61
        rw [bdn _ (show dst S T s x < 720 by omega) (by omega), bdn _ (show s < 720 by omega) (by omega), bdn _ (show dst S T s x < 720 by omega) (by omega), nI_cl (by omega), nI_cl (by omega), hw, ht _ hd, nI_add, show nI x + (1 : Int32) = nI (x + 1) from nI_1 x, ax, show bump (ax S T w s acc x) (dst S T s x) (w s) (dst S T s x) = ax S T w s acc x (dst S T s x) + w s from if_pos rfl]
      have hgo : ∃ th', f_X0_passOne_b61 pe (nI N) (nI K) rows edges K10 (f_X0_passOne_l20 pe (nI N) (nI K) rows edges K10 f) (nI s) (nI x) (nI (dst S T s x)) now th = K10 (nI (s + 1)) now th' ∧ ∀ b, b < N → th' b = nI (ax S T w s acc K b) := by
        rw [hb61]
        refine ih (x + 1) f _ (by omega) (by omega) (fun b hb => ?_)
        by_cases c : b = dst S T s x
        · subst c; exact pk_us
        · rw [pk_un c, ht b hb, ax, show bump (ax S T w s acc x) (dst S T s x) (w s) b = ax S T w s acc x b from if_neg c]
      cases hsx : S s x with
      | false =>
        rw [show (if false = true then nI (T s x) else (-1 : Int32)) = -1 from rfl, if_pos (show (-1 : Int32) < 0 by decide)]
        rw [show dst S T s x = s from by unfold dst; rw [hsx]; rfl] at hgo
        exact hgo
      | true =>
        have hts := hT s hs x hxK
        rw [show (if true = true then nI (T s x) else (-1 : Int32)) = nI (T s x) from rfl, if_neg (nI_lt0 (by omega))]
        rw [show dst S T s x = T s x from by unfold dst; rw [hsx]; rfl] at hgo
        exact hgo
theorem E_p10 (hN : N ≤ 720) (hK : K ≤ 6) (hT : ∀ a, a < N → ∀ x, x < K → T a x < N) (hl : ∀ a, a < N → ∀ x, x < K → f_X1_leadsTo (nI a) (nI x) (-1) pe (nI N) (nI K) rows edges = some (if S a x then nI (T a x) else -1)) {w : Nat → Nat} {now : Nat → Int32} (hw : ∀ b, b < N → now b = nI (w b)) (hwb : ∀ b, b < N → w b ≤ 100000) : ∀ (j s f : Nat) (th : Nat → Int32), s + j = N → j < f → (∀ b, b < N → th b = nI (asx K S T w s b)) → ∃ th', f_X0_passOne_l10 pe (nI N) (nI K) rows edges f (nI s) now th = some (th', now) ∧ ∀ b, b < N → th' b = nI (asx K S T w N b) := by
  have h0 := NF_big
  intro j
  induction j with
  | zero =>
    intro s f th hs hf ht
    obtain ⟨f, rfl⟩ : ∃ q, f = q + 1 := ⟨f - 1, by omega⟩
    obtain rfl : s = N := by omega
    refine ⟨th, ?_, ht⟩
    rw [f_X0_passOne_l10.eq_2, if_pos (nI_le (Nat.le_refl _) (by omega))]
  | succ j ih =>
    intro s f th hs hf ht
    obtain ⟨f, rfl⟩ : ∃ q, f = q + 1 := ⟨f - 1, by omega⟩
    have hsN : s < N := by omega
    obtain ⟨th1, e1, h1⟩ := E_p20 hN hK hT hl hsN (hw s hsN) (hwb s hsN) (f_X0_passOne_l10 pe (nI N) (nI K) rows edges f) K 0 NF th (by omega) (by omega) ht
    obtain ⟨th2, e2, h2⟩ := ih (s + 1) f th1 (by omega) (by omega) h1
    refine ⟨th2, ?_, h2⟩
    rw [f_X0_passOne_l10.eq_2, if_neg (nI_ge hsN (by omega))]
    exact e1.trans e2
theorem E_passOne (hN : N ≤ 720) (hK : K ≤ 6) (hT : ∀ a, a < N → ∀ x, x < K → T a x < N) (hl : ∀ a, a < N → ∀ x, x < K → f_X1_leadsTo (nI a) (nI x) (-1) pe (nI N) (nI K) rows edges = some (if S a x then nI (T a x) else -1)) {w : Nat → Nat} {now : Nat → Int32} (hw : ∀ b, b < N → now b = nI (w b)) (hwb : ∀ b, b < N → w b ≤ 100000) (th : Nat → Int32) : ∃ th', f_X0_passOne now th pe (nI N) (nI K) rows edges = some (th', now) ∧ ∀ b, b < N → th' b = nI (asx K S T w N b) := by
  have h0 := NF_big
  obtain ⟨th1, f1, f2⟩ := E_fill 0 (n := 720) (by omega) th
  obtain ⟨th2, e2, h2⟩ := E_p10 hN hK hT hl hw hwb N 0 NF th1 (by omega) (by omega) (fun b hb => f2 b (by omega))
  refine ⟨th2, ?_, h2⟩
  unfold f_X0_passOne
  rw [f1, Option.bind_some]
  exact e2
theorem E_pass_l (hN : N ≤ 720) (hK : K ≤ 6) (hT : ∀ a, a < N → ∀ x, x < K → T a x < N) (hl : ∀ a, a < N → ∀ x, x < K → f_X1_leadsTo (nI a) (nI x) (-1) pe (nI N) (nI K) rows edges = some (if S a x then nI (T a x) else -1)) {a n : Nat} (ha : a < N) (hn : n ≤ 6) : ∀ (j t f : Nat) (now th : Nat → Int32), t + j = n → j < f → (∀ b, b < N → now b = nI (wt N K S T a t b)) → ∃ now' th', f_X0_pass_l34 pe (nI N) (nI K) rows edges f (nI n) (nI t) (nI (K ^ t)) now th = some (nI (K ^ n), now', th') ∧ ∀ b, b < N → now' b = nI (wt N K S T a n b) := by
  intro j
  induction j with
  | zero =>
    intro t f now th ht hf hw
    obtain ⟨f, rfl⟩ : ∃ q, f = q + 1 := ⟨f - 1, by omega⟩
    obtain rfl : t = n := by omega
    refine ⟨now, th, ?_, hw⟩
    rw [f_X0_pass_l34.eq_2, if_pos (nI_le (Nat.le_refl _) (by omega))]
  | succ j ih =>
    intro t f now th ht hf hw
    obtain ⟨f, rfl⟩ : ∃ q, f = q + 1 := ⟨f - 1, by omega⟩
    obtain ⟨th1, e1, h1⟩ := E_passOne hN hK hT hl hw (fun b hb => by have := wt_le (S := S) hK hT ha (show t ≤ 6 by omega) hb; omega) th
    obtain ⟨now2, th2, e2, h2⟩ := ih (t + 1) f th1 now (by omega) (by omega) h1
    refine ⟨now2, th2, ?_, h2⟩
    rw [f_X0_pass_l34.eq_2, if_neg (nI_ge (by omega) (by omega)), e1, Option.bind_some, show nI t + (1 : Int32) = nI (t + 1) from nI_1 t, pk_mul, ← Nat.pow_succ]
    exact e2
theorem E_pass (hN : N ≤ 720) (hK : K ≤ 6) (hT : ∀ a, a < N → ∀ x, x < K → T a x < N) (hl : ∀ a, a < N → ∀ x, x < K → f_X1_leadsTo (nI a) (nI x) (-1) pe (nI N) (nI K) rows edges = some (if S a x then nI (T a x) else -1)) {a n : Nat} (ha : a < N) (hn : n ≤ 6) (b0 : Int32) (now th : Nat → Int32) : ∃ now' th', f_X0_pass (nI a) (nI n) b0 now th pe (nI N) (nI K) rows edges = some (nI (K ^ n), now', th') ∧ ∀ b, b < N → now' b = nI (wt N K S T a n b) := by
  have h0 := NF_big
  obtain ⟨now1, f1, f2⟩ := E_fill 0 (n := 720) (by omega) now
  obtain ⟨now2, th2, e2, h2⟩ := E_pass_l hN hK hT hl ha hn n 0 NF (upd now1 a 1) th (by omega) (by omega) (fun b hb => by
    show upd now1 a 1 b = nI (if b = a then 1 else 0)
    by_cases c : b = a
    · subst c; rw [pk_us, if_pos rfl]; rfl
    · rw [pk_un c, if_neg c, f2 b (by omega)]; rfl)
  refine ⟨now2, th2, ?_, h2⟩
  unfold f_X0_pass f_X0_pass_b31
  rw [f1, Option.bind_some, if_neg (nI_lt0 (by omega)), if_neg (show ¬ (720 : Int32) ≤ nI a from nI_ge (b := 720) (by omega) (by omega)), bdn _ (show a < 720 by omega) (by omega), nI_cl (by omega)]
  exact e2
end MC
/-! the greatest common divisor -/
theorem gcd_st (x y : Nat) : Nat.gcd x y = Nat.gcd y (x % y) := by
  rw [Nat.gcd_comm x y, Nat.gcd_rec y x, Nat.gcd_comm]
theorem E_gcd : ∀ (j x y k f : Nat), y < 2 ^ j → k + 2 * j < 64 → 2 * j < f → x < 2147483648 → y < 2147483648 → f_X0_commonDivisor_l7 f (nI x) (nI y) (nI k) = some (nI (Nat.gcd x y)) := by
  intro j
  induction j with
  | zero =>
    intro x y k f hy hk hf hx hy2
    obtain ⟨f, rfl⟩ : ∃ q, f = q + 1 := ⟨f - 1, by omega⟩
    obtain rfl : y = 0 := by
      have : (2 : Nat) ^ 0 = 1 := rfl
      omega
    rw [f_X0_commonDivisor_l7.eq_2, if_neg (show ¬ (64 : Int32) ≤ nI k from nI_ge (b := 64) (by omega) (by omega)), if_pos (show nI 0 = 0 from rfl), Nat.gcd_zero_right]
  | succ j ih =>
    intro x y k f hy hk hf hx hy2
    obtain ⟨f, rfl⟩ : ∃ q, f = q + 2 := ⟨f - 2, by omega⟩
    rw [f_X0_commonDivisor_l7.eq_2, if_neg (show ¬ (64 : Int32) ≤ nI k from nI_ge (b := 64) (by omega) (by omega))]
    by_cases h0 : y = 0
    · subst h0
      rw [if_pos (show nI 0 = 0 from rfl), Nat.gcd_zero_right]
    · have hn0 : ¬ nI y = 0 := fun e => h0 ((nI_eq0 hy2).mp e)
      have hr : x % y < y := Nat.mod_lt _ (by omega)
      rw [if_neg hn0, dz_ok _ hn0, pk_rem (by omega) (by omega) (by omega), show nI k + (1 : Int32) = nI (k + 1) from nI_1 k, gcd_st x y, f_X0_commonDivisor_l7.eq_2, if_neg (show ¬ (64 : Int32) ≤ nI (k + 1) from nI_ge (b := 64) (by omega) (by omega))]
      generalize hre : x % y = r at hr
      by_cases h1 : r = 0
      · subst h1
        rw [if_pos (show nI 0 = 0 from rfl), Nat.gcd_zero_right]
      · have hn1 : ¬ nI r = 0 := fun e => h1 ((nI_eq0 (by omega)).mp e)
        have hq : y % r < r := Nat.mod_lt _ (by omega)
        have hq2 : y % r + r ≤ y := by
          have := Nat.mod_add_div y r
          have h3 : 1 ≤ y / r := (Nat.le_div_iff_mul_le (by omega)).mpr (by omega)
          have h4 : r * 1 ≤ r * (y / r) := Nat.mul_le_mul_left r h3
          omega
        rw [if_neg hn1, dz_ok _ hn1, pk_rem (by omega) (by omega) (by omega), show nI (k + 1) + (1 : Int32) = nI (k + 1 + 1) from nI_1 (k + 1), gcd_st y r]
        have hp : (2 : Nat) ^ (j + 1) = 2 ^ j * 2 := Nat.pow_succ 2 j
        exact ih r (y % r) (k + 1 + 1) f (by omega) (by omega) (by omega) (by omega) (by omega)
theorem E_cdiv {x y : Nat} (hx : x < 2147483648) (hy : y ≤ 46656) : f_X0_commonDivisor (nI x) (nI y) = some (nI (Nat.gcd x y)) := by
  have h0 := NF_big
  have hp : (2 : Nat) ^ 16 = 65536 := by decide
  exact E_gcd 16 x y 0 NF (by omega) (by omega) (by omega) hx (by omega)
/-! the mean -/
theorem abs_iI {z : Int} (h1 : -1000000000 ≤ z) (h2 : z ≤ 1000000000) : (if 0 ≤ iI z then iI z else 0 - iI z) = nI z.natAbs := by
  rw [nI_iI, zI]
  by_cases c : 0 ≤ z
  · rw [if_pos ((iI_le (by omega) (by omega) (by omega) (by omega)).mpr c), show (z.natAbs : Int) = z by omega]
  · rw [if_neg (fun e => c ((iI_le (by omega) (by omega) (by omega) (by omega)).mp e)), iI_sub, show (z.natAbs : Int) = 0 - z by omega]
theorem iI_div {z : Int} {g : Nat} (h1 : -1000000000 ≤ z) (h2 : z ≤ 1000000000) (hg : g ≤ 1000000000) : iI z / nI g = iI (z.tdiv g) := by
  rw [nI_iI]
  have e1 : Int32.minValue.toInt = -2147483648 := by decide
  have e2 : Int32.maxValue.toInt = 2147483647 := by decide
  exact (Int32.ofInt_tdiv (by omega) (by omega) (by omega) (by omega)).symm
def wsum (D : HD) (w : Nat → Nat) (i : Nat) : Nat → Int := Sm (fun s => (w s : Int) * wth D s (ps D.1 s i))
theorem wsum_bd {D : HD} (ok : HOK D) {w : Nat → Nat} {i : Nat} (hi : i < D.1) : ∀ n, n ≤ NN D.1 → -(200 * (SN w n : Int)) ≤ wsum D w i n ∧ wsum D w i n ≤ 200 * (SN w n : Int)
  | 0, _ => by
    show -(200 * ((0 : Nat) : Int)) ≤ (0 : Int) ∧ (0 : Int) ≤ 200 * ((0 : Nat) : Int)
    omega
  | n + 1, h => by
    have ih := wsum_bd ok hi n (by omega) (w := w)
    have hb := wth_bd ok (show n < NN D.1 by omega) (tb_ps D.1 n (by omega) i hi).1
    unfold wsum at ih ⊢
    rw [Sm, SN]
    have h1 : (w n : Int) * wth D n (ps D.1 n i) ≤ (w n : Int) * 200 := Int.mul_le_mul_of_nonneg_left hb.2 (by omega)
    have h2 : (w n : Int) * (-200) ≤ (w n : Int) * wth D n (ps D.1 n i) := Int.mul_le_mul_of_nonneg_left hb.1 (by omega)
    show _ ≤ Sm _ n + (w n : Int) * wth D n (ps D.1 n i) ∧ Sm _ n + (w n : Int) * wth D n (ps D.1 n i) ≤ _
    rw [show ((SN w n + w n : Nat) : Int) = (SN w n : Int) + (w n : Int) from Int.natCast_add _ _]
    omega
theorem E_tm_l {D : HD} {bp sc kd lk : Nat → Int32} (ok : HOK D) (hx : HX D bp sc kd lk) {rows edges : Nat → Int32} (hG : GOK0 D rows edges) {w : Nat → Nat} {now : Nat → Int32} {i : Nat} (hi : i < D.1) (hw : ∀ b, b < NN D.1 → now b = nI (w b)) (hwb : ∀ b, b < NN D.1 → w b ≤ 100000) {be : Int32} : ∀ (j s f : Nat), s + j = NN D.1 → j < f → f_X0_takeMean_l8 now (nI (NN D.1)) rows (nI D.1) (nI D.2.1) bp sc lk f (nI i) (nI s) (iI (wsum D w i s)) be = Option.bind (f_X0_commonDivisor (if 0 ≤ iI (wsum D w i (NN D.1)) then iI (wsum D w i (NN D.1)) else 0 - iI (wsum D w i (NN D.1))) be) (fun u_2 => if u_2 ≤ (1 : Int32) then some (iI (wsum D w i (NN D.1)), be) else dz u_2 (dz u_2 (some ((iI (wsum D w i (NN D.1)) / u_2), (be / u_2))))) := by
  have hN := NN_le D.1
  intro j
  induction j with
  | zero =>
    intro s f hs hf
    obtain ⟨f, rfl⟩ : ∃ q, f = q + 1 := ⟨f - 1, by omega⟩
    obtain rfl : s = NN D.1 := by omega
    rw [f_X0_takeMean_l8.eq_2, if_pos (nI_le (Nat.le_refl _) (by omega))]
  | succ j ih =>
    intro s f hs hf
    obtain ⟨f, rfl⟩ : ∃ q, f = q + 1 := ⟨f - 1, by omega⟩
    have hsN : s < NN D.1 := by omega
    have hb := hwb s hsN
    have hstep : wsum D w i (s + 1) = wsum D w i s + (w s : Int) * wth D s (ps D.1 s i) := rfl
    rw [f_X0_takeMean_l8.eq_2, if_neg (nI_ge hsN (by omega)), bdn _ (show s < 720 by omega) (by omega), nI_cl (by omega), hw s hsN]
    unfold f_X0_takeMean_b55
    rw [show nI s + (1 : Int32) = nI (s + 1) from nI_1 s]
    by_cases h0 : w s = 0
    · rw [if_pos ((nI_le0 (by omega)).mpr h0)]
      have : wsum D w i s = wsum D w i (s + 1) := by rw [hstep, h0]; simp
      rw [this]
      exact ih (s + 1) f (by omega) (by omega)
    · rw [if_neg (fun e => h0 ((nI_le0 (by omega)).mp e)), bdn _ (show s < 720 by omega) (by omega), E_rowOf hG hsN, Option.bind_some, E_worthOf ok hx hsN hi, Option.bind_some, nI_iI (w s), iI_mul, iI_add, ← hstep]
      exact ih (s + 1) f (by omega) (by omega)
theorem E_takeMean {D : HD} {bp sc kd lk : Nat → Int32} (ok : HOK D) (hx : HX D bp sc kd lk) {rows edges : Nat → Int32} (hG : GOK0 D rows edges) {w : Nat → Nat} {now : Nat → Int32} {i M : Nat} (hi : i < D.1) (hw : ∀ b, b < NN D.1 → now b = nI (w b)) (hwb : ∀ b, b < NN D.1 → w b ≤ 100000) (hM0 : 1 ≤ M) (hM : M ≤ 46656) (hS : SN w (NN D.1) ≤ 46656) (ab : Int32) : f_X0_takeMean (nI i) ab (nI M) now (nI (NN D.1)) rows (nI D.1) (nI D.2.1) bp sc lk = some (iI ((wsum D w i (NN D.1)).tdiv (Nat.gcd (wsum D w i (NN D.1)).natAbs M)), nI (M / Nat.gcd (wsum D w i (NN D.1)).natAbs M)) := by
  have h0 := NF_big
  have hN := NN_le D.1
  have hbd := wsum_bd (w := w) ok hi (NN D.1) (Nat.le_refl _)
  have h := E_tm_l (be := nI M) ok hx hG hi hw hwb (NN D.1) 0 NF (by omega) (by omega)
  unfold f_X0_takeMean
  refine Eq.trans (show _ = f_X0_takeMean_l8 now (nI (NN D.1)) rows (nI D.1) (nI D.2.1) bp sc lk NF (nI i) (nI 0) (iI (wsum D w i 0)) (nI M) from rfl) (h.trans ?_)
  generalize wsum D w i (NN D.1) = z at hbd ⊢
  rw [abs_iI (by omega) (by omega), E_cdiv (by omega) hM, Option.bind_some]
  have hg1 : 0 < Nat.gcd z.natAbs M := Nat.gcd_pos_of_pos_right _ (by omega)
  have hg2 : Nat.gcd z.natAbs M ≤ M := Nat.gcd_le_right _ (by omega)
  generalize Nat.gcd z.natAbs M = g at hg1 hg2 ⊢
  by_cases c : g ≤ 1
  · obtain rfl : g = 1 := by omega
    rw [if_pos (show nI 1 ≤ (1 : Int32) by decide), Nat.div_one, show ((1 : Nat) : Int) = 1 from rfl, Int.tdiv_one]
  · have hn : ¬ nI g = 0 := fun e => by have := (nI_eq0 (by omega)).mp e; omega
    rw [if_neg (show ¬ nI g ≤ (1 : Int32) from nI_ge (a := 1) (by omega) (by omega)), dz_ok _ hn, dz_ok _ hn, iI_div (by omega) (by omega) (by omega), pk_div (by omega) hg1 (by omega)]
