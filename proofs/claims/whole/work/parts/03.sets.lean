/-! pure: the vectors that show a fault; least, count, best -/
/-- X: the vectors showing, after n lines (w: watched; t: tables beside the fault) -/
def tp_S (w : Int32) (S t : Nat → Int32) : Nat → Int32
  | 0 => 0
  | n + 1 => if bt w n = true then tp_S w S t n ||| (t n ^^^ S n) else tp_S w S t n
/-- Y: the watched lines that are 1 with vector k, after n lines -/
def tp_O (w : Int32) (t : Nat → Int32) (k : Nat) : Nat → Int32
  | 0 => 0
  | n + 1 => tp_O w t k n ||| (tp_b (bt w n && bt (t n) k) <<< (nI n &&& 31))
/-- whether vector k tells t and S apart on the first n lines -/
def tp_D (w : Int32) (S t : Nat → Int32) (k : Nat) : Nat → Bool
  | 0 => false
  | n + 1 => tp_D w S t k n || (bt w n && (bt (t n) k ^^ bt (S n) k))
theorem tp_Sbit (w : Int32) (S t : Nat → Int32) (k : Nat) : ∀ n, bt (tp_S w S t n) k = tp_D w S t k n := by
  intro n
  induction n with
  | zero => exact b_0 k
  | succ n ih =>
    show bt (if bt w n = true then tp_S w S t n ||| (t n ^^^ S n) else tp_S w S t n) k = (tp_D w S t k n || (bt w n && (bt (t n) k ^^ bt (S n) k)))
    by_cases h : bt w n = true
    · rw [if_pos h, b_or, b_xor, ih, h, Bool.true_and]
    · rw [if_neg h, ih, Bool.eq_false_iff.mpr h, Bool.false_and, Bool.or_false]
theorem tp_Obit (w : Int32) (t : Nat → Int32) (k : Nat) : ∀ n, n ≤ 32 → ∀ i, i < 32 → bt (tp_O w t k n) i = (decide (i < n) && (bt w i && bt (t i) k)) := by
  intro n
  induction n with
  | zero => intro _ i _; rw [decide_eq_false (Nat.not_lt_zero i), Bool.false_and]; exact b_0 i
  | succ n ih =>
    intro hn i hi
    show bt (tp_O w t k n ||| (tp_b (bt w n && bt (t n) k) <<< (nI n &&& 31))) i = _
    rw [b_or, ih (by omega) i hi, tp_shl _ n (by omega) i hi]
    by_cases e : i = n
    · subst e
      rw [decide_eq_false (Nat.lt_irrefl i), decide_eq_true (show i = i from rfl), decide_eq_true (show i < i + 1 by omega), Bool.false_and, Bool.false_or, Bool.and_true, Bool.true_and]
    · rw [decide_eq_false e, Bool.and_false, Bool.or_false]
      by_cases h : i < n
      · rw [decide_eq_true h, decide_eq_true (show i < n + 1 by omega)]
      · rw [decide_eq_false h, decide_eq_false (show ¬ i < n + 1 by omega)]
theorem tp_Df (w : Int32) (S t : Nat → Int32) (k : Nat) : ∀ n, tp_D w S t k n = false ↔ ∀ i, i < n → (bt w i && bt (t i) k) = (bt w i && bt (S i) k) := by
  intro n
  induction n with
  | zero => exact ⟨fun _ i h => absurd h (Nat.not_lt_zero i), fun _ => rfl⟩
  | succ n ih =>
    show (tp_D w S t k n || (bt w n && (bt (t n) k ^^ bt (S n) k))) = false ↔ _
    rw [Bool.or_eq_false_iff, ih]
    constructor
    · intro ⟨h1, h2⟩ i hi
      by_cases e : i = n
      · subst e
        revert h2
        cases bt w i <;> cases bt (t i) k <;> cases bt (S i) k <;> decide
      · exact h1 i (by omega)
    · intro h
      refine ⟨fun i hi => h i (by omega), ?_⟩
      have h2 := h n (by omega)
      revert h2
      cases bt w n <;> cases bt (t n) k <;> cases bt (S n) k <;> decide
theorem tp_OD (w : Int32) (S t : Nat → Int32) (k n : Nat) (hn : n ≤ 32) : tp_O w t k n = tp_O w S k n ↔ tp_D w S t k n = false := by
  rw [tp_Df]
  constructor
  · intro e i hi
    have h : bt (tp_O w t k n) i = bt (tp_O w S k n) i := by rw [e]
    rw [tp_Obit w t k n hn i (by omega), tp_Obit w S k n hn i (by omega), decide_eq_true hi, Bool.true_and, Bool.true_and] at h
    exact h
  · intro h
    apply b_ext
    intro i hi
    rw [tp_Obit w t k n hn i hi, tp_Obit w S k n hn i hi]
    by_cases e : i < n
    · rw [h i e]
    · rw [decide_eq_false e, Bool.false_and, Bool.false_and]
/-- the vectors that show 's stuck at v' -/
def tp_V (c : Nat) (w : Int32) (kd xs ys S : Nat → Int32) (s v : Int32) : Int32 := tp_S w S (tp_T kd xs ys S s v) c
theorem tp_VO {c : Nat} (w : Int32) (kd xs ys S : Nat → Int32) (s v : Int32) (k : Nat) (hc : c ≤ 16) : tp_O w (tp_T kd xs ys S s v) k c = tp_O w S k c ↔ bt (tp_V c w kd xs ys S s v) k = false := by
  rw [tp_OD w S _ k c (by omega), tp_V, tp_Sbit]
theorem tp_z (x : Int32) : x = 0 ↔ ∀ k, k < 32 → bt x k = false := by
  constructor
  · intro e k _; rw [e]; exact b_0 k
  · intro h; apply b_ext; intro i hi; rw [h i hi, b_0]
/-- the least k from k0 on with P, of m tried; else -1 -/
def tp_f (P : Nat → Bool) : Nat → Nat → Int32
  | 0, _ => -1
  | m + 1, k => if P k = true then nI k else tp_f P m (k + 1)
theorem tp_f_eq (P Q : Nat → Bool) : ∀ m k, (∀ j, k ≤ j → j < k + m → P j = Q j) → tp_f P m k = tp_f Q m k := by
  intro m
  induction m with
  | zero => intro k _; rfl
  | succ m ih =>
    intro k h
    show (if P k = true then nI k else tp_f P m (k + 1)) = (if Q k = true then nI k else tp_f Q m (k + 1))
    rw [h k (by omega) (by omega), ih (k + 1) (fun j h1 h2 => h j (by omega) (by omega))]
theorem tp_f_add (P : Nat → Bool) (m : Nat) : ∀ a k, (∀ j, k ≤ j → j < k + a → P j = false) → tp_f P (m + a) k = tp_f P m (k + a) := by
  intro a
  induction a with
  | zero => intro k _; rfl
  | succ a ih =>
    intro k h
    show (if P k = true then nI k else tp_f P (m + a) (k + 1)) = _
    rw [if_neg (by rw [h k (by omega) (by omega)]; decide), ih (k + 1) (fun j h1 h2 => h j (by omega) (by omega)), show k + 1 + a = k + (a + 1) by omega]
theorem tp_f_neg (P : Nat → Bool) : ∀ m k, k + m ≤ 32 → (tp_f P m k < 0 ↔ ∀ j, k ≤ j → j < k + m → P j = false) := by
  intro m
  induction m with
  | zero => intro k _; exact ⟨fun _ j h1 h2 => absurd h2 (by omega), fun _ => (by decide : (-1 : Int32) < 0)⟩
  | succ m ih =>
    intro k hk
    show (if P k = true then nI k else tp_f P m (k + 1)) < 0 ↔ _
    by_cases h : P k = true
    · rw [if_pos h]
      exact ⟨fun z => absurd z (nI_pos (by omega)), fun z => absurd h (by rw [z k (by omega) (by omega)]; decide)⟩
    · rw [if_neg h, ih (k + 1) (by omega)]
      constructor
      · intro z j h1 h2
        by_cases e : j = k
        · rw [e]; exact Bool.eq_false_iff.mpr h
        · exact z j (by omega) (by omega)
      · intro z j h1 h2
        exact z j (by omega) (by omega)
theorem tp_f_z (x : Int32) : tp_f (bt x) 32 0 < 0 ↔ x = 0 := by
  rw [tp_f_neg (bt x) 32 0 (by omega), tp_z]
  exact ⟨fun h k hk => h k (by omega) (by omega), fun h k _ hk => h k (by omega)⟩
/-- a count over lines of two kinds -/
def tp_N (A B : Nat → Bool) : Nat → Nat
  | 0 => 0
  | n + 1 => tp_N A B n + (A n).toNat + (B n).toNat
theorem tp_N_le (A B : Nat → Bool) : ∀ n, tp_N A B n ≤ 2 * n := by
  intro n
  induction n with
  | zero => exact Nat.le_refl 0
  | succ n ih =>
    have h1 := Bool.toNat_le (A n)
    have h2 := Bool.toNat_le (B n)
    show tp_N A B n + (A n).toNat + (B n).toNat ≤ 2 * (n + 1)
    omega
theorem tp_N_s (A B : Nat → Bool) (n : Nat) : nI (tp_N A B n) + tp_b (A n) + tp_b (B n) = nI (tp_N A B (n + 1)) := by
  rw [tp_bn, tp_bn, nI_add, nI_add]; rfl
/-- a plain count -/
def tp_C (A : Nat → Bool) : Nat → Nat
  | 0 => 0
  | n + 1 => tp_C A n + (A n).toNat
theorem tp_C_s (A : Nat → Bool) (n : Nat) : nI (tp_C A n) + tp_b (A n) = nI (tp_C A (n + 1)) := by
  rw [tp_bn, nI_add]; rfl
/-- the first place of the greatest count among 0 .. n, and that count -/
def tp_B (f : Nat → Nat) : Nat → Nat × Nat
  | 0 => (0, f 0)
  | n + 1 => if (tp_B f n).2 < f (n + 1) then (n + 1, f (n + 1)) else tp_B f n
theorem tp_B_le (f : Nat → Nat) (M : Nat) (h : ∀ k, f k ≤ M) : ∀ n, (tp_B f n).2 ≤ M := by
  intro n
  induction n with
  | zero => exact h 0
  | succ n ih =>
    show (if (tp_B f n).2 < f (n + 1) then (n + 1, f (n + 1)) else tp_B f n).2 ≤ M
    by_cases z : (tp_B f n).2 < f (n + 1)
    · rw [if_pos z]; exact h (n + 1)
    · rw [if_neg z]; exact ih
