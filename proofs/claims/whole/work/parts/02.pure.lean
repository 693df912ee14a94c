/-! pure: bits, gate tables, the tables beside a fault -/
/-- a truth value as both programs hold it -/
def tp_b (c : Bool) : Int32 := if c then 1 else 0
theorem tp_1 : ∀ i, i < 32 → bt 1 i = decide (i = 0) := by decide +kernel
theorem tp_bb (c : Bool) (i : Nat) (hi : i < 32) : bt (tp_b c) i = (c && decide (i = 0)) := by
  cases c
  · rw [show tp_b false = 0 from rfl, b_0]; rfl
  · rw [show tp_b true = 1 from rfl, tp_1 i hi]; rfl
theorem tp_band : ∀ p q : Bool, tp_b p &&& tp_b q = tp_b (p && q) := by decide
theorem tp_bor : ∀ p q : Bool, tp_b p ||| tp_b q = tp_b (p || q) := by decide
theorem tp_bxor : ∀ p q : Bool, tp_b p ^^^ tp_b q = tp_b (p ^^ q) := by decide
theorem tp_bnot : ∀ p : Bool, 1 - tp_b p = tp_b (p ^^ true) := by decide
theorem tp_bn : ∀ p : Bool, tp_b p = nI p.toNat := by decide
theorem tp_b_1 : ∀ p : Bool, tp_b p = 1 ↔ p = true := by decide
theorem tp_b_0 : ∀ p : Bool, tp_b p = 0 ↔ p = false := by decide
theorem tp_ush (x : Int32) (n : Nat) (hn : n < 32) : (x.toUInt32 >>> ((nI n).toUInt32 &&& Int32.toUInt32 31)).toInt32 &&& 1 = tp_b (bt x n) := by
  apply b_ext
  intro i hi
  rw [b_and, b_ushr n hn, tp_1 i hi, tp_bb _ i hi]
  by_cases h : i = 0
  · subst h; rfl
  · rw [decide_eq_false h, Bool.and_false, Bool.and_false]
theorem tp_ssh (x : Int32) (n : Nat) (hn : n < 32) : (x >>> (nI n &&& 31)) &&& 1 = tp_b (bt x n) := by
  apply b_ext
  intro i hi
  rw [b_and, b_sshr n hn x hi, tp_1 i hi, tp_bb _ i hi]
  by_cases h : i = 0
  · subst h; rw [if_pos (by omega)]; rfl
  · rw [decide_eq_false h, Bool.and_false, Bool.and_false]
theorem tp_shl (c : Bool) (n : Nat) (hn : n < 32) (i : Nat) (hi : i < 32) : bt (tp_b c <<< (nI n &&& 31)) i = (c && decide (i = n)) := by
  rw [b_shl n hn _ hi]
  by_cases h : n ≤ i
  · rw [tp_bb c (i - n) (by omega), decide_eq_true h, Bool.true_and]
    by_cases e : i = n
    · rw [decide_eq_true e, decide_eq_true (show i - n = 0 by omega)]
    · rw [decide_eq_false e, decide_eq_false (show ¬ i - n = 0 by omega)]
  · rw [decide_eq_false h, decide_eq_false (show ¬ i = n by omega), Bool.false_and, Bool.and_false]
theorem tp_neg {v : Int32} (hv : v = 0 ∨ v = 1) {k : Nat} (hk : k < 32) : v = tp_b (bt (-v) k) := by
  rcases hv with rfl | rfl
  · rw [show (-0 : Int32) = 0 from by decide, b_0]; rfl
  · rw [b_m1 k hk]; rfl
/-- a gate for all vectors at once -/
def tp_g (k x y : Int32) : Int32 := if k = 0 then x &&& y else if k = 1 then x ||| y else if k = 2 then x ^^^ y else if k = 3 then (x &&& y) ^^^ (-1) else if k = 4 then (x ||| y) ^^^ (-1) else x ^^^ (-1)
/-- a gate for one vector -/
def tp_h (k x y : Int32) : Int32 := if k = 0 then x &&& y else if k = 1 then x ||| y else if k = 2 then x ^^^ y else if k = 3 then 1 - (x &&& y) else if k = 4 then 1 - (x ||| y) else 1 - x
theorem tp_gh (k X Y : Int32) {n : Nat} (hn : n < 32) : tp_h k (tp_b (bt X n)) (tp_b (bt Y n)) = tp_b (bt (tp_g k X Y) n) := by
  unfold tp_g tp_h
  by_cases h0 : k = 0
  · rw [if_pos h0, if_pos h0, b_and, tp_band]
  rw [if_neg h0, if_neg h0]
  by_cases h1 : k = 1
  · rw [if_pos h1, if_pos h1, b_or, tp_bor]
  rw [if_neg h1, if_neg h1]
  by_cases h2 : k = 2
  · rw [if_pos h2, if_pos h2, b_xor, tp_bxor]
  rw [if_neg h2, if_neg h2]
  by_cases h3 : k = 3
  · rw [if_pos h3, if_pos h3, b_xor, b_and, tp_band, tp_bnot, b_m1 n hn]
  rw [if_neg h3, if_neg h3]
  by_cases h4 : k = 4
  · rw [if_pos h4, if_pos h4, b_xor, b_or, tp_bor, tp_bnot, b_m1 n hn]
  rw [if_neg h4, if_neg h4, b_xor, tp_bnot, b_m1 n hn]
theorem tp_h5 (x y z : Int32) : tp_h 5 x y = tp_h 5 x z := rfl
theorem tp_nn (j : Nat) (h : j < 16) : ¬ nI j = -1 := (by decide +kernel : ∀ j, j < 16 → ¬ nI j = -1) j h
/-- what holds of the circuit (n lines; kinds, first reads; second reads of X and of Y; sound tables) -/
def tp_R (c : Nat) (kd xs ys yr S : Nat → Int32) : Prop :=
  (5 ≤ c ∧ c ≤ 16) ∧ (∀ i, i < 5 → ∀ k, k < 32 → bt (S i) k = bt (nI k) i) ∧ (∀ i, i < 5 → xs i = 0 ∧ yr i = 0) ∧
  (∀ i, 5 ≤ i → i < c → ∃ a b d : Nat, (a < i ∧ b < i ∧ d < i) ∧ (xs i = nI a ∧ ys i = nI b ∧ yr i = nI d) ∧ (kd i ≠ 5 → d = b) ∧ S i = tp_g (kd i) (S a) (S b))
/-- the table of each line beside the fault 's stuck at v', with fuel -/
def tp_F (kd xs ys S : Nat → Int32) (s v : Int32) : Nat → Nat → Int32
  | 0, _ => 0
  | f + 1, j => if nI j = s then -v else if j < 5 then S j else tp_g (kd j) (tp_F kd xs ys S s v f (xs j).toNatClampNeg) (tp_F kd xs ys S s v f (ys j).toNatClampNeg)
def tp_T (kd xs ys S : Nat → Int32) (s v : Int32) (j : Nat) : Int32 := tp_F kd xs ys S s v (j + 1) j
theorem tp_Fst {c : Nat} {kd xs ys yr S : Nat → Int32} {s v : Int32} (R : tp_R c kd xs ys yr S) : ∀ j, j < c → ∀ f, j < f → tp_F kd xs ys S s v f j = tp_T kd xs ys S s v j := by
  intro j
  induction j using Nat.strongRecOn with
  | ind j ih =>
    intro hj f hf
    obtain ⟨f', rfl⟩ : ∃ f', f = f' + 1 := ⟨f - 1, by omega⟩
    show (if nI j = s then -v else if j < 5 then S j else tp_g (kd j) (tp_F kd xs ys S s v f' (xs j).toNatClampNeg) (tp_F kd xs ys S s v f' (ys j).toNatClampNeg)) = (if nI j = s then -v else if j < 5 then S j else tp_g (kd j) (tp_F kd xs ys S s v j (xs j).toNatClampNeg) (tp_F kd xs ys S s v j (ys j).toNatClampNeg))
    by_cases h5 : j < 5
    · simp only [if_pos h5]
    · obtain ⟨⟨_, hc⟩, _, _, hg⟩ := R
      obtain ⟨a, b, d, ⟨ha, hb, _⟩, ⟨ea, eb, _⟩, _⟩ := hg j (by omega) hj
      have ca : (xs j).toNatClampNeg = a := by rw [ea]; exact nI_clamp (by omega)
      have cb : (ys j).toNatClampNeg = b := by rw [eb]; exact nI_clamp (by omega)
      rw [ca, cb, ih a ha (by omega) f' (by omega), ih b hb (by omega) f' (by omega), ih a ha (by omega) j ha, ih b hb (by omega) j hb]
/-- t is such a table -/
def tp_L (c : Nat) (kd xs ys S : Nat → Int32) (s v : Int32) (t : Nat → Int32) : Prop :=
  ∀ j, j < c → t j = if nI j = s then -v else if j < 5 then S j else tp_g (kd j) (t (xs j).toNatClampNeg) (t (ys j).toNatClampNeg)
theorem tp_LT {c : Nat} {kd xs ys yr S : Nat → Int32} {s v : Int32} (R : tp_R c kd xs ys yr S) : tp_L c kd xs ys S s v (tp_T kd xs ys S s v) := by
  intro j hj
  show (if nI j = s then -v else if j < 5 then S j else tp_g (kd j) (tp_F kd xs ys S s v j (xs j).toNatClampNeg) (tp_F kd xs ys S s v j (ys j).toNatClampNeg)) = _
  by_cases h5 : j < 5
  · simp only [if_pos h5]
  · obtain ⟨a, b, d, ⟨ha, hb, _⟩, ⟨ea, eb, _⟩, _⟩ := R.2.2.2 j (by omega) hj
    have hc := R.1.2
    have ca : (xs j).toNatClampNeg = a := by rw [ea]; exact nI_clamp (by omega)
    have cb : (ys j).toNatClampNeg = b := by rw [eb]; exact nI_clamp (by omega)
    rw [ca, cb, tp_Fst R a (by omega) j ha, tp_Fst R b (by omega) j hb]
theorem tp_LS {c : Nat} {kd xs ys yr S : Nat → Int32} {v : Int32} (R : tp_R c kd xs ys yr S) : tp_L c kd xs ys S (-1) v S := by
  intro j hj
  have hc := R.1.2
  rw [if_neg (tp_nn j (by omega))]
  by_cases h5 : j < 5
  · rw [if_pos h5]
  · obtain ⟨a, b, d, ⟨ha, hb, _⟩, ⟨ea, eb, _⟩, _, e⟩ := R.2.2.2 j (by omega) hj
    rw [if_neg h5, ea, eb, nI_clamp (show a < 2 ^ 31 by omega), nI_clamp (show b < 2 ^ 31 by omega)]
    exact e
theorem tp_Xstep {c : Nat} {kd xs ys yr S t fa : Nat → Int32} {s v : Int32} (R : tp_R c kd xs ys yr S) (hL : tp_L c kd xs ys S s v t) {j : Nat} (hj : j < c) (ag : ∀ i, i < j → fa i = t i) :
    (if nI j = s then -v else if j < 5 then S j else tp_g (kd j) (fa (xs j).toNatClampNeg) (fa (ys j).toNatClampNeg)) = t j := by
  rw [hL j hj]
  by_cases h5 : j < 5
  · simp only [if_pos h5]
  · obtain ⟨a, b, d, ⟨ha, hb, _⟩, ⟨ea, eb, _⟩, _⟩ := R.2.2.2 j (by omega) hj
    have hc := R.1.2
    have ca : (xs j).toNatClampNeg = a := by rw [ea]; exact nI_clamp (by omega)
    have cb : (ys j).toNatClampNeg = b := by rw [eb]; exact nI_clamp (by omega)
    rw [ca, cb, ag a ha, ag b hb]
theorem tp_Ystep {c : Nat} {kd xs ys yr S t va : Nat → Int32} {s v : Int32} {n : Nat} (R : tp_R c kd xs ys yr S) (hL : tp_L c kd xs ys S s v t) (hv : v = 0 ∨ v = 1) (hn : n < 32) {j : Nat} (hj : j < c) (ag : ∀ i, i < j → va i = tp_b (bt (t i) n)) :
    (if nI j = s then v else if j < 5 then tp_b (bt (nI n) j) else tp_h (kd j) (va (xs j).toNatClampNeg) (va (yr j).toNatClampNeg)) = tp_b (bt (t j) n) := by
  rw [hL j hj]
  by_cases hs : nI j = s
  · rw [if_pos hs, if_pos hs]
    exact tp_neg hv hn
  rw [if_neg hs, if_neg hs]
  by_cases h5 : j < 5
  · rw [if_pos h5, if_pos h5, R.2.1 j h5 n hn]
  · obtain ⟨a, b, d, ⟨ha, hb, hd⟩, ⟨ea, eb, ed⟩, h5k, _⟩ := R.2.2.2 j (by omega) hj
    have hc := R.1.2
    have ca : (xs j).toNatClampNeg = a := by rw [ea]; exact nI_clamp (by omega)
    have cb : (ys j).toNatClampNeg = b := by rw [eb]; exact nI_clamp (by omega)
    have cd : (yr j).toNatClampNeg = d := by rw [ed]; exact nI_clamp (by omega)
    rw [if_neg h5, if_neg h5, ca, cb, cd, ag a ha, ag d hd]
    by_cases k5 : kd j = 5
    · rw [k5, tp_h5 _ _ (tp_b (bt (t b) n)), tp_gh _ _ _ hn]
    · rw [h5k k5, tp_gh _ _ _ hn]
