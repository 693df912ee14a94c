section
/-! rows of kit/rows, pasted -/
theorem pk_us {f : Nat → Int32} {k : Nat} {x : Int32} : upd f k x k = x := if_pos rfl
theorem pk_un {f : Nat → Int32} {k j : Nat} {x : Int32} (h : j ≠ k) : upd f k x j = f j := if_neg h
theorem pk_sub {a b : Nat} (h : b ≤ a) : nI a - nI b = nI (a - b) := by
  obtain ⟨c, rfl⟩ : ∃ c, a = c + b := ⟨a - b, by omega⟩
  rw [← nI_add, Int32.add_sub_cancel, Nat.add_sub_cancel]
theorem pk_m1 (n : Nat) : nI (n + 1) + (-1) = nI n := by
  rw [← nI_1, Int32.add_assoc, show (1 : Int32) + (-1) = 0 from rfl, Int32.add_zero]
theorem pk_ix (x : Int32) {n : Nat} (hn : n < 2 ^ 31) : x < 0 ∨ nI n ≤ x ∨ ∃ j : Nat, j < n ∧ x = nI j := by
  by_cases h : x < 0
  · exact Or.inl h
  · obtain ⟨j, hj, rfl⟩ := nI_of h
    by_cases h2 : j < n
    · exact Or.inr (Or.inr ⟨j, h2, rfl⟩)
    · exact Or.inr (Or.inl (nI_le (by omega) hj))
theorem pk_le {x y : Int32} {A B : Prop} (a b : Nat) (f : a ≤ b → A) (g : b < a → B) (hx : x = nI a := by rfl) (hy : y = nI b := by rfl) (ha : a < 2 ^ 31 := by omega) (hb : b < 2 ^ 31 := by omega) : (x ≤ y → A) ∧ (¬ x ≤ y → B) := by
  subst hx hy
  rw [nI_leI ha hb]
  exact ⟨f, fun z => g (by omega)⟩
theorem pk_lt {x y : Int32} {A B : Prop} (a b : Nat) (f : a < b → A) (g : b ≤ a → B) (hx : x = nI a := by rfl) (hy : y = nI b := by rfl) (ha : a < 2 ^ 31 := by omega) (hb : b < 2 ^ 31 := by omega) : (x < y → A) ∧ (¬ x < y → B) := by
  subst hx hy
  rw [nI_ltI ha hb]
  exact ⟨f, fun z => g (by omega)⟩
theorem pk_eq {x y : Int32} {A B : Prop} (a b : Nat) (f : a = b → A) (g : a ≠ b → B) (hx : x = nI a := by rfl) (hy : y = nI b := by rfl) (ha : a < 2 ^ 31 := by omega) (hb : b < 2 ^ 31 := by omega) : (x = y → A) ∧ (¬ x = y → B) := by
  subst hx hy
  rw [nI_eq ha hb]
  exact ⟨f, g⟩
theorem pk_in {x : Int32} (n N : Nat) (h : n < N) (hx : x = nI n := by rfl) (hN : N < 2 ^ 31 := by omega) : vp_in x N := by
  subst hx
  exact vp_in_nI h hN
theorem pk_cl {x : Int32} (n : Nat) (hx : x = nI n := by rfl) (h : n < 2 ^ 31 := by omega) : x.toNatClampNeg = n := by
  subst hx
  exact nI_clamp h
theorem pk_loop {σ : Type} (W : Nat → Nat → σ → Prop) (I : Nat → σ → Prop) (e i0 : Nat) (s : σ) (hi : i0 ≤ e) (h0 : I i0 s) (hx : ∀ n s, I e s → W (n + 1) e s)
    (hs : ∀ n i s, i < e → I i s → (∀ s', I (i + 1) s' → W n (i + 1) s') → W (n + 1) i s) : ∃ n, W n i0 s :=
  ⟨e + 1, loop_i W I e hx hs (e + 1) i0 s hi (by omega) h0⟩
theorem ek_if {c d A B : Prop} (e : c ↔ d) (f : d → A) (g : ¬ d → B) : (c → A) ∧ (¬ c → B) :=
  ⟨fun z => f (e.mp z), fun z => g (fun y => z (e.mpr y))⟩
theorem ek_v {α : Sort _} {P : α → Prop} {a b : α} (e : a = b) (h : P b) : P a := e ▸ h
def bt (x : Int32) (i : Nat) : Bool := x.toBitVec.getLsbD i
theorem b_ext {x y : Int32} (h : ∀ i, i < 32 → bt x i = bt y i) : x = y := Int32.toBitVec_inj.mp (BitVec.eq_of_getLsbD_eq (fun i hi => h i hi))
theorem b_or (x y : Int32) (i : Nat) : bt (x ||| y) i = (bt x i || bt y i) := by unfold bt; rw [Int32.toBitVec_or, BitVec.getLsbD_or]
theorem b_and (x y : Int32) (i : Nat) : bt (x &&& y) i = (bt x i && bt y i) := by unfold bt; rw [Int32.toBitVec_and, BitVec.getLsbD_and]
theorem b_xor (x y : Int32) (i : Nat) : bt (x ^^^ y) i = (bt x i ^^ bt y i) := by unfold bt; rw [Int32.toBitVec_xor, BitVec.getLsbD_xor]
theorem b_big {x : Int32} {i : Nat} (h : 32 ≤ i) : bt x i = false := BitVec.getLsbD_of_ge _ _ h
theorem b_m1 : ∀ i, i < 32 → bt (-1) i = true := by decide +kernel
theorem b_0 (i : Nat) : bt 0 i = false := BitVec.getLsbD_zero
theorem s_l : ∀ n, n < 32 → ((nI n &&& 31).toBitVec.smod 32).toNat = n := by decide +kernel
theorem s_u : ∀ n, n < 32 → (((nI n).toUInt32 &&& Int32.toUInt32 31).toBitVec % 32).toNat = n := by decide +kernel
theorem b_shl (n : Nat) (hn : n < 32) (x : Int32) {i : Nat} (hi : i < 32) : bt (x <<< (nI n &&& 31)) i = (decide (n ≤ i) && bt x (i - n)) := by
  unfold bt
  rw [Int32.toBitVec_shiftLeft]
  show (x.toBitVec <<< ((nI n &&& 31).toBitVec.smod 32).toNat).getLsbD i = _
  rw [s_l n hn, BitVec.getLsbD_shiftLeft]
  rcases Nat.lt_or_ge i n with h | h
  · simp [h, Nat.not_le.mpr h]
  · simp [hi, h, Nat.not_lt.mpr h]
theorem b_ushr (n : Nat) (hn : n < 32) (x : Int32) (i : Nat) : bt ((x.toUInt32 >>> ((nI n).toUInt32 &&& Int32.toUInt32 31)).toInt32) i = bt x (n + i) := by
  show (x.toUInt32 >>> ((nI n).toUInt32 &&& Int32.toUInt32 31)).toBitVec.getLsbD i = x.toUInt32.toBitVec.getLsbD (n + i)
  rw [UInt32.toBitVec_shiftRight]
  show (x.toUInt32.toBitVec >>> (((nI n).toUInt32 &&& Int32.toUInt32 31).toBitVec % 32).toNat).getLsbD i = _
  rw [s_u n hn, BitVec.getLsbD_ushiftRight]
theorem b_sshr (n : Nat) (hn : n < 32) (x : Int32) {i : Nat} (hi : i < 32) : bt (x >>> (nI n &&& 31)) i = if n + i < 32 then bt x (n + i) else bt x 31 := by
  unfold bt
  rw [Int32.toBitVec_shiftRight]
  show (x.toBitVec.sshiftRight ((nI n &&& 31).toBitVec.smod 32).toNat).getLsbD i = _
  rw [s_l n hn, BitVec.getLsbD_sshiftRight, BitVec.msb_eq_getLsbD_last]
  simp [hi]
end
section
/-! pure: bits, gate tables, the tables beside a fault -/
/-- a truth value as both programs hold it -/
def tp_b (c : Bool) : Int32 := if c then 1 else 0
theorem tp_1 : ∀ i, i < 32 → bt 1 i = decide (i = 0) := by decide +kernel
theorem tp_bb (c : Bool) (i : Nat) (hi : i < 32) : bt (tp_b c) i = (c && decide (i = 0)) := by
  cases c
  · rw [show tp_b false = 0 from rfl, b_0]; rfl
  · rw [show tp_b true = 1 from rfl, tp_1 i hi]; rfl
theorem tp_band : ∀ p q : Bool, tp_b p &&& tp_b q = tp_b (p && q) := by decide
theorem tp_bor : ∀ p q : Bool, tp_b p ||| tp_b q = tp_b (p || q) := by decide
theorem tp_bxor : ∀ p q : Bool, tp_b p ^^^ tp_b q = tp_b (p ^^ q) := by decide
theorem tp_bnot : ∀ p : Bool, 1 - tp_b p = tp_b (p ^^ true) := by decide
theorem tp_bn : ∀ p : Bool, tp_b p = nI p.toNat := by decide
theorem tp_b_1 : ∀ p : Bool, tp_b p = 1 ↔ p = true := by decide
theorem tp_b_0 : ∀ p : Bool, tp_b p = 0 ↔ p = false := by decide
theorem tp_ush (x : Int32) (n : Nat) (hn : n < 32) : (x.toUInt32 >>> ((nI n).toUInt32 &&& Int32.toUInt32 31)).toInt32 &&& 1 = tp_b (bt x n) := by
  apply b_ext
  intro i hi
  rw [b_and, b_ushr n hn, tp_1 i hi, tp_bb _ i hi]
  by_cases h : i = 0
  · subst h; rfl
  · rw [decide_eq_false h, Bool.and_false, Bool.and_false]
theorem tp_ssh (x : Int32) (n : Nat) (hn : n < 32) : (x >>> (nI n &&& 31)) &&& 1 = tp_b (bt x n) := by
  apply b_ext
  intro i hi
  rw [b_and, b_sshr n hn x hi, tp_1 i hi, tp_bb _ i hi]
  by_cases h : i = 0
  · subst h; rw [if_pos (by omega)]; rfl
  · rw [decide_eq_false h, Bool.and_false, Bool.and_false]
theorem tp_shl (c : Bool) (n : Nat) (hn : n < 32) (i : Nat) (hi : i < 32) : bt (tp_b c <<< (nI n &&& 31)) i = (c && decide (i = n)) := by
  rw [b_shl n hn _ hi]
  by_cases h : n ≤ i
  · rw [tp_bb c (i - n) (by omega), decide_eq_true h, Bool.true_and]
    by_cases e : i = n
    · rw [decide_eq_true e, decide_eq_true (show i - n = 0 by omega)]
    · rw [decide_eq_false e, decide_eq_false (show ¬ i - n = 0 by omega)]
  · rw [decide_eq_false h, decide_eq_false (show ¬ i = n by omega), Bool.false_and, Bool.and_false]
theorem tp_neg {v : Int32} (hv : v = 0 ∨ v = 1) {k : Nat} (hk : k < 32) : v = tp_b (bt (-v) k) := by
  rcases hv with rfl | rfl
  · rw [show (-0 : Int32) = 0 from by decide, b_0]; rfl
  · rw [b_m1 k hk]; rfl
/-- a gate for all vectors at once -/
def tp_g (k x y : Int32) : Int32 := if k = 0 then x &&& y else if k = 1 then x ||| y else if k = 2 then x ^^^ y else if k = 3 then (x &&& y) ^^^ (-1) else if k = 4 then (x ||| y) ^^^ (-1) else x ^^^ (-1)
/-- a gate for one vector -/
def tp_h (k x y : Int32) : Int32 := if k = 0 then x &&& y else if k = 1 then x ||| y else if k = 2 then x ^^^ y else if k = 3 then 1 - (x &&& y) else if k = 4 then 1 - (x ||| y) else 1 - x
theorem tp_gh (k X Y : Int32) {n : Nat} (hn : n < 32) : tp_h k (tp_b (bt X n)) (tp_b (bt Y n)) = tp_b (bt (tp_g k X Y) n) := by
  unfold tp_g tp_h
  by_cases h0 : k = 0
  · rw [if_pos h0, if_pos h0, b_and, tp_band]
  rw [if_neg h0, if_neg h0]
  by_cases h1 : k = 1
  · rw [if_pos h1, if_pos h1, b_or, tp_bor]
  rw [if_neg h1, if_neg h1]
  by_cases h2 : k = 2
  · rw [if_pos h2, if_pos h2, b_xor, tp_bxor]
  rw [if_neg h2, if_neg h2]
  by_cases h3 : k = 3
  · rw [if_pos h3, if_pos h3, b_xor, b_and, tp_band, tp_bnot, b_m1 n hn]
  rw [if_neg h3, if_neg h3]
  by_cases h4 : k = 4
  · rw [if_pos h4, if_pos h4, b_xor, b_or, tp_bor, tp_bnot, b_m1 n hn]
  rw [if_neg h4, if_neg h4, b_xor, tp_bnot, b_m1 n hn]
theorem tp_h5 (x y z : Int32) : tp_h 5 x y = tp_h 5 x z := rfl
theorem tp_nn (j : Nat) (h : j < 16) : ¬ nI j = -1 := (by decide +kernel : ∀ j, j < 16 → ¬ nI j = -1) j h
/-- what holds of the circuit (n lines; kinds, first reads; second reads of X and of Y; sound tables) -/
def tp_R (c : Nat) (kd xs ys yr S : Nat → Int32) : Prop :=
  (5 ≤ c ∧ c ≤ 16) ∧ (∀ i, i < 5 → ∀ k, k < 32 → bt (S i) k = bt (nI k) i) ∧ (∀ i, i < 5 → xs i = 0 ∧ yr i = 0) ∧
  (∀ i, 5 ≤ i → i < c → ∃ a b d : Nat, (a < i ∧ b < i ∧ d < i) ∧ (xs i = nI a ∧ ys i = nI b ∧ yr i = nI d) ∧ (kd i ≠ 5 → d = b) ∧ S i = tp_g (kd i) (S a) (S b))
/-- the table of each line beside the fault 's stuck at v', with fuel -/
def tp_F (kd xs ys S : Nat → Int32) (s v : Int32) : Nat → Nat → Int32
  | 0, _ => 0
  | f + 1, j => if nI j = s then -v else if j < 5 then S j else tp_g (kd j) (tp_F kd xs ys S s v f (xs j).toNatClampNeg) (tp_F kd xs ys S s v f (ys j).toNatClampNeg)
def tp_T (kd xs ys S : Nat → Int32) (s v : Int32) (j : Nat) : Int32 := tp_F kd xs ys S s v (j + 1) j
theorem tp_Fst {c : Nat} {kd xs ys yr S : Nat → Int32} {s v : Int32} (R : tp_R c kd xs ys yr S) : ∀ j, j < c → ∀ f, j < f → tp_F kd xs ys S s v f j = tp_T kd xs ys S s v j := by
  intro j
  induction j using Nat.strongRecOn with
  | ind j ih =>
    intro hj f hf
    obtain ⟨f', rfl⟩ : ∃ f', f = f' + 1 := ⟨f - 1, by omega⟩
    show (if nI j = s then -v else if j < 5 then S j else tp_g (kd j) (tp_F kd xs ys S s v f' (xs j).toNatClampNeg) (tp_F kd xs ys S s v f' (ys j).toNatClampNeg)) = (if nI j = s then -v else if j < 5 then S j else tp_g (kd j) (tp_F kd xs ys S s v j (xs j).toNatClampNeg) (tp_F kd xs ys S s v j (ys j).toNatClampNeg))
    by_cases h5 : j < 5
    · simp only [if_pos h5]
    · obtain ⟨⟨_, hc⟩, _, _, hg⟩ := R
      obtain ⟨a, b, d, ⟨ha, hb, _⟩, ⟨ea, eb, _⟩, _⟩ := hg j (by omega) hj
      have ca : (xs j).toNatClampNeg = a := by rw [ea]; exact nI_clamp (by omega)
      have cb : (ys j).toNatClampNeg = b := by rw [eb]; exact nI_clamp (by omega)
      rw [ca, cb, ih a ha (by omega) f' (by omega), ih b hb (by omega) f' (by omega), ih a ha (by omega) j ha, ih b hb (by omega) j hb]
/-- t is such a table -/
def tp_L (c : Nat) (kd xs ys S : Nat → Int32) (s v : Int32) (t : Nat → Int32) : Prop :=
  ∀ j, j < c → t j = if nI j = s then -v else if j < 5 then S j else tp_g (kd j) (t (xs j).toNatClampNeg) (t (ys j).toNatClampNeg)
theorem tp_LT {c : Nat} {kd xs ys yr S : Nat → Int32} {s v : Int32} (R : tp_R c kd xs ys yr S) : tp_L c kd xs ys S s v (tp_T kd xs ys S s v) := by
  intro j hj
  show (if nI j = s then -v else if j < 5 then S j else tp_g (kd j) (tp_F kd xs ys S s v j (xs j).toNatClampNeg) (tp_F kd xs ys S s v j (ys j).toNatClampNeg)) = _
  by_cases h5 : j < 5
  · simp only [if_pos h5]
  · obtain ⟨a, b, d, ⟨ha, hb, _⟩, ⟨ea, eb, _⟩, _⟩ := R.2.2.2 j (by omega) hj
    have hc := R.1.2
    have ca : (xs j).toNatClampNeg = a := by rw [ea]; exact nI_clamp (by omega)
    have cb : (ys j).toNatClampNeg = b := by rw [eb]; exact nI_clamp (by omega)
    rw [ca, cb, tp_Fst R a (by omega) j ha, tp_Fst R b (by omega) j hb]
theorem tp_LS {c : Nat} {kd xs ys yr S : Nat → Int32} {v : Int32} (R : tp_R c kd xs ys yr S) : tp_L c kd xs ys S (-1) v S := by
  intro j hj
  have hc := R.1.2
  rw [if_neg (tp_nn j (by omega))]
  by_cases h5 : j < 5
  · rw [if_pos h5]
  · obtain ⟨a, b, d, ⟨ha, hb, _⟩, ⟨ea, eb, _⟩, _, e⟩ := R.2.2.2 j (by omega) hj
    rw [if_neg h5, ea, eb, nI_clamp (show a < 2 ^ 31 by omega), nI_clamp (show b < 2 ^ 31 by omega)]
    exact e
theorem tp_Xstep {c : Nat} {kd xs ys yr S t fa : Nat → Int32} {s v : Int32} (R : tp_R c kd xs ys yr S) (hL : tp_L c kd xs ys S s v t) {j : Nat} (hj : j < c) (ag : ∀ i, i < j → fa i = t i) :
    (if nI j = s then -v else if j < 5 then S j else tp_g (kd j) (fa (xs j).toNatClampNeg) (fa (ys j).toNatClampNeg)) = t j := by
  rw [hL j hj]
  by_cases h5 : j < 5
  · simp only [if_pos h5]
  · obtain ⟨a, b, d, ⟨ha, hb, _⟩, ⟨ea, eb, _⟩, _⟩ := R.2.2.2 j (by omega) hj
    have hc := R.1.2
    have ca : (xs j).toNatClampNeg = a := by rw [ea]; exact nI_clamp (by omega)
    have cb : (ys j).toNatClampNeg = b := by rw [eb]; exact nI_clamp (by omega)
    rw [ca, cb, ag a ha, ag b hb]
theorem tp_Ystep {c : Nat} {kd xs ys yr S t va : Nat → Int32} {s v : Int32} {n : Nat} (R : tp_R c kd xs ys yr S) (hL : tp_L c kd xs ys S s v t) (hv : v = 0 ∨ v = 1) (hn : n < 32) {j : Nat} (hj : j < c) (ag : ∀ i, i < j → va i = tp_b (bt (t i) n)) :
    (if nI j = s then v else if j < 5 then tp_b (bt (nI n) j) else tp_h (kd j) (va (xs j).toNatClampNeg) (va (yr j).toNatClampNeg)) = tp_b (bt (t j) n) := by
  rw [hL j hj]
  by_cases hs : nI j = s
  · rw [if_pos hs, if_pos hs]
    exact tp_neg hv hn
  rw [if_neg hs, if_neg hs]
  by_cases h5 : j < 5
  · rw [if_pos h5, if_pos h5, R.2.1 j h5 n hn]
  · obtain ⟨a, b, d, ⟨ha, hb, hd⟩, ⟨ea, eb, ed⟩, h5k, _⟩ := R.2.2.2 j (by omega) hj
    have hc := R.1.2
    have ca : (xs j).toNatClampNeg = a := by rw [ea]; exact nI_clamp (by omega)
    have cb : (ys j).toNatClampNeg = b := by rw [eb]; exact nI_clamp (by omega)
    have cd : (yr j).toNatClampNeg = d := by rw [ed]; exact nI_clamp (by omega)
    rw [if_neg h5, if_neg h5, ca, cb, cd, ag a ha, ag d hd]
    by_cases k5 : kd j = 5
    · rw [k5, tp_h5 _ _ (tp_b (bt (t b) n)), tp_gh _ _ _ hn]
    · rw [h5k k5, tp_gh _ _ _ hn]
end
section
/-! pure: the vectors that show a fault; least, count, best -/
/-- X: the vectors showing, after n lines (w: watched; t: tables beside the fault) -/
def tp_S (w : Int32) (S t : Nat → Int32) : Nat → Int32
  | 0 => 0
  | n + 1 => if bt w n = true then tp_S w S t n ||| (t n ^^^ S n) else tp_S w S t n
/-- Y: the watched lines that are 1 with vector k, after n lines -/
def tp_O (w : Int32) (t : Nat → Int32) (k : Nat) : Nat → Int32
  | 0 => 0
  | n + 1 => tp_O w t k n ||| (tp_b (bt w n && bt (t n) k) <<< (nI n &&& 31))
/-- whether vector k tells t and S apart on the first n lines -/
def tp_D (w : Int32) (S t : Nat → Int32) (k : Nat) : Nat → Bool
  | 0 => false
  | n + 1 => tp_D w S t k n || (bt w n && (bt (t n) k ^^ bt (S n) k))
theorem tp_Sbit (w : Int32) (S t : Nat → Int32) (k : Nat) : ∀ n, bt (tp_S w S t n) k = tp_D w S t k n := by
  intro n
  induction n with
  | zero => exact b_0 k
  | succ n ih =>
    show bt (if bt w n = true then tp_S w S t n ||| (t n ^^^ S n) else tp_S w S t n) k = (tp_D w S t k n || (bt w n && (bt (t n) k ^^ bt (S n) k)))
    by_cases h : bt w n = true
    · rw [if_pos h, b_or, b_xor, ih, h, Bool.true_and]
    · rw [if_neg h, ih, Bool.eq_false_iff.mpr h, Bool.false_and, Bool.or_false]
theorem tp_Obit (w : Int32) (t : Nat → Int32) (k : Nat) : ∀ n, n ≤ 32 → ∀ i, i < 32 → bt (tp_O w t k n) i = (decide (i < n) && (bt w i && bt (t i) k)) := by
  intro n
  induction n with
  | zero => intro _ i _; rw [decide_eq_false (Nat.not_lt_zero i), Bool.false_and]; exact b_0 i
  | succ n ih =>
    intro hn i hi
    show bt (tp_O w t k n ||| (tp_b (bt w n && bt (t n) k) <<< (nI n &&& 31))) i = _
    rw [b_or, ih (by omega) i hi, tp_shl _ n (by omega) i hi]
    by_cases e : i = n
    · subst e
      rw [decide_eq_false (Nat.lt_irrefl i), decide_eq_true (show i = i from rfl), decide_eq_true (show i < i + 1 by omega), Bool.false_and, Bool.false_or, Bool.and_true, Bool.true_and]
    · rw [decide_eq_false e, Bool.and_false, Bool.or_false]
      by_cases h : i < n
      · rw [decide_eq_true h, decide_eq_true (show i < n + 1 by omega)]
      · rw [decide_eq_false h, decide_eq_false (show ¬ i < n + 1 by omega)]
theorem tp_Df (w : Int32) (S t : Nat → Int32) (k : Nat) : ∀ n, tp_D w S t k n = false ↔ ∀ i, i < n → (bt w i && bt (t i) k) = (bt w i && bt (S i) k) := by
  intro n
  induction n with
  | zero => exact ⟨fun _ i h => absurd h (Nat.not_lt_zero i), fun _ => rfl⟩
  | succ n ih =>
    show (tp_D w S t k n || (bt w n && (bt (t n) k ^^ bt (S n) k))) = false ↔ _
    rw [Bool.or_eq_false_iff, ih]
    constructor
    · intro ⟨h1, h2⟩ i hi
      by_cases e : i = n
      · subst e
        revert h2
        cases bt w i <;> cases bt (t i) k <;> cases bt (S i) k <;> decide
      · exact h1 i (by omega)
    · intro h
      refine ⟨fun i hi => h i (by omega), ?_⟩
      have h2 := h n (by omega)
      revert h2
      cases bt w n <;> cases bt (t n) k <;> cases bt (S n) k <;> decide
theorem tp_OD (w : Int32) (S t : Nat → Int32) (k n : Nat) (hn : n ≤ 32) : tp_O w t k n = tp_O w S k n ↔ tp_D w S t k n = false := by
  rw [tp_Df]
  constructor
  · intro e i hi
    have h : bt (tp_O w t k n) i = bt (tp_O w S k n) i := by rw [e]
    rw [tp_Obit w t k n hn i (by omega), tp_Obit w S k n hn i (by omega), decide_eq_true hi, Bool.true_and, Bool.true_and] at h
    exact h
  · intro h
    apply b_ext
    intro i hi
    rw [tp_Obit w t k n hn i hi, tp_Obit w S k n hn i hi]
    by_cases e : i < n
    · rw [h i e]
    · rw [decide_eq_false e, Bool.false_and, Bool.false_and]
/-- the vectors that show 's stuck at v' -/
def tp_V (c : Nat) (w : Int32) (kd xs ys S : Nat → Int32) (s v : Int32) : Int32 := tp_S w S (tp_T kd xs ys S s v) c
theorem tp_VO {c : Nat} (w : Int32) (kd xs ys S : Nat → Int32) (s v : Int32) (k : Nat) (hc : c ≤ 16) : tp_O w (tp_T kd xs ys S s v) k c = tp_O w S k c ↔ bt (tp_V c w kd xs ys S s v) k = false := by
  rw [tp_OD w S _ k c (by omega), tp_V, tp_Sbit]
theorem tp_z (x : Int32) : x = 0 ↔ ∀ k, k < 32 → bt x k = false := by
  constructor
  · intro e k _; rw [e]; exact b_0 k
  · intro h; apply b_ext; intro i hi; rw [h i hi, b_0]
/-- the least k from k0 on with P, of m tried; else -1 -/
def tp_f (P : Nat → Bool) : Nat → Nat → Int32
  | 0, _ => -1
  | m + 1, k => if P k = true then nI k else tp_f P m (k + 1)
theorem tp_f_eq (P Q : Nat → Bool) : ∀ m k, (∀ j, k ≤ j → j < k + m → P j = Q j) → tp_f P m k = tp_f Q m k := by
  intro m
  induction m with
  | zero => intro k _; rfl
  | succ m ih =>
    intro k h
    show (if P k = true then nI k else tp_f P m (k + 1)) = (if Q k = true then nI k else tp_f Q m (k + 1))
    rw [h k (by omega) (by omega), ih (k + 1) (fun j h1 h2 => h j (by omega) (by omega))]
theorem tp_f_add (P : Nat → Bool) (m : Nat) : ∀ a k, (∀ j, k ≤ j → j < k + a → P j = false) → tp_f P (m + a) k = tp_f P m (k + a) := by
  intro a
  induction a with
  | zero => intro k _; rfl
  | succ a ih =>
    intro k h
    show (if P k = true then nI k else tp_f P (m + a) (k + 1)) = _
    rw [if_neg (by rw [h k (by omega) (by omega)]; decide), ih (k + 1) (fun j h1 h2 => h j (by omega) (by omega)), show k + 1 + a = k + (a + 1) by omega]
theorem tp_f_neg (P : Nat → Bool) : ∀ m k, k + m ≤ 32 → (tp_f P m k < 0 ↔ ∀ j, k ≤ j → j < k + m → P j = false) := by
  intro m
  induction m with
  | zero => intro k _; exact ⟨fun _ j h1 h2 => absurd h2 (by omega), fun _ => (by decide : (-1 : Int32) < 0)⟩
  | succ m ih =>
    intro k hk
    show (if P k = true then nI k else tp_f P m (k + 1)) < 0 ↔ _
    by_cases h : P k = true
    · rw [if_pos h]
      exact ⟨fun z => absurd z (nI_pos (by omega)), fun z => absurd h (by rw [z k (by omega) (by omega)]; decide)⟩
    · rw [if_neg h, ih (k + 1) (by omega)]
      constructor
      · intro z j h1 h2
        by_cases e : j = k
        · rw [e]; exact Bool.eq_false_iff.mpr h
        · exact z j (by omega) (by omega)
      · intro z j h1 h2
        exact z j (by omega) (by omega)
theorem tp_f_z (x : Int32) : tp_f (bt x) 32 0 < 0 ↔ x = 0 := by
  rw [tp_f_neg (bt x) 32 0 (by omega), tp_z]
  exact ⟨fun h k hk => h k (by omega) (by omega), fun h k _ hk => h k (by omega)⟩
/-- a count over lines of two kinds -/
def tp_N (A B : Nat → Bool) : Nat → Nat
  | 0 => 0
  | n + 1 => tp_N A B n + (A n).toNat + (B n).toNat
theorem tp_N_le (A B : Nat → Bool) : ∀ n, tp_N A B n ≤ 2 * n := by
  intro n
  induction n with
  | zero => exact Nat.le_refl 0
  | succ n ih =>
    have h1 := Bool.toNat_le (A n)
    have h2 := Bool.toNat_le (B n)
    show tp_N A B n + (A n).toNat + (B n).toNat ≤ 2 * (n + 1)
    omega
theorem tp_N_s (A B : Nat → Bool) (n : Nat) : nI (tp_N A B n) + tp_b (A n) + tp_b (B n) = nI (tp_N A B (n + 1)) := by
  rw [tp_bn, tp_bn, nI_add, nI_add]; rfl
/-- a plain count -/
def tp_C (A : Nat → Bool) : Nat → Nat
  | 0 => 0
  | n + 1 => tp_C A n + (A n).toNat
theorem tp_C_s (A : Nat → Bool) (n : Nat) : nI (tp_C A n) + tp_b (A n) = nI (tp_C A (n + 1)) := by
  rw [tp_bn, nI_add]; rfl
/-- the first place of the greatest count among 0 .. n, and that count -/
def tp_B (f : Nat → Nat) : Nat → Nat × Nat
  | 0 => (0, f 0)
  | n + 1 => if (tp_B f n).2 < f (n + 1) then (n + 1, f (n + 1)) else tp_B f n
theorem tp_B_le (f : Nat → Nat) (M : Nat) (h : ∀ k, f k ≤ M) : ∀ n, (tp_B f n).2 ≤ M := by
  intro n
  induction n with
  | zero => exact h 0
  | succ n ih =>
    show (if (tp_B f n).2 < f (n + 1) then (n + 1, f (n + 1)) else tp_B f n).2 ≤ M
    by_cases z : (tp_B f n).2 < f (n + 1)
    · rw [if_pos z]; exact h (n + 1)
    · rw [if_neg z]; exact ih
end
section
/-! pure: what gate and drop keep -/
theorem tp_Rgate {c : Nat} {kd xs ys yr S : Nat → Int32} (R : tp_R c kd xs ys yr S) (hc : c < 16) (kind : Int32) {a b d : Nat} (ha : a < c) (hb : b < c) (hd : d < c) (hk : kind ≠ 5 → d = b) :
    tp_R (c + 1) (upd kd c kind) (upd xs c (nI a)) (upd ys c (nI b)) (upd yr c (nI d)) (upd S c (tp_g kind (S a) (S b))) := by
  have h5 := R.1.1
  refine ⟨⟨by omega, by omega⟩, fun i hi k hk => ?_, fun i hi => ?_, fun i h5 hi => ?_⟩
  · rw [pk_un (by omega)]; exact R.2.1 i hi k hk
  · rw [pk_un (by omega), pk_un (by omega)]; exact R.2.2.1 i hi
  · by_cases e : i = c
    · subst e
      refine ⟨a, b, d, ⟨ha, hb, hd⟩, ⟨pk_us, pk_us, pk_us⟩, ?_, ?_⟩
      · rw [pk_us]; exact hk
      · rw [pk_us, pk_us, pk_un (by omega), pk_un (by omega)]
    · obtain ⟨a', b', d', ⟨ha', hb', hd'⟩, ⟨ea, eb, ed⟩, hk', hS⟩ := R.2.2.2 i h5 (by omega)
      refine ⟨a', b', d', ⟨ha', hb', hd'⟩, ⟨?_, ?_, ?_⟩, ?_, ?_⟩
      · rw [pk_un e]; exact ea
      · rw [pk_un e]; exact eb
      · rw [pk_un e]; exact ed
      · rw [pk_un e]; exact hk'
      · rw [pk_un e, pk_un e, pk_un (by omega), pk_un (by omega)]; exact hS
theorem tp_Rdrop {c : Nat} {kd xs ys yr S : Nat → Int32} (R : tp_R (c + 1) kd xs ys yr S) (h : 5 ≤ c) : tp_R c kd xs ys yr S :=
  ⟨⟨h, by have := R.1.2; omega⟩, R.2.1, R.2.2.1, fun i h5 hi => R.2.2.2 i h5 (by omega)⟩
end
section
/-! X: tests, gate tables, vectorsShowing, each with a general post -/
theorem tp_10 : ¬ (1 : Int32) = 0 := by decide
theorem tp_g_d {k x y : Int32} (h0 : ¬ k = 0) (h1 : ¬ k = 1) (h2 : ¬ k = 2) (h3 : ¬ k = 3) (h4 : ¬ k = 4) : tp_g k x y = x ^^^ (-1) := by
  unfold tp_g
  rw [if_neg h0, if_neg h1, if_neg h2, if_neg h3, if_neg h4]
theorem tx_gt {post : Int32 → Prop} {k x y : Int32} (h : post (tp_g k x y)) : wpX_gateTable post k x y := by
  refine ⟨fun hn => ?_, fun _ => ⟨fun h4 => ?_, fun _ => ⟨fun e => ?_, fun n0 => ⟨fun e => ?_, fun n1 => ⟨fun e => ?_, fun n2 => ⟨fun e => ?_, fun n3 => ⟨fun e => ?_, fun n4 => trivial⟩⟩⟩⟩⟩⟩⟩
  · rw [tp_g_d (fun e => by subst e; exact absurd hn (by decide)) (fun e => by subst e; exact absurd hn (by decide)) (fun e => by subst e; exact absurd hn (by decide)) (fun e => by subst e; exact absurd hn (by decide)) (fun e => by subst e; exact absurd hn (by decide))] at h
    exact h
  · rw [tp_g_d (fun e => by subst e; exact absurd h4 (by decide)) (fun e => by subst e; exact absurd h4 (by decide)) (fun e => by subst e; exact absurd h4 (by decide)) (fun e => by subst e; exact absurd h4 (by decide)) (fun e => by subst e; exact absurd h4 (by decide))] at h
    exact h
  · subst e; exact h
  · subst e; exact h
  · subst e; exact h
  · subst e; exact h
  · subst e; exact h
theorem tx_isL_t {post : Int32 → Prop} {c j : Nat} {w : Int32} {kd xs ys S fa : Nat → Int32} (hj : j < c) (hc : c ≤ 16) (h : post 1) : wpX_isLine post (nI c, w, kd, xs, ys, S, fa) (nI j) :=
  br_f (nI_pos (by omega)) (br_f (nI_ge hj (by omega)) h)
theorem tx_isL_f {post : Int32 → Prop} {c : Nat} {x w : Int32} {kd xs ys S fa : Nat → Int32} (hn : ¬ ∃ j : Nat, j < c ∧ x = nI j) (hc : c ≤ 16) (h : post 0) : wpX_isLine post (nI c, w, kd, xs, ys, S, fa) x := by
  by_cases z : x < 0
  · exact br_t z h
  · rcases pk_ix x (n := c) (by omega) with h1 | h1 | h1
    · exact absurd h1 z
    · exact br_f z (br_t h1 h)
    · exact absurd h1 hn
theorem tx_isV_t {post : Int32 → Prop} {k : Nat} (hk : k < 32) (h : post 1) : wpX_isVector post (nI k) :=
  br_f (nI_pos (by omega)) (br_f (nI_ge (b := 32) hk (by decide)) h)
theorem tx_isV_f {post : Int32 → Prop} {x : Int32} (hn : ¬ ∃ k : Nat, k < 32 ∧ x = nI k) (h : post 0) : wpX_isVector post x := by
  by_cases z : x < 0
  · exact br_t z h
  · rcases pk_ix x (n := 32) (by decide) with h1 | h1 | h1
    · exact absurd h1 z
    · exact br_f z (br_t h1 h)
    · exact absurd h1 hn
theorem tx_isS_t {post : Int32 → Prop} {v : Int32} (hv : v = 0 ∨ v = 1) (h : post 1) : wpX_isStuckValue post v := by
  by_cases z : v = 0
  · exact br_t z h
  · exact br_f z (br_t (hv.resolve_left z) h)
theorem tx_isS_f {post : Int32 → Prop} {v : Int32} (hv : ¬ (v = 0 ∨ v = 1)) (h : post 0) : wpX_isStuckValue post v :=
  br_f (fun z => hv (Or.inl z)) (br_f (fun z => hv (Or.inr z)) h)
theorem tx_isF_t {post : Int32 → Prop} {c j : Nat} {v w : Int32} {kd xs ys S fa : Nat → Int32} (hj : j < c) (hc : c ≤ 16) (hv : v = 0 ∨ v = 1) (h : post 1) : wpX_isFault post (nI c, w, kd, xs, ys, S, fa) (nI j) v := by
  unfold wpX_isFault
  dsimp only
  exact tx_isL_t hj hc (br_f tp_10 (tx_isS_t hv (br_f tp_10 h)))
theorem tx_isF_f {post : Int32 → Prop} {c : Nat} {x v w : Int32} {kd xs ys S fa : Nat → Int32} (hn : ¬ ((∃ j : Nat, j < c ∧ x = nI j) ∧ (v = 0 ∨ v = 1))) (hc : c ≤ 16) (h : post 0) : wpX_isFault post (nI c, w, kd, xs, ys, S, fa) x v := by
  unfold wpX_isFault
  dsimp only
  by_cases hl : ∃ j : Nat, j < c ∧ x = nI j
  · obtain ⟨j, hj, rfl⟩ := hl
    exact tx_isL_t hj hc (br_f tp_10 (tx_isS_f (fun z => hn ⟨⟨j, hj, rfl⟩, z⟩) (br_t rfl h)))
  · exact tx_isL_f hl hc (br_t rfl h)
theorem tx_hb_t {post : Int32 → Prop} {x : Int32} {n : Nat} (hn : n < 32) (hb : bt x n = true) (h : post 1) : wpX_hasBit post x (nI n) := by
  have e := tp_ush x n hn
  rw [hb] at e
  exact br_t e h
theorem tx_hb_f {post : Int32 → Prop} {x : Int32} {n : Nat} (hn : n < 32) (hb : bt x n = false) (h : post 0) : wpX_hasBit post x (nI n) := by
  have e := tp_ush x n hn
  rw [hb] at e
  exact br_f (by rw [e]; decide) h
theorem tx_tb {post : Int32 → Prop} {c j : Nat} {w s v : Int32} {kd xs ys yr S t fa : Nat → Int32} (R : tp_R c kd xs ys yr S) (hL : tp_L c kd xs ys S s v t) (hj : j < c) (hs : ¬ nI j = s) (ag : ∀ i, i < j → fa i = t i) (h : post (t j)) : wpX_tableBesideFault post (nI c, w, kd, xs, ys, S, fa) (nI j) := by
  have hc := R.1.2
  have e := tp_Xstep R hL hj ag
  rw [if_neg hs] at e
  have cj : (nI j).toNatClampNeg = j := nI_clamp (by omega)
  have ij : vp_in (nI j) 16 := vp_in_nI (by omega) (by decide)
  by_cases h5 : j < 5
  · rw [if_pos h5] at e
    refine br_f (nI_ge (b := 5) h5 (by decide)) ⟨ij, ?_⟩
    rw [cj, e]
    exact h
  · rw [if_neg h5] at e
    obtain ⟨a, b, d, ⟨ha, hb, hd⟩, ⟨ea, eb, ed⟩, _⟩ := R.2.2.2 j (by omega) hj
    refine br_t (nI_le (a := 5) (by omega) (by omega)) ?_
    rw [cj]
    refine ⟨ij, ij, ?_, ij, ?_, ?_⟩
    · rw [ea]; exact vp_in_nI (by omega) (by decide)
    · rw [eb]; exact vp_in_nI (by omega) (by decide)
    · refine tx_gt ?_
      show post _
      rw [e]
      exact h
theorem tx_vs5 {post : Int32 → SX → Prop} {c : Nat} {w s v : Int32} {kd xs ys yr S t : Nat → Int32} (R : tp_R c kd xs ys yr S) (hL : tp_L c kd xs ys S s v t) (hp : ∀ fa', post (tp_S w S t c) (nI c, w, kd, xs, ys, S, fa')) :
    ∀ (d j : Nat) (fa : Nat → Int32), j + d = c → (∀ i, i < j → fa i = t i) → wX_vectorsShowing_5 post s v (nI c) w (d + 1) (tp_S w S t j) (nI j) kd xs ys S fa := by
  have hc := R.1.2
  intro d
  induction d with
  | zero =>
    intro j fa hj ag
    have e : j = c := by omega
    rw [e]
    exact br_t (nI_le (by omega) (by omega)) (hp fa)
  | succ d ih =>
    intro j fa hj ag
    have hjc : j < c := by omega
    have cj : (nI j).toNatClampNeg = j := nI_clamp (by omega)
    have ij : vp_in (nI j) 16 := vp_in_nI (by omega) (by decide)
    have ag' : ∀ i, i < j + 1 → upd fa j (t j) i = t i := by
      intro i hi
      by_cases e : i = j
      · subst e; exact pk_us
      · rw [pk_un e]; exact ag i (by omega)
    have h := ih (j + 1) (upd fa j (t j)) (by omega) ag'
    have key : ∀ z, z = t j → wX_vectorsShowing_37 post (wX_vectorsShowing_5 post s v (nI c) w (d + 1)) s v (tp_S w S t j) (nI j) z (nI j) (nI c) w kd xs ys S fa := by
      intro z hz
      subst hz
      refine ⟨ij, ?_⟩
      rw [cj]
      refine nm_e ?_
      cases hb : bt w j with
      | false =>
        rw [show tp_S w S t (j + 1) = tp_S w S t j by rw [tp_S, if_neg (by rw [hb]; decide)]] at h
        exact tx_hb_f (by omega) hb (br_t rfl (nm_r (nI_1 j) h))
      | true =>
        rw [show tp_S w S t (j + 1) = tp_S w S t j ||| (t j ^^^ S j) by rw [tp_S, if_pos hb]] at h
        exact tx_hb_t (by omega) hb (br_f tp_10 ⟨ij, ij, nm_r (by rw [pk_us]) (nm_r (nI_1 j) h)⟩)
    refine br_f (nI_ge hjc (by omega)) ?_
    by_cases hs : nI j = s
    · refine br_t hs (key _ ?_)
      have e := tp_Xstep R hL hjc ag
      rw [if_pos hs] at e
      exact e
    · exact br_f hs (tx_tb R hL hjc hs ag (key _ rfl))
theorem tx_vs {post : Int32 → SX → Prop} {c : Nat} {w s v : Int32} {kd xs ys yr S fa : Nat → Int32} (R : tp_R c kd xs ys yr S) (hp : ∀ fa', post (tp_V c w kd xs ys S s v) (nI c, w, kd, xs, ys, S, fa')) : wpX_vectorsShowing post (nI c, w, kd, xs, ys, S, fa) s v :=
  ⟨c + 1, tx_vs5 R (tp_LT R) hp c 0 fa (by omega) (fun i hi => absurd hi (Nat.not_lt_zero i))⟩
end
section
/-! Y: tests, work, shows, each with a general post -/
theorem ty_is_t {post : Int32 → Prop} {c j : Nat} {w : Int32} {kd xs yr va : Nat → Int32} (hj : j < c) (hc : c ≤ 16) (h : post 1) : wpY_is post (nI c, w, kd, xs, yr, va) (nI j) :=
  br_f (nI_pos (by omega)) (br_f (nI_ge hj (by omega)) h)
theorem ty_is_f {post : Int32 → Prop} {c : Nat} {x w : Int32} {kd xs yr va : Nat → Int32} (hn : ¬ ∃ j : Nat, j < c ∧ x = nI j) (hc : c ≤ 16) (h : post 0) : wpY_is post (nI c, w, kd, xs, yr, va) x := by
  by_cases z : x < 0
  · exact br_t z h
  · rcases pk_ix x (n := c) (by omega) with h1 | h1 | h1
    · exact absurd h1 z
    · exact br_f z (br_t h1 h)
    · exact absurd h1 hn
theorem ty_vec_t {post : Int32 → Prop} {k : Nat} {u : SY} (hk : k < 32) (h : post 1) : wpY_vector post u (nI k) :=
  br_f (nI_pos (by omega)) (br_f (nI_nlt (a := 31) (by omega) (by decide)) h)
theorem tp_31 {x : Int32} (h : nI 32 ≤ x) : (31 : Int32) < x := by
  rw [Int32.le_iff_toInt_le, nI_toInt (by decide)] at h
  rw [Int32.lt_iff_toInt_lt, show (31 : Int32).toInt = 31 from by decide]
  omega
theorem ty_vec_f {post : Int32 → Prop} {x : Int32} {u : SY} (hn : ¬ ∃ k : Nat, k < 32 ∧ x = nI k) (h : post 0) : wpY_vector post u x := by
  by_cases z : x < 0
  · exact br_t z h
  · rcases pk_ix x (n := 32) (by decide) with h1 | h1 | h1
    · exact absurd h1 z
    · exact br_f z (br_t (tp_31 h1) h)
    · exact absurd h1 hn
theorem tp_hc {P : Int32 → Prop} {k x y : Int32} (h : P (tp_h k x y)) : ((k = 0 → (P (x &&& y))) ∧ (¬ k = 0 → (((k = 1 → (P (x ||| y))) ∧ (¬ k = 1 → (((k = 2 → (P (x ^^^ y))) ∧ (¬ k = 2 → (((k = 3 → (P (1 - (x &&& y)))) ∧ (¬ k = 3 → (((k = 4 → (P (1 - (x ||| y)))) ∧ (¬ k = 4 → (P (1 - x)))))))))))))))) := by
  refine ⟨fun e => ?_, fun n0 => ⟨fun e => ?_, fun n1 => ⟨fun e => ?_, fun n2 => ⟨fun e => ?_, fun n3 => ⟨fun e => ?_, fun n4 => ?_⟩⟩⟩⟩⟩
  · subst e; exact h
  · subst e; exact h
  · subst e; exact h
  · subst e; exact h
  · subst e; exact h
  · unfold tp_h at h
    rw [if_neg n0, if_neg n1, if_neg n2, if_neg n3, if_neg n4] at h
    exact h
theorem ty_in {c j : Nat} {kd xs ys yr S : Nat → Int32} (R : tp_R c kd xs ys yr S) (hj : j < c) : vp_in (xs j) 16 ∧ vp_in (yr j) 16 := by
  have hc := R.1.2
  by_cases h5 : j < 5
  · rw [(R.2.2.1 j h5).1, (R.2.2.1 j h5).2]
    exact ⟨vp_in_nI (n := 0) (by decide) (by decide), vp_in_nI (n := 0) (by decide) (by decide)⟩
  · obtain ⟨a, b, d, ⟨ha, hb, hd⟩, ⟨ea, eb, ed⟩, _⟩ := R.2.2.2 j (by omega) hj
    rw [ea, ed]
    exact ⟨vp_in_nI (by omega) (by decide), vp_in_nI (by omega) (by decide)⟩
theorem ty_work6 {post : Int32 → SY → Prop} {c k : Nat} {w s v : Int32} {kd xs ys yr S t : Nat → Int32} (R : tp_R c kd xs ys yr S) (hL : tp_L c kd xs ys S s v t) (hv : v = 0 ∨ v = 1) (hk : k < 32) (hp : ∀ va', (∀ i, i < c → va' i = tp_b (bt (t i) k)) → post (tp_O w t k c) (nI c, w, kd, xs, yr, va')) :
    ∀ (d j : Nat) (va : Nat → Int32), j + d = c → (∀ i, i < j → va i = tp_b (bt (t i) k)) → wY_work_6 post (nI k) s v (nI c) w (d + 1) (tp_O w t k j) (nI j) kd xs yr va := by
  have hc := R.1.2
  intro d
  induction d with
  | zero =>
    intro j va hj ag
    have e : j = c := by omega
    rw [e] at ag ⊢
    exact br_t (nI_le (by omega) (by omega)) (hp va ag)
  | succ d ih =>
    intro j va hj ag
    have hjc : j < c := by omega
    have cj : (nI j).toNatClampNeg = j := nI_clamp (by omega)
    have ij : vp_in (nI j) 16 := vp_in_nI (by omega) (by decide)
    have ag' : ∀ i, i < j + 1 → upd va j (tp_b (bt (t j) k)) i = tp_b (bt (t i) k) := by
      intro i hi
      by_cases e : i = j
      · subst e; exact pk_us
      · rw [pk_un e]; exact ag i (by omega)
    have h := ih (j + 1) (upd va j (tp_b (bt (t j) k))) (by omega) ag'
    have e := tp_Ystep R hL hv hk hjc ag
    have key : ∀ z, z = tp_b (bt (t j) k) → wY_work_164 post (wY_work_6 post (nI k) s v (nI c) w (d + 1)) (nI k) s v (tp_O w t k j) (nI j) z (nI j) (nI c) w kd xs yr va := by
      intro z hz
      subst hz
      refine ⟨ij, ?_⟩
      rw [cj]
      refine nm_e ⟨ij, nm_r (e' := tp_O w t k (j + 1)) ?_ (nm_r (nI_1 j) h)⟩
      rw [tp_ssh w j (by omega), pk_us, tp_band]
      rfl
    have key2 : ∀ z, (¬ nI j = s → z = tp_b (bt (t j) k)) → wY_work_144 post (wY_work_6 post (nI k) s v (nI c) w (d + 1)) (nI k) s v (tp_O w t k j) (nI j) z (nI c) w kd xs yr va := by
      intro z hz
      by_cases hs : nI j = s
      · rw [if_pos hs] at e
        exact br_t hs (key v e)
      · exact br_f hs (key z (hz hs))
    refine br_f (nI_ge hjc (by omega)) ?_
    rw [cj]
    refine ⟨ij, (ty_in R hjc).1, nm_e ⟨ij, (ty_in R hjc).2, nm_e ⟨ij, nm_e ?_⟩⟩⟩
    by_cases h5 : j < 5
    · refine br_f (nI_ge (b := 5) h5 (by decide)) (key2 _ (fun hs => ?_))
      rw [if_neg hs, if_pos h5] at e
      rw [tp_ssh (nI k) j (by omega)]
      exact e
    · refine br_t (nI_le (a := 5) (by omega) (by omega)) ?_
      refine tp_hc (P := fun z => wY_work_144 post (wY_work_6 post (nI k) s v (nI c) w (d + 1)) (nI k) s v (tp_O w t k j) (nI j) z (nI c) w kd xs yr va) (key2 _ (fun hs => ?_))
      rw [if_neg hs, if_neg h5] at e
      exact e
theorem ty_work {post : Int32 → SY → Prop} {c k : Nat} {w s v : Int32} {kd xs ys yr S t va : Nat → Int32} (R : tp_R c kd xs ys yr S) (hL : tp_L c kd xs ys S s v t) (hv : v = 0 ∨ v = 1) (hk : k < 32) (hp : ∀ va', (∀ i, i < c → va' i = tp_b (bt (t i) k)) → post (tp_O w t k c) (nI c, w, kd, xs, yr, va')) :
    wpY_work post (nI c, w, kd, xs, yr, va) (nI k) s v :=
  ⟨c + 1, ty_work6 R hL hv hk hp c 0 va (by omega) (fun i hi => absurd hi (Nat.not_lt_zero i))⟩
theorem ty_shows_t {post : Int32 → SY → Prop} {c j k : Nat} {w v : Int32} {kd xs ys yr S va : Nat → Int32} (R : tp_R c kd xs ys yr S) (hj : j < c) (hv : v = 0 ∨ v = 1) (hk : k < 32) (hp : ∀ va', post (tp_b (bt (tp_V c w kd xs ys S (nI j) v) k)) (nI c, w, kd, xs, yr, va')) :
    wpY_shows post (nI c, w, kd, xs, yr, va) (nI k) (nI j) v := by
  have hc := R.1.2
  have key : wY_shows_17 post (nI k) (nI j) v (nI c) w kd xs yr va := by
    unfold wY_shows_17
    refine ty_vec_t hk (br_f tp_10 ?_)
    refine ty_work R (tp_LS R) (Or.inl rfl) hk (fun va1 _ => ?_)
    refine ty_work R (tp_LT R) hv hk (fun va2 _ => ?_)
    have h := hp va2
    have hO := tp_VO w kd xs ys S (nI j) v k hc
    cases hb : bt (tp_V c w kd xs ys S (nI j) v) k with
    | false =>
      rw [hb] at h
      exact br_t (hO.mpr hb) h
    | true =>
      rw [hb] at h
      exact br_f (fun z => by rw [hO.mp z] at hb; exact absurd hb (by decide)) h
  unfold wpY_shows
  dsimp only
  refine ty_is_t hj hc (br_f tp_10 ?_)
  by_cases z : v = 0
  · exact br_t z key
  · exact br_f z (br_t (hv.resolve_left z) key)
theorem ty_shows_f {post : Int32 → SY → Prop} {c : Nat} {x l w v : Int32} {kd xs yr va : Nat → Int32} (hc : c ≤ 16) (hn : ¬ ((∃ j : Nat, j < c ∧ l = nI j) ∧ (v = 0 ∨ v = 1) ∧ ∃ k : Nat, k < 32 ∧ x = nI k)) (hp : post 0 (nI c, w, kd, xs, yr, va)) :
    wpY_shows post (nI c, w, kd, xs, yr, va) x l v := by
  unfold wpY_shows
  dsimp only
  by_cases hl : ∃ j : Nat, j < c ∧ l = nI j
  · obtain ⟨j, hj, rfl⟩ := hl
    refine ty_is_t hj hc (br_f tp_10 ?_)
    have key : (v = 0 ∨ v = 1) → wY_shows_17 post x (nI j) v (nI c) w kd xs yr va := by
      intro hv
      unfold wY_shows_17
      exact ty_vec_f (fun z => hn ⟨⟨j, hj, rfl⟩, hv, z⟩) (br_t rfl hp)
    by_cases z : v = 0
    · exact br_t z (key (Or.inl z))
    · by_cases z1 : v = 1
      · exact br_f z (br_t z1 (key (Or.inr z1)))
      · exact br_f z (br_f z1 hp)
  · exact ty_is_f hl hc (br_t rfl hp)
theorem ty_value_t {post : Int32 → SY → Prop} {c j k : Nat} {w : Int32} {kd xs ys yr S va : Nat → Int32} (R : tp_R c kd xs ys yr S) (hj : j < c) (hk : k < 32) (hp : ∀ va', post (tp_b (bt (S j) k)) (nI c, w, kd, xs, yr, va')) :
    wpY_value post (nI c, w, kd, xs, yr, va) (nI j) (nI k) := by
  have hc := R.1.2
  unfold wpY_value
  dsimp only
  refine ty_is_t hj hc (br_f tp_10 (ty_vec_t hk (br_f tp_10 ?_)))
  refine ty_work R (tp_LS R) (Or.inl rfl) hk (fun va1 ag => ?_)
  refine ⟨vp_in_nI (by omega) (by decide), ?_⟩
  have h := hp va1
  rw [← ag j hj] at h
  rw [nI_clamp (show j < 2 ^ 31 by omega)]
  exact h
end
section
/-! testFrom, hidden, on both sides -/
/-- testFrom's answer out of the vectors V that show the fault -/
def tp_tf (V : Int32) (from' : Int32) : Int32 := tp_f (fun k => decide (¬ nI k < from') && bt V k) 32 0
theorem tx_tf34 {post : Int32 → SX → Prop} {c : Nat} {w V : Int32} {kd xs ys S fa : Nat → Int32} : ∀ d k : Nat, k + d = 32 → post (tp_f (bt V) d k) (nI c, w, kd, xs, ys, S, fa) → wX_testFrom_34 post V (nI c) w kd xs ys S fa (d + 1) (nI k) := by
  intro d
  induction d with
  | zero =>
    intro k hk hp
    exact br_t (nI_le (a := 32) (by omega) (by omega)) hp
  | succ d ih =>
    intro k hk hp
    refine br_f (nI_ge (b := 32) (by omega) (by decide)) ?_
    rw [tp_f] at hp
    cases hb : bt V k with
    | false =>
      rw [if_neg (by rw [hb]; decide)] at hp
      exact tx_hb_f (by omega) hb (br_t rfl (nm_r (nI_1 k) (ih (k + 1) (by omega) hp)))
    | true =>
      rw [if_pos hb] at hp
      exact tx_hb_t (by omega) hb (br_f tp_10 hp)
theorem tp_tf0 (V : Int32) : tp_tf V 0 = tp_f (bt V) 32 0 := by
  refine tp_f_eq _ _ 32 0 (fun j _ hj => ?_)
  show (decide (¬ nI j < 0) && bt V j) = bt V j
  rw [decide_eq_true (nI_pos (by omega)), Bool.true_and]
theorem tx_testFrom_t {post : Int32 → SX → Prop} {c j : Nat} {w v fr : Int32} {kd xs ys yr S fa : Nat → Int32} (R : tp_R c kd xs ys yr S) (hj : j < c) (hv : v = 0 ∨ v = 1) (hp : ∀ fa', post (tp_tf (tp_V c w kd xs ys S (nI j) v) fr) (nI c, w, kd, xs, ys, S, fa')) :
    wpX_testFrom post (nI c, w, kd, xs, ys, S, fa) (nI j) v fr := by
  have hc := R.1.2
  unfold wpX_testFrom
  dsimp only
  refine tx_isF_t hj hc hv (br_f tp_10 (tx_vs R (fun fa1 => ?_)))
  have h := hp fa1
  generalize tp_V c w kd xs ys S (nI j) v = V at h ⊢
  rcases pk_ix fr (n := 32) (by decide) with h1 | h1 | ⟨st, hst, rfl⟩
  · have e : tp_tf V fr = tp_f (bt V) 32 0 := by
      refine tp_f_eq _ _ 32 0 (fun i _ hi => ?_)
      show (decide (¬ nI i < fr) && bt V i) = bt V i
      rw [decide_eq_true (show ¬ nI i < fr from fun z => nI_pos (show i < 2 ^ 31 by omega) (Int32.lt_trans z h1)), Bool.true_and]
    rw [e] at h
    exact br_f (fun z => absurd h1 (Int32.not_lt.mpr z)) ⟨33, tx_tf34 32 0 (by omega) h⟩
  · have e : tp_tf V fr = -1 := by
      refine tp_f_add _ 0 32 0 (fun i _ hi => ?_)
      show (decide (¬ nI i < fr) && bt V i) = false
      have z : nI i < fr := by
        have h2 := nI_lt (show i < 32 by omega) (by decide)
        rw [Int32.lt_iff_toInt_lt] at h2 ⊢
        rw [Int32.le_iff_toInt_le] at h1
        omega
      rw [decide_eq_false (fun y => y z), Bool.false_and]
    rw [e] at h
    have h0 : (0 : Int32) ≤ fr := by
      rw [Int32.le_iff_toInt_le, nI_toInt (by decide)] at h1
      rw [Int32.le_iff_toInt_le, show (0 : Int32).toInt = 0 from by decide]
      omega
    exact br_t h0 ⟨1, br_t h1 h⟩
  · have e : tp_tf V (nI st) = tp_f (bt V) (32 - st) st := by
      have h2 := tp_f_add (fun k => decide (¬ nI k < nI st) && bt V k) (32 - st) st 0 (fun i _ hi => by
        show (decide (¬ nI i < nI st) && bt V i) = false
        rw [decide_eq_false (fun y => y (nI_lt (show i < st by omega) (by omega))), Bool.false_and])
      rw [show 32 - st + st = 32 by omega, Nat.zero_add] at h2
      refine h2.trans (tp_f_eq _ _ _ _ (fun i hi _ => ?_))
      show (decide (¬ nI i < nI st) && bt V i) = bt V i
      rw [decide_eq_true (nI_nlt (show st ≤ i by omega) (by omega)), Bool.true_and]
    rw [e] at h
    exact br_t (nI_pos' (by omega)) ⟨32 - st + 1, tx_tf34 (32 - st) st (by omega) h⟩
theorem ty_tf3 {post : Int32 → SY → Prop} {c j : Nat} {w v fr : Int32} {kd xs ys yr S : Nat → Int32} (R : tp_R c kd xs ys yr S) (hj : j < c) (hv : v = 0 ∨ v = 1) : ∀ (d k : Nat) (va : Nat → Int32), k + d = 32 → (∀ va', post (tp_f (fun k => decide (¬ nI k < fr) && bt (tp_V c w kd xs ys S (nI j) v) k) d k) (nI c, w, kd, xs, yr, va')) → wY_testFrom_3 post (nI j) v fr (d + 1) (nI k) (nI c) w kd xs yr va := by
  intro d
  induction d with
  | zero =>
    intro k va hk hp
    exact br_t (nI_le (a := 32) (by omega) (by omega)) (hp va)
  | succ d ih =>
    intro k va hk hp
    refine br_f (nI_ge (b := 32) (by omega) (by decide)) ?_
    by_cases hf : nI k < fr
    · refine br_t hf (nm_r (nI_1 k) (ih (k + 1) va (by omega) (fun va' => ?_)))
      have h := hp va'
      rw [tp_f, if_neg (by rw [decide_eq_false (fun y => y hf), Bool.false_and]; decide)] at h
      exact h
    · refine br_f hf (ty_shows_t R hj hv (by omega) (fun va' => ?_))
      have h := hp
      cases hb : bt (tp_V c w kd xs ys S (nI j) v) k with
      | false =>
        refine br_t rfl (nm_r (nI_1 k) (ih (k + 1) va' (by omega) (fun va2 => ?_)))
        have h2 := h va2
        rw [tp_f, if_neg (by rw [hb, Bool.and_false]; decide)] at h2
        exact h2
      | true =>
        have h2 := h va'
        rw [tp_f, if_pos (by rw [hb, decide_eq_true hf]; rfl)] at h2
        exact br_f tp_10 h2
theorem ty_tf3_f {post : Int32 → SY → Prop} {c : Nat} {l w v fr : Int32} {kd xs yr va : Nat → Int32} (hc : c ≤ 16) (hn : ¬ ((∃ j : Nat, j < c ∧ l = nI j) ∧ (v = 0 ∨ v = 1))) (hp : post (-1) (nI c, w, kd, xs, yr, va)) : ∀ (d k : Nat), k + d = 32 → wY_testFrom_3 post l v fr (d + 1) (nI k) (nI c) w kd xs yr va := by
  intro d
  induction d with
  | zero =>
    intro k hk
    exact br_t (nI_le (a := 32) (by omega) (by omega)) hp
  | succ d ih =>
    intro k hk
    refine br_f (nI_ge (b := 32) (by omega) (by decide)) ?_
    by_cases hf : nI k < fr
    · exact br_t hf (nm_r (nI_1 k) (ih (k + 1) (by omega)))
    · exact br_f hf (ty_shows_f hc (fun z => hn ⟨z.1, z.2.1⟩) (br_t rfl (nm_r (nI_1 k) (ih (k + 1) (by omega)))))
theorem ty_testFrom_t {post : Int32 → SY → Prop} {c j : Nat} {w v fr : Int32} {kd xs ys yr S va : Nat → Int32} (R : tp_R c kd xs ys yr S) (hj : j < c) (hv : v = 0 ∨ v = 1) (hp : ∀ va', post (tp_tf (tp_V c w kd xs ys S (nI j) v) fr) (nI c, w, kd, xs, yr, va')) :
    wpY_testFrom post (nI c, w, kd, xs, yr, va) (nI j) v fr := ⟨33, ty_tf3 R hj hv 32 0 va (by omega) hp⟩
theorem ty_testFrom_f {post : Int32 → SY → Prop} {c : Nat} {l w v fr : Int32} {kd xs yr va : Nat → Int32} (hc : c ≤ 16) (hn : ¬ ((∃ j : Nat, j < c ∧ l = nI j) ∧ (v = 0 ∨ v = 1))) (hp : post (-1) (nI c, w, kd, xs, yr, va)) :
    wpY_testFrom post (nI c, w, kd, xs, yr, va) l v fr := ⟨33, ty_tf3_f hc hn hp 32 0 (by omega)⟩
theorem tx_testFrom_f {post : Int32 → SX → Prop} {c : Nat} {l w v fr : Int32} {kd xs ys S fa : Nat → Int32} (hc : c ≤ 16) (hn : ¬ ((∃ j : Nat, j < c ∧ l = nI j) ∧ (v = 0 ∨ v = 1))) (hp : post (-1) (nI c, w, kd, xs, ys, S, fa)) :
    wpX_testFrom post (nI c, w, kd, xs, ys, S, fa) l v fr := by
  unfold wpX_testFrom
  dsimp only
  exact tx_isF_f hn hc (br_t rfl hp)
/-- the lines whose V is empty -/
def tp_H (V : Nat → Int32) : Nat → Int32
  | 0 => 0
  | n + 1 => if V n = 0 then tp_H V n ||| ((1 : Int32) <<< (nI n &&& 31)) else tp_H V n
theorem tx_hid13 {post : Int32 → SX → Prop} {c : Nat} {w v : Int32} {kd xs ys yr S : Nat → Int32} (R : tp_R c kd xs ys yr S) (hp : ∀ fa', post (tp_H (fun i => tp_V c w kd xs ys S (nI i) v) c) (nI c, w, kd, xs, ys, S, fa')) :
    ∀ (d j : Nat) (fa : Nat → Int32), j + d = c → wX_hidden_13 post v (d + 1) (tp_H (fun i => tp_V c w kd xs ys S (nI i) v) j) (nI j) (nI c) w kd xs ys S fa := by
  have hc := R.1.2
  intro d
  induction d with
  | zero =>
    intro j fa hj
    have e : j = c := by omega
    rw [e]
    exact br_t (nI_le (by omega) (by omega)) (hp fa)
  | succ d ih =>
    intro j fa hj
    refine br_f (nI_ge (show j < c by omega) (by omega)) (tx_vs R (fun fa1 => ?_))
    have h := ih (j + 1) fa1 (by omega)
    rw [tp_H] at h
    by_cases z : tp_V c w kd xs ys S (nI j) v = 0
    · rw [if_pos z] at h
      exact br_t z (nm_e (nm_r (nI_1 j) h))
    · rw [if_neg z] at h
      exact br_f z (nm_r (nI_1 j) h)
theorem ty_hid4 {post : Int32 → SY → Prop} {c : Nat} {w v : Int32} {kd xs ys yr S : Nat → Int32} (R : tp_R c kd xs ys yr S) (hv : v = 0 ∨ v = 1) (hp : ∀ va', post (tp_H (fun i => tp_V c w kd xs ys S (nI i) v) c) (nI c, w, kd, xs, yr, va')) :
    ∀ (d j : Nat) (va : Nat → Int32), j + d = c → wY_hidden_4 post v (d + 1) (tp_H (fun i => tp_V c w kd xs ys S (nI i) v) j) (nI j) (nI c) w kd xs yr va := by
  have hc := R.1.2
  intro d
  induction d with
  | zero =>
    intro j va hj
    have e : j = c := by omega
    rw [e]
    exact br_t (nI_le (by omega) (by omega)) (hp va)
  | succ d ih =>
    intro j va hj
    have hjc : j < c := by omega
    have key : wY_hidden_21 post (wY_hidden_4 post v (d + 1)) v (tp_H (fun i => tp_V c w kd xs ys S (nI i) v) j) (nI j) (nI c) w kd xs yr va := by
      unfold wY_hidden_21 wpY_test
      dsimp only
      refine ty_testFrom_t R hjc hv (fun va1 => ?_)
      have h := ih (j + 1) va1 (by omega)
      rw [tp_H] at h
      have e : tp_tf (tp_V c w kd xs ys S (nI j) v) 0 < 0 ↔ tp_V c w kd xs ys S (nI j) v = 0 := by rw [tp_tf0]; exact tp_f_z _
      by_cases z : tp_V c w kd xs ys S (nI j) v = 0
      · rw [if_pos z] at h
        exact br_f (Int32.not_le.mpr (e.mpr z)) (nm_e (nm_r (nI_1 j) h))
      · rw [if_neg z] at h
        exact br_t (Int32.not_lt.mp (fun y => z (e.mp y))) (nm_r (nI_1 j) h)
    refine br_f (nI_ge hjc (by omega)) ?_
    by_cases z : v = 0
    · exact br_t z key
    · exact br_f z (br_t (hv.resolve_left z) key)
end
section
/-! shownBy, bestVector, alike, ones, on both sides -/
/-- how many faults vector k shows on the first n lines -/
def tp_sb (c : Nat) (w : Int32) (kd xs ys S : Nat → Int32) (k n : Nat) : Nat := tp_N (fun i => bt (tp_V c w kd xs ys S (nI i) 0) k) (fun i => bt (tp_V c w kd xs ys S (nI i) 1) k) n
theorem tp_sb_s (c : Nat) (w : Int32) (kd xs ys S : Nat → Int32) (k n : Nat) : nI (tp_sb c w kd xs ys S k n) + tp_b (bt (tp_V c w kd xs ys S (nI n) 0) k) + tp_b (bt (tp_V c w kd xs ys S (nI n) 1) k) = nI (tp_sb c w kd xs ys S k (n + 1)) :=
  tp_N_s (fun i => bt (tp_V c w kd xs ys S (nI i) 0) k) (fun i => bt (tp_V c w kd xs ys S (nI i) 1) k) n
theorem tx_sb24 {post : Int32 → SX → Prop} {J : Int32 → Int32 → Int32 → Int32 → (Nat → Int32) → (Nat → Int32) → (Nat → Int32) → (Nat → Int32) → (Nat → Int32) → Prop} {c j k : Nat} {w x2 : Int32} {kd xs ys yr S fa : Nat → Int32} (R : tp_R c kd xs ys yr S) (hk : k < 32)
    (hJ : ∀ fa', J (x2 + tp_b (bt (tp_V c w kd xs ys S (nI j) 0) k) + tp_b (bt (tp_V c w kd xs ys S (nI j) 1) k)) (nI (j + 1)) (nI c) w kd xs ys S fa') : wX_shownBy_24 post J (nI k) (nI j) 3 x2 0 (nI c) w kd xs ys S fa := by
  refine br_f (by decide) (tx_vs R (fun fa1 => ?_))
  refine nm_r (congrArg (fun z => x2 + z) (tp_ush _ k hk)) (nm_r (show (0 : Int32) + 1 = 1 from by decide) ?_)
  refine br_f (by decide) (tx_vs R (fun fa2 => ?_))
  refine nm_r (congrArg (fun z => x2 + tp_b (bt (tp_V c w kd xs ys S (nI j) 0) k) + z) (tp_ush _ k hk)) (nm_r (show (1 : Int32) + 1 = 2 from by decide) ?_)
  exact br_t (by decide) (nm_r (nI_1 j) (hJ fa2))
theorem tx_sb13 {post : Int32 → SX → Prop} {c k : Nat} {w : Int32} {kd xs ys yr S : Nat → Int32} (R : tp_R c kd xs ys yr S) (hk : k < 32) (hp : ∀ fa', post (nI (tp_sb c w kd xs ys S k c)) (nI c, w, kd, xs, ys, S, fa')) :
    ∀ (d j : Nat) (fa : Nat → Int32), j + d = c → wX_shownBy_13 post (nI k) (d + 1) (nI (tp_sb c w kd xs ys S k j)) (nI j) (nI c) w kd xs ys S fa := by
  have hc := R.1.2
  intro d
  induction d with
  | zero =>
    intro j fa hj
    have e : j = c := by omega
    rw [e]
    exact br_t (nI_le (by omega) (by omega)) (hp fa)
  | succ d ih =>
    intro j fa hj
    refine br_f (nI_ge (show j < c by omega) (by omega)) ⟨3, tx_sb24 R hk (fun fa' => ?_)⟩
    rw [tp_sb_s]
    exact ih (j + 1) fa' (by omega)
theorem tx_shownBy_t {post : Int32 → SX → Prop} {c k : Nat} {w : Int32} {kd xs ys yr S fa : Nat → Int32} (R : tp_R c kd xs ys yr S) (hk : k < 32) (hp : ∀ fa', post (nI (tp_sb c w kd xs ys S k c)) (nI c, w, kd, xs, ys, S, fa')) : wpX_shownBy post (nI c, w, kd, xs, ys, S, fa) (nI k) := by
  unfold wpX_shownBy
  dsimp only
  exact tx_isV_t hk (br_f tp_10 ⟨c + 1, tx_sb13 R hk hp c 0 fa (by omega)⟩)
theorem ty_sb28 {post : Int32 → SY → Prop} {J : Int32 → Int32 → Int32 → Int32 → (Nat → Int32) → (Nat → Int32) → (Nat → Int32) → (Nat → Int32) → Prop} {c j k : Nat} {w z0 x2 : Int32} {kd xs ys yr S va : Nat → Int32} (R : tp_R c kd xs ys yr S) (hj : j < c) (hk : k < 32)
    (hJ : ∀ va', J (x2 + z0 + tp_b (bt (tp_V c w kd xs ys S (nI j) 1) k)) (nI (j + 1)) (nI c) w kd xs yr va') : wY_shownBy_28 post J (nI k) (nI j) z0 x2 (nI c) w kd xs yr va := by
  unfold wY_shownBy_28
  refine ty_shows_t R hj (Or.inr rfl) hk (fun va' => ?_)
  have h := hJ va'
  cases hb : bt (tp_V c w kd xs ys S (nI j) 1) k with
  | false =>
    rw [hb] at h
    exact br_t rfl (nm_e (nm_r (nI_1 j) h))
  | true =>
    rw [hb] at h
    exact br_f tp_10 (nm_e (nm_r (nI_1 j) h))
theorem ty_sb4 {post : Int32 → SY → Prop} {c k : Nat} {w : Int32} {kd xs ys yr S : Nat → Int32} (R : tp_R c kd xs ys yr S) (hk : k < 32) (hp : ∀ va', post (nI (tp_sb c w kd xs ys S k c)) (nI c, w, kd, xs, yr, va')) :
    ∀ (d j : Nat) (va : Nat → Int32), j + d = c → wY_shownBy_4 post (nI k) (d + 1) (nI (tp_sb c w kd xs ys S k j)) (nI j) (nI c) w kd xs yr va := by
  have hc := R.1.2
  intro d
  induction d with
  | zero =>
    intro j va hj
    have e : j = c := by omega
    rw [e]
    exact br_t (nI_le (by omega) (by omega)) (ty_vec_t hk (br_f tp_10 (hp va)))
  | succ d ih =>
    intro j va hj
    have hjc : j < c := by omega
    refine br_f (nI_ge hjc (by omega)) (ty_shows_t R hjc (Or.inl rfl) hk (fun va1 => ?_))
    have key : wY_shownBy_28 post (wY_shownBy_4 post (nI k) (d + 1)) (nI k) (nI j) (tp_b (bt (tp_V c w kd xs ys S (nI j) 0) k)) (nI (tp_sb c w kd xs ys S k j)) (nI c) w kd xs yr va1 := by
      refine ty_sb28 R hjc hk (fun va' => ?_)
      rw [tp_sb_s]
      exact ih (j + 1) va' (by omega)
    cases hb : bt (tp_V c w kd xs ys S (nI j) 0) k with
    | false =>
      rw [hb] at key
      exact br_t rfl key
    | true =>
      rw [hb] at key
      exact br_f tp_10 key
theorem ty_sb4_f {post : Int32 → SY → Prop} {c : Nat} {x w : Int32} {kd xs yr va : Nat → Int32} (hc : c ≤ 16) (hn : ¬ ∃ k : Nat, k < 32 ∧ x = nI k) (hp : post (-1) (nI c, w, kd, xs, yr, va)) :
    ∀ (d j : Nat) (x2 : Int32), j + d = c → wY_shownBy_4 post x (d + 1) x2 (nI j) (nI c) w kd xs yr va := by
  intro d
  induction d with
  | zero =>
    intro j x2 hj
    have e : j = c := by omega
    rw [e]
    exact br_t (nI_le (by omega) (by omega)) (ty_vec_f hn (br_t rfl hp))
  | succ d ih =>
    intro j x2 hj
    refine br_f (nI_ge (show j < c by omega) (by omega)) (ty_shows_f hc (fun z => hn z.2.2) (br_t rfl ?_))
    unfold wY_shownBy_28
    exact ty_shows_f hc (fun z => hn z.2.2) (br_t rfl (nm_e (nm_r (nI_1 j) (ih (j + 1) _ (by omega)))))
theorem ty_shownBy_t {post : Int32 → SY → Prop} {c k : Nat} {w : Int32} {kd xs ys yr S va : Nat → Int32} (R : tp_R c kd xs ys yr S) (hk : k < 32) (hp : ∀ va', post (nI (tp_sb c w kd xs ys S k c)) (nI c, w, kd, xs, yr, va')) : wpY_shownBy post (nI c, w, kd, xs, yr, va) (nI k) :=
  ⟨c + 1, ty_sb4 R hk hp c 0 va (by omega)⟩
theorem ty_shownBy_f {post : Int32 → SY → Prop} {c : Nat} {x w : Int32} {kd xs yr va : Nat → Int32} (hc : c ≤ 16) (hn : ¬ ∃ k : Nat, k < 32 ∧ x = nI k) (hp : post (-1) (nI c, w, kd, xs, yr, va)) : wpY_shownBy post (nI c, w, kd, xs, yr, va) x :=
  ⟨c + 1, ty_sb4_f hc hn hp c 0 0 (by omega)⟩
/-- the best vector among 0 .. n and its count -/
def tp_bv (c : Nat) (w : Int32) (kd xs ys S : Nat → Int32) (n : Nat) : Nat × Nat := tp_B (fun k => tp_sb c w kd xs ys S k c) n
theorem tp_sb_le (c : Nat) (w : Int32) (kd xs ys S : Nat → Int32) (k : Nat) (hc : c ≤ 16) : tp_sb c w kd xs ys S k c ≤ 32 := by
  have h := tp_N_le (fun i => bt (tp_V c w kd xs ys S (nI i) 0) k) (fun i => bt (tp_V c w kd xs ys S (nI i) 1) k) c
  show tp_N _ _ c ≤ 32
  omega
theorem tp_bv_le (c : Nat) (w : Int32) (kd xs ys S : Nat → Int32) (n : Nat) (hc : c ≤ 16) : (tp_bv c w kd xs ys S n).2 ≤ 32 := tp_B_le _ 32 (fun k => tp_sb_le c w kd xs ys S k hc) n
theorem tp_bv_s (c : Nat) (w : Int32) (kd xs ys S : Nat → Int32) (n : Nat) : tp_bv c w kd xs ys S (n + 1) = if (tp_bv c w kd xs ys S n).2 < tp_sb c w kd xs ys S (n + 1) c then (n + 1, tp_sb c w kd xs ys S (n + 1) c) else tp_bv c w kd xs ys S n := rfl
theorem tx_bv10 {post : Int32 → SX → Prop} {c : Nat} {w : Int32} {kd xs ys yr S : Nat → Int32} (R : tp_R c kd xs ys yr S) (hp : ∀ fa', post (nI (tp_bv c w kd xs ys S 31).1) (nI c, w, kd, xs, ys, S, fa')) :
    ∀ (d n : Nat) (fa : Nat → Int32), n + d = 31 → wX_bestVector_10 post (d + 1) (nI (tp_bv c w kd xs ys S n).1) (nI (tp_bv c w kd xs ys S n).2) (nI (n + 1)) (nI c) w kd xs ys S fa := by
  have hc := R.1.2
  intro d
  induction d with
  | zero =>
    intro n fa hn
    have e : n = 31 := by omega
    rw [e]
    exact br_t (nI_le (a := 32) (by omega) (by omega)) (hp fa)
  | succ d ih =>
    intro n fa hn
    refine br_f (nI_ge (b := 32) (by omega) (by decide)) (tx_shownBy_t R (show n + 1 < 32 by omega) (fun fa' => ?_))
    have h := ih (n + 1) fa' (by omega)
    have h1 := tp_sb_le c w kd xs ys S (n + 1) hc
    have h2 := tp_bv_le c w kd xs ys S n hc
    rw [tp_bv_s] at h
    by_cases z : (tp_bv c w kd xs ys S n).2 < tp_sb c w kd xs ys S (n + 1) c
    · rw [if_pos z] at h
      exact br_f (nI_ge z (by omega)) (nm_r (nI_1 (n + 1)) h)
    · rw [if_neg z] at h
      exact br_t (nI_le (by omega) (by omega)) (nm_r (nI_1 (n + 1)) h)
theorem ty_bv6 {post : Int32 → SY → Prop} {c : Nat} {w : Int32} {kd xs ys yr S : Nat → Int32} (R : tp_R c kd xs ys yr S) (hp : ∀ va', post (nI (tp_bv c w kd xs ys S 31).1) (nI c, w, kd, xs, yr, va')) :
    ∀ (d n : Nat) (va : Nat → Int32), n + d = 31 → wY_bestVector_6 post (d + 1) (nI (tp_bv c w kd xs ys S n).1) (nI (tp_bv c w kd xs ys S n).2) (nI (n + 1)) (nI c) w kd xs yr va := by
  have hc := R.1.2
  intro d
  induction d with
  | zero =>
    intro n va hn
    have e : n = 31 := by omega
    rw [e]
    exact br_t (nI_le (a := 32) (by omega) (by omega)) (hp va)
  | succ d ih =>
    intro n va hn
    refine br_f (nI_ge (b := 32) (by omega) (by decide)) (ty_shownBy_t R (show n + 1 < 32 by omega) (fun va' => ?_))
    have h := ih (n + 1) va' (by omega)
    have h1 := tp_sb_le c w kd xs ys S (n + 1) hc
    have h2 := tp_bv_le c w kd xs ys S n hc
    rw [tp_bv_s] at h
    by_cases z : (tp_bv c w kd xs ys S n).2 < tp_sb c w kd xs ys S (n + 1) c
    · rw [if_pos z] at h
      exact br_f (nI_ge z (by omega)) (br_f (nI_ge z (by omega)) (nm_r (nI_1 (n + 1)) h))
    · rw [if_neg z] at h
      exact br_t (nI_le (by omega) (by omega)) (br_t (nI_le (by omega) (by omega)) (nm_r (nI_1 (n + 1)) h))
theorem tp_m1n {n : Nat} (h : n ≤ 32) : ¬ nI n ≤ -1 := (by decide +kernel : ∀ n, n ≤ 32 → ¬ nI n ≤ -1) n h
theorem ty_bestVector {post : Int32 → SY → Prop} {c : Nat} {w : Int32} {kd xs ys yr S va : Nat → Int32} (R : tp_R c kd xs ys yr S) (hp : ∀ va', post (nI (tp_bv c w kd xs ys S 31).1) (nI c, w, kd, xs, yr, va')) : wpY_bestVector post (nI c, w, kd, xs, yr, va) := by
  have hc := R.1.2
  refine ⟨33, br_f (nI_ge (a := 0) (b := 32) (by decide) (by decide)) (ty_shownBy_t (k := 0) R (by decide) (fun va' => ?_))⟩
  have h := ty_bv6 R hp 31 0 va' (by omega)
  have hm := tp_m1n (tp_sb_le c w kd xs ys S 0 hc)
  exact br_f hm (br_f hm (nm_r (show (0 : Int32) + 1 = nI (0 + 1) from by decide) h))
theorem tx_bestVector {post : Int32 → SX → Prop} {c : Nat} {w : Int32} {kd xs ys yr S fa : Nat → Int32} (R : tp_R c kd xs ys yr S) (hp : ∀ fa', post (nI (tp_bv c w kd xs ys S 31).1) (nI c, w, kd, xs, ys, S, fa')) : wpX_bestVector post (nI c, w, kd, xs, ys, S, fa) := by
  unfold wpX_bestVector
  dsimp only
  exact tx_shownBy_t (k := 0) R (by decide) (fun fa' => ⟨32, tx_bv10 R hp 31 0 fa' (by omega)⟩)
/-- alike: from k on, all before k the same -/
theorem ty_al46 {post : Int32 → SY → Prop} {c a b : Nat} {w v x : Int32} {kd xs ys yr S : Nat → Int32} (R : tp_R c kd xs ys yr S) (ha : a < c) (hb : b < c) (hv : v = 0 ∨ v = 1) (hx : x = 0 ∨ x = 1)
    (hp : ∀ va', post (tp_b (decide (tp_V c w kd xs ys S (nI a) v = tp_V c w kd xs ys S (nI b) x))) (nI c, w, kd, xs, yr, va')) :
    ∀ (d k : Nat) (va : Nat → Int32), k + d = 32 → (∀ i, i < k → bt (tp_V c w kd xs ys S (nI a) v) i = bt (tp_V c w kd xs ys S (nI b) x) i) → wY_alike_46 post (nI a) v (nI b) x (d + 2) 1 (nI k) (nI c) w kd xs yr va := by
  intro d
  induction d with
  | zero =>
    intro k va hk hs
    have e : k = 32 := by omega
    have h := hp va
    rw [decide_eq_true (b_ext (fun i hi => hs i (by omega)))] at h
    exact br_t (nI_le (a := 32) (by omega) (by omega)) ⟨rfl, h⟩
  | succ d ih =>
    intro k va hk hs
    refine br_f (nI_ge (b := 32) (by omega) (by decide)) (br_f tp_10 (ty_shows_t R ha hv (show k < 32 by omega) (fun va1 => ty_shows_t R hb hx (show k < 32 by omega) (fun va2 => ?_))))
    by_cases z : bt (tp_V c w kd xs ys S (nI a) v) k = bt (tp_V c w kd xs ys S (nI b) x) k
    · refine br_t (congrArg tp_b z) (nm_r (nI_1 k) (ih (k + 1) va2 (by omega) (fun i hi => ?_)))
      by_cases e : i = k
      · rw [e]; exact z
      · exact hs i (by omega)
    · have h := hp va2
      rw [decide_eq_false (fun e => z (by rw [e]))] at h
      refine br_f (fun e => z ?_) (nm_r (nI_1 k) ?_)
      · revert e
        cases bt (tp_V c w kd xs ys S (nI a) v) k <;> cases bt (tp_V c w kd xs ys S (nI b) x) k <;> decide
      · by_cases q : k + 1 = 32
        · rw [q]
          exact br_t (nI_le (a := 32) (b := 32) (by decide) (by decide)) ⟨rfl, h⟩
        · exact br_f (nI_ge (b := 32) (by omega) (by decide)) (br_t rfl ⟨rfl, h⟩)
theorem ty_al0 {post : Int32 → SY → Prop} {l1 l2 v x u w : Int32} {kd xs yr va : Nat → Int32} (hp : post 0 (u, w, kd, xs, yr, va)) : ∃ n : Nat, wY_alike_46 post l1 v l2 x n 0 0 u w kd xs yr va :=
  ⟨1, br_f (by decide) (br_t rfl ⟨rfl, hp⟩)⟩
theorem tx_on14 {post : Int32 → Prop} {j : Nat} {u w : Int32} {kd xs ys S fa : Nat → Int32} (hj : j < 16) (hp : post (nI (tp_C (bt (S j)) 32))) : ∀ d k : Nat, k + d = 32 → wX_ones_14 post (nI j) u w kd xs ys S fa (d + 1) (nI (tp_C (bt (S j)) k)) (nI k) := by
  intro d
  induction d with
  | zero =>
    intro k hk
    have e : k = 32 := by omega
    rw [e]
    exact br_t (nI_le (a := 32) (b := 32) (by decide) (by decide)) hp
  | succ d ih =>
    intro k hk
    refine br_f (nI_ge (b := 32) (by omega) (by decide)) ⟨vp_in_nI hj (by decide), nm_r (e' := nI (tp_C (bt (S j)) (k + 1))) ?_ (nm_r (nI_1 k) (ih (k + 1) (by omega)))⟩
    rw [nI_clamp (show j < 2 ^ 31 by omega), tp_ush _ k (by omega), tp_C_s]
theorem ty_on4 {post : Int32 → SY → Prop} {c j : Nat} {w : Int32} {kd xs ys yr S : Nat → Int32} (R : tp_R c kd xs ys yr S) (hj : j < c) (hp : ∀ va', post (nI (tp_C (bt (S j)) 32)) (nI c, w, kd, xs, yr, va')) : ∀ (d k : Nat) (va : Nat → Int32), k + d = 32 → wY_ones_4 post (nI j) (d + 1) (nI (tp_C (bt (S j)) k)) (nI k) (nI c) w kd xs yr va := by
  have hc := R.1.2
  intro d
  induction d with
  | zero =>
    intro k va hk
    have e : k = 32 := by omega
    rw [e]
    refine br_t (nI_le (a := 32) (b := 32) (by decide) (by decide)) ?_
    unfold wY_ones_33
    exact ty_is_t hj hc (br_f tp_10 (hp va))
  | succ d ih =>
    intro k va hk
    refine br_f (nI_ge (b := 32) (by omega) (by decide)) (ty_is_t hj hc (br_f tp_10 (ty_value_t R hj (show k < 32 by omega) (fun va' => ?_))))
    exact nm_r (tp_C_s (bt (S j)) k) (nm_r (nI_1 k) (ih (k + 1) va' (by omega)))
end
section
/-! gate on both sides; alike of Y -/
theorem tx_g62 {post : Int32 → SX → Prop} {c a b : Nat} {kind w : Int32} {kd xs ys S fa : Nat → Int32} (hc : c < 16) (ha : a < c) (hb : b < c)
    (h : post (nI c) (nI (c + 1), w, upd kd c kind, upd xs c (nI a), upd ys c (nI b), upd S c (tp_g kind (S a) (S b)), fa)) : wX_gate_62 post kind (nI a) (nI c) (nI b) (nI c) w kd xs ys S fa := by
  have ic : vp_in (nI c) 16 := vp_in_nI hc (by decide)
  have ia : vp_in (nI a) 16 := vp_in_nI (by omega) (by decide)
  have ib : vp_in (nI b) 16 := vp_in_nI (by omega) (by decide)
  have cc : (nI c).toNatClampNeg = c := nI_clamp (by omega)
  have ca : (nI a).toNatClampNeg = a := nI_clamp (by omega)
  have cb : (nI b).toNatClampNeg = b := nI_clamp (by omega)
  refine ⟨ic, ?_⟩
  rw [cc]
  refine nm_e ⟨ic, nm_e ⟨ic, nm_e ⟨ia, ib, ?_⟩⟩⟩
  rw [ca, cb]
  exact tx_gt ⟨ic, nm_e (nm_r (nI_1 c) h)⟩
theorem ty_g82 {post : Int32 → SY → Prop} {c : Nat} {z w : Int32} {kd xs yr va : Nat → Int32} (hc : c < 16) (h : post (nI c) (nI (c + 1), w, kd, xs, upd yr c z, va)) : wY_gate_82 post z (nI c) (nI c) w kd xs yr va := by
  have ic : vp_in (nI c) 16 := vp_in_nI hc (by decide)
  have cc : (nI c).toNatClampNeg = c := nI_clamp (by omega)
  refine ⟨ic, ?_⟩
  rw [cc]
  refine nm_e (nm_r (nI_1 c) ?_)
  rw [nI_pred]
  exact h
theorem ty_g32_5 {post : Int32 → SY → Prop} {c a : Nat} {x3 w : Int32} {kd xs yr va : Nat → Int32} (hc : c < 16) (h : post (nI c) (nI (c + 1), w, upd kd c 5, upd xs c (nI a), upd yr c (nI 0), va)) : wY_gate_32 post 5 (nI a) x3 (nI c) w kd xs yr va := by
  have ic : vp_in (nI c) 16 := vp_in_nI hc (by decide)
  have cc : (nI c).toNatClampNeg = c := nI_clamp (by omega)
  refine br_t (nI_lt (b := 16) hc (by decide)) ?_
  rw [cc]
  exact ⟨ic, nm_e ⟨ic, nm_e (br_t rfl (ty_g82 hc h))⟩⟩
theorem ty_g32_n {post : Int32 → SY → Prop} {c a : Nat} {kind x3 w : Int32} {kd xs yr va : Nat → Int32} (hc : c < 16) (hk : ¬ kind = 5) (h : post (nI c) (nI (c + 1), w, upd kd c kind, upd xs c (nI a), upd yr c x3, va)) : wY_gate_32 post kind (nI a) x3 (nI c) w kd xs yr va := by
  have ic : vp_in (nI c) 16 := vp_in_nI hc (by decide)
  have cc : (nI c).toNatClampNeg = c := nI_clamp (by omega)
  refine br_t (nI_lt (b := 16) hc (by decide)) ?_
  rw [cc]
  exact ⟨ic, nm_e ⟨ic, nm_e (br_f hk (ty_g82 hc h))⟩⟩
theorem ty_alike_t {post : Int32 → SY → Prop} {c a b : Nat} {w v x : Int32} {kd xs ys yr S va : Nat → Int32} (R : tp_R c kd xs ys yr S) (ha : a < c) (hb : b < c) (hv : v = 0 ∨ v = 1) (hx : x = 0 ∨ x = 1)
    (hp : ∀ va', post (tp_b (decide (tp_V c w kd xs ys S (nI a) v = tp_V c w kd xs ys S (nI b) x))) (nI c, w, kd, xs, yr, va')) : wpY_alike post (nI c, w, kd, xs, yr, va) (nI a) v (nI b) x := by
  have hc := R.1.2
  have k46 : ∃ n : Nat, wY_alike_46 post (nI a) v (nI b) x n 1 0 (nI c) w kd xs yr va := ⟨34, ty_al46 R ha hb hv hx hp 32 0 va (by omega) (fun i hi => absurd hi (Nat.not_lt_zero i))⟩
  have key : wY_alike_25 post (nI a) v (nI b) x (nI c) w kd xs yr va := by
    by_cases z : x = 0
    · exact br_t z k46
    · exact br_f z (br_t (hx.resolve_left z) k46)
  unfold wpY_alike
  dsimp only
  refine ty_is_t ha hc (br_f tp_10 (ty_is_t hb hc (br_f tp_10 ?_)))
  by_cases z : v = 0
  · exact br_t z key
  · exact br_f z (br_t (hv.resolve_left z) key)
theorem ty_alike_f {post : Int32 → SY → Prop} {c : Nat} {l m w v x : Int32} {kd xs yr va : Nat → Int32} (hc : c ≤ 16) (hn : ¬ (((∃ j : Nat, j < c ∧ l = nI j) ∧ (v = 0 ∨ v = 1)) ∧ ((∃ j : Nat, j < c ∧ m = nI j) ∧ (x = 0 ∨ x = 1)))) (hp : post 0 (nI c, w, kd, xs, yr, va)) : wpY_alike post (nI c, w, kd, xs, yr, va) l v m x := by
  have k0 : ∃ n : Nat, wY_alike_46 post l v m x n 0 0 (nI c) w kd xs yr va := ty_al0 hp
  unfold wpY_alike
  dsimp only
  by_cases hl : ∃ j : Nat, j < c ∧ l = nI j
  · by_cases hm : ∃ j : Nat, j < c ∧ m = nI j
    · have key : (v = 0 ∨ v = 1) → wY_alike_25 post l v m x (nI c) w kd xs yr va := fun hv =>
        br_f (fun z => hn ⟨⟨hl, hv⟩, hm, Or.inl z⟩) (br_f (fun z => hn ⟨⟨hl, hv⟩, hm, Or.inr z⟩) k0)
      obtain ⟨a, ha, ea⟩ := hl
      obtain ⟨b, hb, eb⟩ := hm
      rw [ea, eb] at key k0 ⊢
      refine ty_is_t ha hc (br_f tp_10 (ty_is_t hb hc (br_f tp_10 ?_)))
      by_cases z : v = 0
      · exact br_t z (key (Or.inl z))
      · by_cases z1 : v = 1
        · exact br_f z (br_t z1 (key (Or.inr z1)))
        · exact br_f z (br_f z1 k0)
    · obtain ⟨a, ha, ea⟩ := hl
      rw [ea] at k0 ⊢
      exact ty_is_t ha hc (br_f tp_10 (ty_is_f hm hc (br_t rfl k0)))
  · exact ty_is_f hl hc (br_t rfl k0)
end
section
/-! what is owed -/
def i_Rel (k : Nat) (u : SX) (v : SY) : Prop := ∃ (c : Nat) (w : Int32) (kd xs ys yr S fa va : Nat → Int32), u = (nI c, w, kd, xs, ys, S, fa) ∧ v = (nI c, w, kd, xs, yr, va) ∧ tp_R c kd xs ys yr S
theorem tp_mk {k c : Nat} {w : Int32} {kd xs ys yr S fa va : Nat → Int32} (R : tp_R c kd xs ys yr S) : i_Rel k (nI c, w, kd, xs, ys, S, fa) (nI c, w, kd, xs, yr, va) := ⟨c, w, kd, xs, ys, yr, S, fa, va, rfl, rfl, R⟩
theorem i_up {k : Nat} {u : SX} {v : SY} (h : i_Rel k u v) : i_Rel (k + 5) u v := h
theorem tp_in0 : ∀ i, i < 5 → ∀ k, k < 32 → bt (upd (upd (upd (upd (upd (fun _ => 0) 0 (-1431655766)) 1 (-858993460)) 2 (-252645136)) 3 (-16711936)) 4 (-65536) i) k = bt (nI k) i := by decide +kernel
theorem i_vc0 : wpX_init (fun u => wpY_init (fun v => i_Rel 0 u v)) := by
  refine nm_e (nm_e (nm_e (nm_e (nm_e ?_))))
  exact tp_mk (k := 0) (c := 5) ⟨⟨by decide, by decide⟩, tp_in0, fun i _ => ⟨rfl, rfl⟩, fun i h1 h2 => absurd h2 (by omega)⟩
theorem i_vc_gate {k : Nat} {u : SX} {v : SY} (I : i_Rel k u v) (hk : k + 5 ≤ 2560) (v1 : Int32) (v2 : Int32) (v3 : Int32) : wpX_gate (fun r u' => wpY_gate (fun r' v' => r' = r ∧ i_Rel (k + 5) u' v') v v1 v2 v3) u v1 v2 v3 := by
  obtain ⟨c, w, kd, xs, ys, yr, S, fa, va, rfl, rfl, R⟩ := I
  have hc := R.1.2
  have h5 := R.1.1
  by_cases h0 : v1 < 0
  · exact br_t h0 (br_t h0 ⟨rfl, tp_mk R⟩)
  by_cases h6 : 5 < v1
  · exact br_f h0 (br_t h6 (br_f h0 (br_t h6 ⟨rfl, tp_mk R⟩)))
  by_cases hx : ∃ j : Nat, j < c ∧ v2 = nI j
  · obtain ⟨a, ha, rfl⟩ := hx
    by_cases k5 : v1 = 5
    · subst k5
      refine br_f h0 (br_f h6 (tx_isL_t ha hc (br_f tp_10 (br_t rfl ?_))))
      by_cases hf : c = 16
      · subst hf
        exact br_t rfl (br_f h0 (br_f h6 (ty_is_t ha hc (br_f tp_10 (br_t rfl (br_f (nI_nlt (a := 16) (b := 16) (by decide) (by decide)) ⟨rfl, tp_mk R⟩))))))
      · have hl : c < 16 := by omega
        refine br_f (fun z => hf ((nI_eq (b := 16) (by omega) (by decide)).mp z)) (br_t rfl (tx_g62 hl ha ha ?_))
        exact br_f h0 (br_f h6 (ty_is_t ha hc (br_f tp_10 (br_t rfl (ty_g32_5 hl ⟨rfl, tp_mk (tp_Rgate R hl 5 ha ha (by omega) (fun z => absurd rfl z))⟩)))))
    · by_cases hy : ∃ j : Nat, j < c ∧ v3 = nI j
      · obtain ⟨b, hb, rfl⟩ := hy
        refine br_f h0 (br_f h6 (tx_isL_t ha hc (br_f tp_10 (br_f k5 (tx_isL_t hb hc (br_f tp_10 ?_))))))
        by_cases hf : c = 16
        · subst hf
          exact br_t rfl (br_f h0 (br_f h6 (ty_is_t ha hc (br_f tp_10 (br_f k5 (ty_is_t hb hc (br_f tp_10 (br_f (nI_nlt (a := 16) (b := 16) (by decide) (by decide)) ⟨rfl, tp_mk R⟩))))))))
        · have hl : c < 16 := by omega
          refine br_f (fun z => hf ((nI_eq (b := 16) (by omega) (by decide)).mp z)) (br_f k5 (tx_g62 hl ha hb ?_))
          exact br_f h0 (br_f h6 (ty_is_t ha hc (br_f tp_10 (br_f k5 (ty_is_t hb hc (br_f tp_10 (ty_g32_n hl k5 ⟨rfl, tp_mk (tp_Rgate R hl v1 ha hb hb (fun _ => rfl))⟩)))))))
      · exact br_f h0 (br_f h6 (tx_isL_t ha hc (br_f tp_10 (br_f k5 (tx_isL_f hy hc (br_t rfl (br_f h0 (br_f h6 (ty_is_t ha hc (br_f tp_10 (br_f k5 (ty_is_f hy hc (br_t rfl ⟨rfl, tp_mk R⟩)))))))))))))
  · exact br_f h0 (br_f h6 (tx_isL_f hx hc (br_t rfl (br_f h0 (br_f h6 (ty_is_f hx hc (br_t rfl ⟨rfl, tp_mk R⟩)))))))
theorem i_vc_drop {k : Nat} {u : SX} {v : SY} (I : i_Rel k u v) (hk : k + 5 ≤ 2560) : wpX_drop (fun r u' => wpY_drop (fun r' v' => r' = r ∧ i_Rel (k + 5) u' v') v) u := by
  obtain ⟨c, w, kd, xs, ys, yr, S, fa, va, rfl, rfl, R⟩ := I
  have hc := R.1.2
  have h5 := R.1.1
  by_cases e : c = 5
  · subst e
    exact br_t rfl (br_f (nI_nlt (a := 5) (b := 5) (by decide) (by decide)) ⟨rfl, tp_mk R⟩)
  · obtain ⟨n, rfl⟩ : ∃ n, c = n + 1 := ⟨c - 1, by omega⟩
    refine br_f (fun z => e ((nI_eq (b := 5) (by omega) (by decide)).mp z)) (nm_r (nI_pred n) (nm_e ?_))
    exact br_t (nI_lt (a := 5) (by omega) (by omega)) (nm_r (nI_pred n) (nm_e ⟨rfl, tp_mk (tp_Rdrop R (by omega))⟩))
theorem i_vc_watch {k : Nat} {u : SX} {v : SY} (I : i_Rel k u v) (hk : k + 5 ≤ 2560) (v1 : Int32) (v2 : Int32) : wpX_watch (fun r u' => wpY_watch (fun r' v' => r' = r ∧ i_Rel (k + 5) u' v') v v1 (lw_bz v2)) u v1 (lw_bz v2) := by
  obtain ⟨c, w, kd, xs, ys, yr, S, fa, va, rfl, rfl, R⟩ := I
  have hc := R.1.2
  unfold wpX_watch wpY_watch
  dsimp only
  by_cases hx : ∃ j : Nat, j < c ∧ v1 = nI j
  · obtain ⟨a, ha, rfl⟩ := hx
    by_cases z : lw_bz v2 = 0
    · exact tx_isL_t ha hc (br_f tp_10 (br_t z (nm_e (ty_is_t ha hc (br_f tp_10 (br_t z (nm_e ⟨rfl, tp_mk R⟩)))))))
    · exact tx_isL_t ha hc (br_f tp_10 (br_f z (nm_e (ty_is_t ha hc (br_f tp_10 (br_f z (nm_e ⟨rfl, tp_mk R⟩)))))))
  · exact tx_isL_f hx hc (br_t rfl (ty_is_f hx hc (br_t rfl ⟨rfl, tp_mk R⟩)))
theorem i_vc_lines {k : Nat} {u : SX} {v : SY} (I : i_Rel k u v) (hk : k + 5 ≤ 2560) : wpX_lines (fun r => wpY_lines (fun r' => r' = r ∧ i_Rel (k + 5) u v) v) u := by
  obtain ⟨c, w, kd, xs, ys, yr, S, fa, va, rfl, rfl, R⟩ := I
  exact ⟨rfl, tp_mk R⟩
theorem i_vc_watched {k : Nat} {u : SX} {v : SY} (I : i_Rel k u v) (hk : k + 5 ≤ 2560) : wpX_watched (fun r => wpY_watched (fun r' => r' = r ∧ i_Rel (k + 5) u v) v) u := by
  obtain ⟨c, w, kd, xs, ys, yr, S, fa, va, rfl, rfl, R⟩ := I
  exact ⟨rfl, tp_mk R⟩
theorem i_vc_value {k : Nat} {u : SX} {v : SY} (I : i_Rel k u v) (hk : k + 5 ≤ 2560) (v1 : Int32) (v2 : Int32) : wpX_value (fun r => wpY_value (fun r' v' => r' = r ∧ i_Rel (k + 5) u v') v v1 v2) u v1 v2 := by
  obtain ⟨c, w, kd, xs, ys, yr, S, fa, va, rfl, rfl, R⟩ := I
  have hc := R.1.2
  unfold wpX_value
  dsimp only
  by_cases hx : ∃ j : Nat, j < c ∧ v1 = nI j
  · obtain ⟨a, ha, rfl⟩ := hx
    by_cases hn : ∃ n : Nat, n < 32 ∧ v2 = nI n
    · obtain ⟨n, hn, rfl⟩ := hn
      refine tx_isL_t ha hc (br_f tp_10 (tx_isV_t hn (br_f tp_10 ⟨vp_in_nI (by omega) (by decide), ?_⟩)))
      rw [nI_clamp (show a < 2 ^ 31 by omega), tp_ush _ n hn]
      exact ty_value_t R ha hn (fun va' => ⟨rfl, tp_mk R⟩)
    · refine tx_isL_t ha hc (br_f tp_10 (tx_isV_f hn (br_t rfl ?_)))
      unfold wpY_value
      dsimp only
      exact ty_is_t ha hc (br_f tp_10 (ty_vec_f hn (br_t rfl ⟨rfl, tp_mk R⟩)))
  · refine tx_isL_f hx hc (br_t rfl ?_)
    unfold wpY_value
    dsimp only
    exact ty_is_f hx hc (br_t rfl ⟨rfl, tp_mk R⟩)
theorem i_vc_shows {k : Nat} {u : SX} {v : SY} (I : i_Rel k u v) (hk : k + 5 ≤ 2560) (v1 : Int32) (v2 : Int32) (v3 : Int32) : wpX_shows (fun r u' => wpY_shows (fun r' v' => r' = r ∧ i_Rel (k + 5) u' v') v v1 v2 v3) u v1 v2 v3 := by
  obtain ⟨c, w, kd, xs, ys, yr, S, fa, va, rfl, rfl, R⟩ := I
  have hc := R.1.2
  unfold wpX_shows
  dsimp only
  by_cases hn : ∃ n : Nat, n < 32 ∧ v1 = nI n
  · by_cases hF : (∃ j : Nat, j < c ∧ v2 = nI j) ∧ (v3 = 0 ∨ v3 = 1)
    · obtain ⟨n, hn, rfl⟩ := hn
      obtain ⟨⟨a, ha, rfl⟩, hv⟩ := hF
      refine tx_isV_t hn (br_f tp_10 (tx_isF_t ha hc hv (br_f tp_10 (tx_vs R (fun fa' => ?_)))))
      dsimp only
      cases hb : bt (tp_V c w kd xs ys S (nI a) v3) n with
      | false => exact tx_hb_f hn hb ⟨rfl, ty_shows_t R ha hv hn (fun va' => ⟨by rw [hb]; rfl, tp_mk R⟩)⟩
      | true => exact tx_hb_t hn hb ⟨rfl, ty_shows_t R ha hv hn (fun va' => ⟨by rw [hb]; rfl, tp_mk R⟩)⟩
    · have hy := ty_shows_f (post := fun r' v' => r' = 0 ∧ i_Rel (k + 5) (nI c, w, kd, xs, ys, S, fa) v') (x := v1) (w := w) (kd := kd) (xs := xs) (yr := yr) (va := va) hc (fun z => hF ⟨z.1, z.2.1⟩) ⟨rfl, tp_mk R⟩
      obtain ⟨n, hn, rfl⟩ := hn
      exact tx_isV_t hn (br_f tp_10 (tx_isF_f hF hc (br_t rfl hy)))
  · have hy := ty_shows_f (post := fun r' v' => r' = 0 ∧ i_Rel (k + 5) (nI c, w, kd, xs, ys, S, fa) v') (x := v1) (l := v2) (v := v3) (w := w) (kd := kd) (xs := xs) (yr := yr) (va := va) hc (fun z => hn z.2.2) ⟨rfl, tp_mk R⟩
    exact tx_isV_f hn (br_t rfl hy)
theorem i_vc_test {k : Nat} {u : SX} {v : SY} (I : i_Rel k u v) (hk : k + 5 ≤ 2560) (v1 : Int32) (v2 : Int32) : wpX_test (fun r u' => wpY_test (fun r' v' => r' = r ∧ i_Rel (k + 5) u' v') v v1 v2) u v1 v2 := by
  obtain ⟨c, w, kd, xs, ys, yr, S, fa, va, rfl, rfl, R⟩ := I
  have hc := R.1.2
  unfold wpX_test wpY_test
  dsimp only
  by_cases hF : (∃ j : Nat, j < c ∧ v1 = nI j) ∧ (v2 = 0 ∨ v2 = 1)
  · obtain ⟨⟨a, ha, rfl⟩, hv⟩ := hF
    exact tx_testFrom_t R ha hv (fun fa' => ty_testFrom_t R ha hv (fun va' => ⟨rfl, tp_mk R⟩))
  · exact tx_testFrom_f hc hF (ty_testFrom_f hc hF ⟨rfl, tp_mk R⟩)
theorem i_vc_testFrom {k : Nat} {u : SX} {v : SY} (I : i_Rel k u v) (hk : k + 5 ≤ 2560) (v1 : Int32) (v2 : Int32) (v3 : Int32) : wpX_testFrom (fun r u' => wpY_testFrom (fun r' v' => r' = r ∧ i_Rel (k + 5) u' v') v v1 v2 v3) u v1 v2 v3 := by
  obtain ⟨c, w, kd, xs, ys, yr, S, fa, va, rfl, rfl, R⟩ := I
  have hc := R.1.2
  by_cases hF : (∃ j : Nat, j < c ∧ v1 = nI j) ∧ (v2 = 0 ∨ v2 = 1)
  · obtain ⟨⟨a, ha, rfl⟩, hv⟩ := hF
    exact tx_testFrom_t R ha hv (fun fa' => ty_testFrom_t R ha hv (fun va' => ⟨rfl, tp_mk R⟩))
  · exact tx_testFrom_f hc hF (ty_testFrom_f hc hF ⟨rfl, tp_mk R⟩)
theorem i_vc_hidden {k : Nat} {u : SX} {v : SY} (I : i_Rel k u v) (hk : k + 5 ≤ 2560) (v1 : Int32) : wpX_hidden (fun r u' => wpY_hidden (fun r' v' => r' = r ∧ i_Rel (k + 5) u' v') v v1) u v1 := by
  obtain ⟨c, w, kd, xs, ys, yr, S, fa, va, rfl, rfl, R⟩ := I
  have hc := R.1.2
  have h5 := R.1.1
  unfold wpX_hidden
  dsimp only
  by_cases hv : v1 = 0 ∨ v1 = 1
  · exact tx_isS_t hv (br_f tp_10 ⟨c + 1, tx_hid13 R (fun fa' => ⟨c + 1, ty_hid4 R hv (fun va' => ⟨rfl, tp_mk R⟩) c 0 va (by omega)⟩) c 0 fa (by omega)⟩)
  · exact tx_isS_f hv (br_t rfl ⟨1, br_f (nI_ge (a := 0) (show 0 < c by omega) (by omega)) (br_f (fun z => hv (Or.inl z)) (br_f (fun z => hv (Or.inr z)) ⟨rfl, tp_mk R⟩))⟩)
theorem i_vc_shownBy {k : Nat} {u : SX} {v : SY} (I : i_Rel k u v) (hk : k + 5 ≤ 2560) (v1 : Int32) : wpX_shownBy (fun r u' => wpY_shownBy (fun r' v' => r' = r ∧ i_Rel (k + 5) u' v') v v1) u v1 := by
  obtain ⟨c, w, kd, xs, ys, yr, S, fa, va, rfl, rfl, R⟩ := I
  have hc := R.1.2
  by_cases hn : ∃ n : Nat, n < 32 ∧ v1 = nI n
  · obtain ⟨n, hn, rfl⟩ := hn
    exact tx_shownBy_t R hn (fun fa' => ty_shownBy_t R hn (fun va' => ⟨rfl, tp_mk R⟩))
  · unfold wpX_shownBy
    dsimp only
    exact tx_isV_f hn (br_t rfl (ty_shownBy_f hc hn ⟨rfl, tp_mk R⟩))
theorem i_vc_bestVector {k : Nat} {u : SX} {v : SY} (I : i_Rel k u v) (hk : k + 5 ≤ 2560) : wpX_bestVector (fun r u' => wpY_bestVector (fun r' v' => r' = r ∧ i_Rel (k + 5) u' v') v) u := by
  obtain ⟨c, w, kd, xs, ys, yr, S, fa, va, rfl, rfl, R⟩ := I
  exact tx_bestVector R (fun fa' => ty_bestVector R (fun va' => ⟨rfl, tp_mk R⟩))
theorem i_vc_alike {k : Nat} {u : SX} {v : SY} (I : i_Rel k u v) (hk : k + 5 ≤ 2560) (v1 : Int32) (v2 : Int32) (v3 : Int32) (v4 : Int32) : wpX_alike (fun r u' => wpY_alike (fun r' v' => r' = r ∧ i_Rel (k + 5) u' v') v v1 v2 v3 v4) u v1 v2 v3 v4 := by
  obtain ⟨c, w, kd, xs, ys, yr, S, fa, va, rfl, rfl, R⟩ := I
  have hc := R.1.2
  unfold wpX_alike
  dsimp only
  by_cases hA : (∃ j : Nat, j < c ∧ v1 = nI j) ∧ (v2 = 0 ∨ v2 = 1)
  · by_cases hB : (∃ j : Nat, j < c ∧ v3 = nI j) ∧ (v4 = 0 ∨ v4 = 1)
    · obtain ⟨⟨a, ha, rfl⟩, hv⟩ := hA
      obtain ⟨⟨b, hb, rfl⟩, hx⟩ := hB
      refine tx_isF_t ha hc hv (br_f tp_10 (tx_isF_t hb hc hx (br_f tp_10 (tx_vs R (fun fa1 => tx_vs R (fun fa2 => ?_))))))
      by_cases z : tp_V c w kd xs ys S (nI a) v2 = tp_V c w kd xs ys S (nI b) v4
      · exact br_t z (ty_alike_t R ha hb hv hx (fun va' => ⟨by rw [decide_eq_true z]; rfl, tp_mk R⟩))
      · exact br_f z (ty_alike_t R ha hb hv hx (fun va' => ⟨by rw [decide_eq_false z]; rfl, tp_mk R⟩))
    · have hy := ty_alike_f (post := fun r' v' => r' = 0 ∧ i_Rel (k + 5) (nI c, w, kd, xs, ys, S, fa) v') (l := v1) (v := v2) (m := v3) (x := v4) (w := w) (kd := kd) (xs := xs) (yr := yr) (va := va) hc (fun z => hB z.2) ⟨rfl, tp_mk R⟩
      obtain ⟨⟨a, ha, rfl⟩, hv⟩ := hA
      exact tx_isF_t ha hc hv (br_f tp_10 (tx_isF_f hB hc (br_t rfl hy)))
  · exact tx_isF_f hA hc (br_t rfl (ty_alike_f hc (fun z => hA z.1) ⟨rfl, tp_mk R⟩))
theorem i_vc_ones {k : Nat} {u : SX} {v : SY} (I : i_Rel k u v) (hk : k + 5 ≤ 2560) (v1 : Int32) : wpX_ones (fun r => wpY_ones (fun r' v' => r' = r ∧ i_Rel (k + 5) u v') v v1) u v1 := by
  obtain ⟨c, w, kd, xs, ys, yr, S, fa, va, rfl, rfl, R⟩ := I
  have hc := R.1.2
  unfold wpX_ones
  dsimp only
  by_cases hx : ∃ j : Nat, j < c ∧ v1 = nI j
  · obtain ⟨a, ha, rfl⟩ := hx
    exact tx_isL_t ha hc (br_f tp_10 ⟨33, tx_on14 (by omega) ⟨33, ty_on4 R ha (fun va' => ⟨rfl, tp_mk R⟩) 32 0 va (by omega)⟩ 32 0 (by omega)⟩)
  · refine tx_isL_f hx hc (br_t rfl ⟨1, br_f (by decide) (ty_is_f hx hc (br_t rfl ?_))⟩)
    unfold wY_ones_33
    exact ty_is_f hx hc (br_t rfl ⟨rfl, tp_mk R⟩)
end
