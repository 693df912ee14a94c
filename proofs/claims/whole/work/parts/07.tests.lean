/-! testFrom, hidden, on both sides -/
/-- testFrom's answer out of the vectors V that show the fault -/
def tp_tf (V : Int32) (from' : Int32) : Int32 := tp_f (fun k => decide (¬ nI k < from') && bt V k) 32 0
theorem tx_tf34 {post : Int32 → SX → Prop} {c : Nat} {w V : Int32} {kd xs ys S fa : Nat → Int32} : ∀ d k : Nat, k + d = 32 → post (tp_f (bt V) d k) (nI c, w, kd, xs, ys, S, fa) → wX_testFrom_34 post V (nI c) w kd xs ys S fa (d + 1) (nI k) := by
  intro d
  induction d with
  | zero =>
    intro k hk hp
    exact br_t (nI_le (a := 32) (by omega) (by omega)) hp
  | succ d ih =>
    intro k hk hp
    refine br_f (nI_ge (b := 32) (by omega) (by decide)) ?_
    rw [tp_f] at hp
    cases hb : bt V k with
    | false =>
      rw [if_neg (by rw [hb]; decide)] at hp
      exact tx_hb_f (by omega) hb (br_t rfl (nm_r (nI_1 k) (ih (k + 1) (by omega) hp)))
    | true =>
      rw [if_pos hb] at hp
      exact tx_hb_t (by omega) hb (br_f tp_10 hp)
theorem tp_tf0 (V : Int32) : tp_tf V 0 = tp_f (bt V) 32 0 := by
  refine tp_f_eq _ _ 32 0 (fun j _ hj => ?_)
  show (decide (¬ nI j < 0) && bt V j) = bt V j
  rw [decide_eq_true (nI_pos (by omega)), Bool.true_and]
theorem tx_testFrom_t {post : Int32 → SX → Prop} {c j : Nat} {w v fr : Int32} {kd xs ys yr S fa : Nat → Int32} (R : tp_R c kd xs ys yr S) (hj : j < c) (hv : v = 0 ∨ v = 1) (hp : ∀ fa', post (tp_tf (tp_V c w kd xs ys S (nI j) v) fr) (nI c, w, kd, xs, ys, S, fa')) :
    wpX_testFrom post (nI c, w, kd, xs, ys, S, fa) (nI j) v fr := by
  have hc := R.1.2
  unfold wpX_testFrom
  dsimp only
  refine tx_isF_t hj hc hv (br_f tp_10 (tx_vs R (fun fa1 => ?_)))
  have h := hp fa1
  generalize tp_V c w kd xs ys S (nI j) v = V at h ⊢
  rcases pk_ix fr (n := 32) (by decide) with h1 | h1 | ⟨st, hst, rfl⟩
  · have e : tp_tf V fr = tp_f (bt V) 32 0 := by
      refine tp_f_eq _ _ 32 0 (fun i _ hi => ?_)
      show (decide (¬ nI i < fr) && bt V i) = bt V i
      rw [decide_eq_true (show ¬ nI i < fr from fun z => nI_pos (show i < 2 ^ 31 by omega) (Int32.lt_trans z h1)), Bool.true_and]
    rw [e] at h
    exact br_f (fun z => absurd h1 (Int32.not_lt.mpr z)) ⟨33, tx_tf34 32 0 (by omega) h⟩
  · have e : tp_tf V fr = -1 := by
      refine tp_f_add _ 0 32 0 (fun i _ hi => ?_)
      show (decide (¬ nI i < fr) && bt V i) = false
      have z : nI i < fr := by
        have h2 := nI_lt (show i < 32 by omega) (by decide)
        rw [Int32.lt_iff_toInt_lt] at h2 ⊢
        rw [Int32.le_iff_toInt_le] at h1
        omega
      rw [decide_eq_false (fun y => y z), Bool.false_and]
    rw [e] at h
    have h0 : (0 : Int32) ≤ fr := by
      rw [Int32.le_iff_toInt_le, nI_toInt (by decide)] at h1
      rw [Int32.le_iff_toInt_le, show (0 : Int32).toInt = 0 from by decide]
      omega
    exact br_t h0 ⟨1, br_t h1 h⟩
  · have e : tp_tf V (nI st) = tp_f (bt V) (32 - st) st := by
      have h2 := tp_f_add (fun k => decide (¬ nI k < nI st) && bt V k) (32 - st) st 0 (fun i _ hi => by
        show (decide (¬ nI i < nI st) && bt V i) = false
        rw [decide_eq_false (fun y => y (nI_lt (show i < st by omega) (by omega))), Bool.false_and])
      rw [show 32 - st + st = 32 by omega, Nat.zero_add] at h2
      refine h2.trans (tp_f_eq _ _ _ _ (fun i hi _ => ?_))
      show (decide (¬ nI i < nI st) && bt V i) = bt V i
      rw [decide_eq_true (nI_nlt (show st ≤ i by omega) (by omega)), Bool.true_and]
    rw [e] at h
    exact br_t (nI_pos' (by omega)) ⟨32 - st + 1, tx_tf34 (32 - st) st (by omega) h⟩
theorem ty_tf3 {post : Int32 → SY → Prop} {c j : Nat} {w v fr : Int32} {kd xs ys yr S : Nat → Int32} (R : tp_R c kd xs ys yr S) (hj : j < c) (hv : v = 0 ∨ v = 1) : ∀ (d k : Nat) (va : Nat → Int32), k + d = 32 → (∀ va', post (tp_f (fun k => decide (¬ nI k < fr) && bt (tp_V c w kd xs ys S (nI j) v) k) d k) (nI c, w, kd, xs, yr, va')) → wY_testFrom_3 post (nI j) v fr (d + 1) (nI k) (nI c) w kd xs yr va := by
  intro d
  induction d with
  | zero =>
    intro k va hk hp
    exact br_t (nI_le (a := 32) (by omega) (by omega)) (hp va)
  | succ d ih =>
    intro k va hk hp
    refine br_f (nI_ge (b := 32) (by omega) (by decide)) ?_
    by_cases hf : nI k < fr
    · refine br_t hf (nm_r (nI_1 k) (ih (k + 1) va (by omega) (fun va' => ?_)))
      have h := hp va'
      rw [tp_f, if_neg (by rw [decide_eq_false (fun y => y hf), Bool.false_and]; decide)] at h
      exact h
    · refine br_f hf (ty_shows_t R hj hv (by omega) (fun va' => ?_))
      have h := hp
      cases hb : bt (tp_V c w kd xs ys S (nI j) v) k with
      | false =>
        refine br_t rfl (nm_r (nI_1 k) (ih (k + 1) va' (by omega) (fun va2 => ?_)))
        have h2 := h va2
        rw [tp_f, if_neg (by rw [hb, Bool.and_false]; decide)] at h2
        exact h2
      | true =>
        have h2 := h va'
        rw [tp_f, if_pos (by rw [hb, decide_eq_true hf]; rfl)] at h2
        exact br_f tp_10 h2
theorem ty_tf3_f {post : Int32 → SY → Prop} {c : Nat} {l w v fr : Int32} {kd xs yr va : Nat → Int32} (hc : c ≤ 16) (hn : ¬ ((∃ j : Nat, j < c ∧ l = nI j) ∧ (v = 0 ∨ v = 1))) (hp : post (-1) (nI c, w, kd, xs, yr, va)) : ∀ (d k : Nat), k + d = 32 → wY_testFrom_3 post l v fr (d + 1) (nI k) (nI c) w kd xs yr va := by
  intro d
  induction d with
  | zero =>
    intro k hk
    exact br_t (nI_le (a := 32) (by omega) (by omega)) hp
  | succ d ih =>
    intro k hk
    refine br_f (nI_ge (b := 32) (by omega) (by decide)) ?_
    by_cases hf : nI k < fr
    · exact br_t hf (nm_r (nI_1 k) (ih (k + 1) (by omega)))
    · exact br_f hf (ty_shows_f hc (fun z => hn ⟨z.1, z.2.1⟩) (br_t rfl (nm_r (nI_1 k) (ih (k + 1) (by omega)))))
theorem ty_testFrom_t {post : Int32 → SY → Prop} {c j : Nat} {w v fr : Int32} {kd xs ys yr S va : Nat → Int32} (R : tp_R c kd xs ys yr S) (hj : j < c) (hv : v = 0 ∨ v = 1) (hp : ∀ va', post (tp_tf (tp_V c w kd xs ys S (nI j) v) fr) (nI c, w, kd, xs, yr, va')) :
    wpY_testFrom post (nI c, w, kd, xs, yr, va) (nI j) v fr := ⟨33, ty_tf3 R hj hv 32 0 va (by omega) hp⟩
theorem ty_testFrom_f {post : Int32 → SY → Prop} {c : Nat} {l w v fr : Int32} {kd xs yr va : Nat → Int32} (hc : c ≤ 16) (hn : ¬ ((∃ j : Nat, j < c ∧ l = nI j) ∧ (v = 0 ∨ v = 1))) (hp : post (-1) (nI c, w, kd, xs, yr, va)) :
    wpY_testFrom post (nI c, w, kd, xs, yr, va) l v fr := ⟨33, ty_tf3_f hc hn hp 32 0 (by omega)⟩
theorem tx_testFrom_f {post : Int32 → SX → Prop} {c : Nat} {l w v fr : Int32} {kd xs ys S fa : Nat → Int32} (hc : c ≤ 16) (hn : ¬ ((∃ j : Nat, j < c ∧ l = nI j) ∧ (v = 0 ∨ v = 1))) (hp : post (-1) (nI c, w, kd, xs, ys, S, fa)) :
    wpX_testFrom post (nI c, w, kd, xs, ys, S, fa) l v fr := by
  unfold wpX_testFrom
  dsimp only
  exact tx_isF_f hn hc (br_t rfl hp)
/-- the lines whose V is empty -/
def tp_H (V : Nat → Int32) : Nat → Int32
  | 0 => 0
  | n + 1 => if V n = 0 then tp_H V n ||| ((1 : Int32) <<< (nI n &&& 31)) else tp_H V n
theorem tx_hid13 {post : Int32 → SX → Prop} {c : Nat} {w v : Int32} {kd xs ys yr S : Nat → Int32} (R : tp_R c kd xs ys yr S) (hp : ∀ fa', post (tp_H (fun i => tp_V c w kd xs ys S (nI i) v) c) (nI c, w, kd, xs, ys, S, fa')) :
    ∀ (d j : Nat) (fa : Nat → Int32), j + d = c → wX_hidden_13 post v (d + 1) (tp_H (fun i => tp_V c w kd xs ys S (nI i) v) j) (nI j) (nI c) w kd xs ys S fa := by
  have hc := R.1.2
  intro d
  induction d with
  | zero =>
    intro j fa hj
    have e : j = c := by omega
    rw [e]
    exact br_t (nI_le (by omega) (by omega)) (hp fa)
  | succ d ih =>
    intro j fa hj
    refine br_f (nI_ge (show j < c by omega) (by omega)) (tx_vs R (fun fa1 => ?_))
    have h := ih (j + 1) fa1 (by omega)
    rw [tp_H] at h
    by_cases z : tp_V c w kd xs ys S (nI j) v = 0
    · rw [if_pos z] at h
      exact br_t z (nm_e (nm_r (nI_1 j) h))
    · rw [if_neg z] at h
      exact br_f z (nm_r (nI_1 j) h)
theorem ty_hid4 {post : Int32 → SY → Prop} {c : Nat} {w v : Int32} {kd xs ys yr S : Nat → Int32} (R : tp_R c kd xs ys yr S) (hv : v = 0 ∨ v = 1) (hp : ∀ va', post (tp_H (fun i => tp_V c w kd xs ys S (nI i) v) c) (nI c, w, kd, xs, yr, va')) :
    ∀ (d j : Nat) (va : Nat → Int32), j + d = c → wY_hidden_4 post v (d + 1) (tp_H (fun i => tp_V c w kd xs ys S (nI i) v) j) (nI j) (nI c) w kd xs yr va := by
  have hc := R.1.2
  intro d
  induction d with
  | zero =>
    intro j va hj
    have e : j = c := by omega
    rw [e]
    exact br_t (nI_le (by omega) (by omega)) (hp va)
  | succ d ih =>
    intro j va hj
    have hjc : j < c := by omega
    have key : wY_hidden_21 post (wY_hidden_4 post v (d + 1)) v (tp_H (fun i => tp_V c w kd xs ys S (nI i) v) j) (nI j) (nI c) w kd xs yr va := by
      unfold wY_hidden_21 wpY_test
      dsimp only
      refine ty_testFrom_t R hjc hv (fun va1 => ?_)
      have h := ih (j + 1) va1 (by omega)
      rw [tp_H] at h
      have e : tp_tf (tp_V c w kd xs ys S (nI j) v) 0 < 0 ↔ tp_V c w kd xs ys S (nI j) v = 0 := by rw [tp_tf0]; exact tp_f_z _
      by_cases z : tp_V c w kd xs ys S (nI j) v = 0
      · rw [if_pos z] at h
        exact br_f (Int32.not_le.mpr (e.mpr z)) (nm_e (nm_r (nI_1 j) h))
      · rw [if_neg z] at h
        exact br_t (Int32.not_lt.mp (fun y => z (e.mp y))) (nm_r (nI_1 j) h)
    refine br_f (nI_ge hjc (by omega)) ?_
    by_cases z : v = 0
    · exact br_t z key
    · exact br_f z (br_t (hv.resolve_left z) key)
