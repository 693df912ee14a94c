/-! shownBy, bestVector, alike, ones, on both sides -/
/-- how many faults vector k shows on the first n lines -/
def tp_sb (c : Nat) (w : Int32) (kd xs ys S : Nat → Int32) (k n : Nat) : Nat := tp_N (fun i => bt (tp_V c w kd xs ys S (nI i) 0) k) (fun i => bt (tp_V c w kd xs ys S (nI i) 1) k) n
theorem tp_sb_s (c : Nat) (w : Int32) (kd xs ys S : Nat → Int32) (k n : Nat) : nI (tp_sb c w kd xs ys S k n) + tp_b (bt (tp_V c w kd xs ys S (nI n) 0) k) + tp_b (bt (tp_V c w kd xs ys S (nI n) 1) k) = nI (tp_sb c w kd xs ys S k (n + 1)) :=
  tp_N_s (fun i => bt (tp_V c w kd xs ys S (nI i) 0) k) (fun i => bt (tp_V c w kd xs ys S (nI i) 1) k) n
theorem tx_sb24 {post : Int32 → SX → Prop} {J : Int32 → Int32 → Int32 → Int32 → (Nat → Int32) → (Nat → Int32) → (Nat → Int32) → (Nat → Int32) → (Nat → Int32) → Prop} {c j k : Nat} {w x2 : Int32} {kd xs ys yr S fa : Nat → Int32} (R : tp_R c kd xs ys yr S) (hk : k < 32)
    (hJ : ∀ fa', J (x2 + tp_b (bt (tp_V c w kd xs ys S (nI j) 0) k) + tp_b (bt (tp_V c w kd xs ys S (nI j) 1) k)) (nI (j + 1)) (nI c) w kd xs ys S fa') : wX_shownBy_24 post J (nI k) (nI j) 3 x2 0 (nI c) w kd xs ys S fa := by
  refine br_f (by decide) (tx_vs R (fun fa1 => ?_))
  refine nm_r (congrArg (fun z => x2 + z) (tp_ush _ k hk)) (nm_r (show (0 : Int32) + 1 = 1 from by decide) ?_)
  refine br_f (by decide) (tx_vs R (fun fa2 => ?_))
  refine nm_r (congrArg (fun z => x2 + tp_b (bt (tp_V c w kd xs ys S (nI j) 0) k) + z) (tp_ush _ k hk)) (nm_r (show (1 : Int32) + 1 = 2 from by decide) ?_)
  exact br_t (by decide) (nm_r (nI_1 j) (hJ fa2))
theorem tx_sb13 {post : Int32 → SX → Prop} {c k : Nat} {w : Int32} {kd xs ys yr S : Nat → Int32} (R : tp_R c kd xs ys yr S) (hk : k < 32) (hp : ∀ fa', post (nI (tp_sb c w kd xs ys S k c)) (nI c, w, kd, xs, ys, S, fa')) :
    ∀ (d j : Nat) (fa : Nat → Int32), j + d = c → wX_shownBy_13 post (nI k) (d + 1) (nI (tp_sb c w kd xs ys S k j)) (nI j) (nI c) w kd xs ys S fa := by
  have hc := R.1.2
  intro d
  induction d with
  | zero =>
    intro j fa hj
    have e : j = c := by omega
    rw [e]
    exact br_t (nI_le (by omega) (by omega)) (hp fa)
  | succ d ih =>
    intro j fa hj
    refine br_f (nI_ge (show j < c by omega) (by omega)) ⟨3, tx_sb24 R hk (fun fa' => ?_)⟩
    rw [tp_sb_s]
    exact ih (j + 1) fa' (by omega)
theorem tx_shownBy_t {post : Int32 → SX → Prop} {c k : Nat} {w : Int32} {kd xs ys yr S fa : Nat → Int32} (R : tp_R c kd xs ys yr S) (hk : k < 32) (hp : ∀ fa', post (nI (tp_sb c w kd xs ys S k c)) (nI c, w, kd, xs, ys, S, fa')) : wpX_shownBy post (nI c, w, kd, xs, ys, S, fa) (nI k) := by
  unfold wpX_shownBy
  dsimp only
  exact tx_isV_t hk (br_f tp_10 ⟨c + 1, tx_sb13 R hk hp c 0 fa (by omega)⟩)
theorem ty_sb28 {post : Int32 → SY → Prop} {J : Int32 → Int32 → Int32 → Int32 → (Nat → Int32) → (Nat → Int32) → (Nat → Int32) → (Nat → Int32) → Prop} {c j k : Nat} {w z0 x2 : Int32} {kd xs ys yr S va : Nat → Int32} (R : tp_R c kd xs ys yr S) (hj : j < c) (hk : k < 32)
    (hJ : ∀ va', J (x2 + z0 + tp_b (bt (tp_V c w kd xs ys S (nI j) 1) k)) (nI (j + 1)) (nI c) w kd xs yr va') : wY_shownBy_28 post J (nI k) (nI j) z0 x2 (nI c) w kd xs yr va := by
  unfold wY_shownBy_28
  refine ty_shows_t R hj (Or.inr rfl) hk (fun va' => ?_)
  have h := hJ va'
  cases hb : bt (tp_V c w kd xs ys S (nI j) 1) k with
  | false =>
    rw [hb] at h
    exact br_t rfl (nm_e (nm_r (nI_1 j) h))
  | true =>
    rw [hb] at h
    exact br_f tp_10 (nm_e (nm_r (nI_1 j) h))
theorem ty_sb4 {post : Int32 → SY → Prop} {c k : Nat} {w : Int32} {kd xs ys yr S : Nat → Int32} (R : tp_R c kd xs ys yr S) (hk : k < 32) (hp : ∀ va', post (nI (tp_sb c w kd xs ys S k c)) (nI c, w, kd, xs, yr, va')) :
    ∀ (d j : Nat) (va : Nat → Int32), j + d = c → wY_shownBy_4 post (nI k) (d + 1) (nI (tp_sb c w kd xs ys S k j)) (nI j) (nI c) w kd xs yr va := by
  have hc := R.1.2
  intro d
  induction d with
  | zero =>
    intro j va hj
    have e : j = c := by omega
    rw [e]
    exact br_t (nI_le (by omega) (by omega)) (ty_vec_t hk (br_f tp_10 (hp va)))
  | succ d ih =>
    intro j va hj
    have hjc : j < c := by omega
    refine br_f (nI_ge hjc (by omega)) (ty_shows_t R hjc (Or.inl rfl) hk (fun va1 => ?_))
    have key : wY_shownBy_28 post (wY_shownBy_4 post (nI k) (d + 1)) (nI k) (nI j) (tp_b (bt (tp_V c w kd xs ys S (nI j) 0) k)) (nI (tp_sb c w kd xs ys S k j)) (nI c) w kd xs yr va1 := by
      refine ty_sb28 R hjc hk (fun va' => ?_)
      rw [tp_sb_s]
      exact ih (j + 1) va' (by omega)
    cases hb : bt (tp_V c w kd xs ys S (nI j) 0) k with
    | false =>
      rw [hb] at key
      exact br_t rfl key
    | true =>
      rw [hb] at key
      exact br_f tp_10 key
theorem ty_sb4_f {post : Int32 → SY → Prop} {c : Nat} {x w : Int32} {kd xs yr va : Nat → Int32} (hc : c ≤ 16) (hn : ¬ ∃ k : Nat, k < 32 ∧ x = nI k) (hp : post (-1) (nI c, w, kd, xs, yr, va)) :
    ∀ (d j : Nat) (x2 : Int32), j + d = c → wY_shownBy_4 post x (d + 1) x2 (nI j) (nI c) w kd xs yr va := by
  intro d
  induction d with
  | zero =>
    intro j x2 hj
    have e : j = c := by omega
    rw [e]
    exact br_t (nI_le (by omega) (by omega)) (ty_vec_f hn (br_t rfl hp))
  | succ d ih =>
    intro j x2 hj
    refine br_f (nI_ge (show j < c by omega) (by omega)) (ty_shows_f hc (fun z => hn z.2.2) (br_t rfl ?_))
    unfold wY_shownBy_28
    exact ty_shows_f hc (fun z => hn z.2.2) (br_t rfl (nm_e (nm_r (nI_1 j) (ih (j + 1) _ (by omega)))))
theorem ty_shownBy_t {post : Int32 → SY → Prop} {c k : Nat} {w : Int32} {kd xs ys yr S va : Nat → Int32} (R : tp_R c kd xs ys yr S) (hk : k < 32) (hp : ∀ va', post (nI (tp_sb c w kd xs ys S k c)) (nI c, w, kd, xs, yr, va')) : wpY_shownBy post (nI c, w, kd, xs, yr, va) (nI k) :=
  ⟨c + 1, ty_sb4 R hk hp c 0 va (by omega)⟩
theorem ty_shownBy_f {post : Int32 → SY → Prop} {c : Nat} {x w : Int32} {kd xs yr va : Nat → Int32} (hc : c ≤ 16) (hn : ¬ ∃ k : Nat, k < 32 ∧ x = nI k) (hp : post (-1) (nI c, w, kd, xs, yr, va)) : wpY_shownBy post (nI c, w, kd, xs, yr, va) x :=
  ⟨c + 1, ty_sb4_f hc hn hp c 0 0 (by omega)⟩
/-- the best vector among 0 .. n and its count -/
def tp_bv (c : Nat) (w : Int32) (kd xs ys S : Nat → Int32) (n : Nat) : Nat × Nat := tp_B (fun k => tp_sb c w kd xs ys S k c) n
theorem tp_sb_le (c : Nat) (w : Int32) (kd xs ys S : Nat → Int32) (k : Nat) (hc : c ≤ 16) : tp_sb c w kd xs ys S k c ≤ 32 := by
  have h := tp_N_le (fun i => bt (tp_V c w kd xs ys S (nI i) 0) k) (fun i => bt (tp_V c w kd xs ys S (nI i) 1) k) c
  show tp_N _ _ c ≤ 32
  omega
theorem tp_bv_le (c : Nat) (w : Int32) (kd xs ys S : Nat → Int32) (n : Nat) (hc : c ≤ 16) : (tp_bv c w kd xs ys S n).2 ≤ 32 := tp_B_le _ 32 (fun k => tp_sb_le c w kd xs ys S k hc) n
theorem tp_bv_s (c : Nat) (w : Int32) (kd xs ys S : Nat → Int32) (n : Nat) : tp_bv c w kd xs ys S (n + 1) = if (tp_bv c w kd xs ys S n).2 < tp_sb c w kd xs ys S (n + 1) c then (n + 1, tp_sb c w kd xs ys S (n + 1) c) else tp_bv c w kd xs ys S n := rfl
theorem tx_bv10 {post : Int32 → SX → Prop} {c : Nat} {w : Int32} {kd xs ys yr S : Nat → Int32} (R : tp_R c kd xs ys yr S) (hp : ∀ fa', post (nI (tp_bv c w kd xs ys S 31).1) (nI c, w, kd, xs, ys, S, fa')) :
    ∀ (d n : Nat) (fa : Nat → Int32), n + d = 31 → wX_bestVector_10 post (d + 1) (nI (tp_bv c w kd xs ys S n).1) (nI (tp_bv c w kd xs ys S n).2) (nI (n + 1)) (nI c) w kd xs ys S fa := by
  have hc := R.1.2
  intro d
  induction d with
  | zero =>
    intro n fa hn
    have e : n = 31 := by omega
    rw [e]
    exact br_t (nI_le (a := 32) (by omega) (by omega)) (hp fa)
  | succ d ih =>
    intro n fa hn
    refine br_f (nI_ge (b := 32) (by omega) (by decide)) (tx_shownBy_t R (show n + 1 < 32 by omega) (fun fa' => ?_))
    have h := ih (n + 1) fa' (by omega)
    have h1 := tp_sb_le c w kd xs ys S (n + 1) hc
    have h2 := tp_bv_le c w kd xs ys S n hc
    rw [tp_bv_s] at h
    by_cases z : (tp_bv c w kd xs ys S n).2 < tp_sb c w kd xs ys S (n + 1) c
    · rw [if_pos z] at h
      exact br_f (nI_ge z (by omega)) (nm_r (nI_1 (n + 1)) h)
    · rw [if_neg z] at h
      exact br_t (nI_le (by omega) (by omega)) (nm_r (nI_1 (n + 1)) h)
theorem ty_bv6 {post : Int32 → SY → Prop} {c : Nat} {w : Int32} {kd xs ys yr S : Nat → Int32} (R : tp_R c kd xs ys yr S) (hp : ∀ va', post (nI (tp_bv c w kd xs ys S 31).1) (nI c, w, kd, xs, yr, va')) :
    ∀ (d n : Nat) (va : Nat → Int32), n + d = 31 → wY_bestVector_6 post (d + 1) (nI (tp_bv c w kd xs ys S n).1) (nI (tp_bv c w kd xs ys S n).2) (nI (n + 1)) (nI c) w kd xs yr va := by
  have hc := R.1.2
  intro d
  induction d with
  | zero =>
    intro n va hn
    have e : n = 31 := by omega
    rw [e]
    exact br_t (nI_le (a := 32) (by omega) (by omega)) (hp va)
  | succ d ih =>
    intro n va hn
    refine br_f (nI_ge (b := 32) (by omega) (by decide)) (ty_shownBy_t R (show n + 1 < 32 by omega) (fun va' => ?_))
    have h := ih (n + 1) va' (by omega)
    have h1 := tp_sb_le c w kd xs ys S (n + 1) hc
    have h2 := tp_bv_le c w kd xs ys S n hc
    rw [tp_bv_s] at h
    by_cases z : (tp_bv c w kd xs ys S n).2 < tp_sb c w kd xs ys S (n + 1) c
    · rw [if_pos z] at h
      exact br_f (nI_ge z (by omega)) (br_f (nI_ge z (by omega)) (nm_r (nI_1 (n + 1)) h))
    · rw [if_neg z] at h
      exact br_t (nI_le (by omega) (by omega)) (br_t (nI_le (by omega) (by omega)) (nm_r (nI_1 (n + 1)) h))
theorem tp_m1n {n : Nat} (h : n ≤ 32) : ¬ nI n ≤ -1 := (by decide +kernel : ∀ n, n ≤ 32 → ¬ nI n ≤ -1) n h
theorem ty_bestVector {post : Int32 → SY → Prop} {c : Nat} {w : Int32} {kd xs ys yr S va : Nat → Int32} (R : tp_R c kd xs ys yr S) (hp : ∀ va', post (nI (tp_bv c w kd xs ys S 31).1) (nI c, w, kd, xs, yr, va')) : wpY_bestVector post (nI c, w, kd, xs, yr, va) := by
  have hc := R.1.2
  refine ⟨33, br_f (nI_ge (a := 0) (b := 32) (by decide) (by decide)) (ty_shownBy_t (k := 0) R (by decide) (fun va' => ?_))⟩
  have h := ty_bv6 R hp 31 0 va' (by omega)
  have hm := tp_m1n (tp_sb_le c w kd xs ys S 0 hc)
  exact br_f hm (br_f hm (nm_r (show (0 : Int32) + 1 = nI (0 + 1) from by decide) h))
theorem tx_bestVector {post : Int32 → SX → Prop} {c : Nat} {w : Int32} {kd xs ys yr S fa : Nat → Int32} (R : tp_R c kd xs ys yr S) (hp : ∀ fa', post (nI (tp_bv c w kd xs ys S 31).1) (nI c, w, kd, xs, ys, S, fa')) : wpX_bestVector post (nI c, w, kd, xs, ys, S, fa) := by
  unfold wpX_bestVector
  dsimp only
  exact tx_shownBy_t (k := 0) R (by decide) (fun fa' => ⟨32, tx_bv10 R hp 31 0 fa' (by omega)⟩)
/-- alike: from k on, all before k the same -/
theorem ty_al46 {post : Int32 → SY → Prop} {c a b : Nat} {w v x : Int32} {kd xs ys yr S : Nat → Int32} (R : tp_R c kd xs ys yr S) (ha : a < c) (hb : b < c) (hv : v = 0 ∨ v = 1) (hx : x = 0 ∨ x = 1)
    (hp : ∀ va', post (tp_b (decide (tp_V c w kd xs ys S (nI a) v = tp_V c w kd xs ys S (nI b) x))) (nI c, w, kd, xs, yr, va')) :
    ∀ (d k : Nat) (va : Nat → Int32), k + d = 32 → (∀ i, i < k → bt (tp_V c w kd xs ys S (nI a) v) i = bt (tp_V c w kd xs ys S (nI b) x) i) → wY_alike_46 post (nI a) v (nI b) x (d + 2) 1 (nI k) (nI c) w kd xs yr va := by
  intro d
  induction d with
  | zero =>
    intro k va hk hs
    have e : k = 32 := by omega
    have h := hp va
    rw [decide_eq_true (b_ext (fun i hi => hs i (by omega)))] at h
    exact br_t (nI_le (a := 32) (by omega) (by omega)) ⟨rfl, h⟩
  | succ d ih =>
    intro k va hk hs
    refine br_f (nI_ge (b := 32) (by omega) (by decide)) (br_f tp_10 (ty_shows_t R ha hv (show k < 32 by omega) (fun va1 => ty_shows_t R hb hx (show k < 32 by omega) (fun va2 => ?_))))
    by_cases z : bt (tp_V c w kd xs ys S (nI a) v) k = bt (tp_V c w kd xs ys S (nI b) x) k
    · refine br_t (congrArg tp_b z) (nm_r (nI_1 k) (ih (k + 1) va2 (by omega) (fun i hi => ?_)))
      by_cases e : i = k
      · rw [e]; exact z
      · exact hs i (by omega)
    · have h := hp va2
      rw [decide_eq_false (fun e => z (by rw [e]))] at h
      refine br_f (fun e => z ?_) (nm_r (nI_1 k) ?_)
      · revert e
        cases bt (tp_V c w kd xs ys S (nI a) v) k <;> cases bt (tp_V c w kd xs ys S (nI b) x) k <;> decide
      · by_cases q : k + 1 = 32
        · rw [q]
          exact br_t (nI_le (a := 32) (b := 32) (by decide) (by decide)) ⟨rfl, h⟩
        · exact br_f (nI_ge (b := 32) (by omega) (by decide)) (br_t rfl ⟨rfl, h⟩)
theorem ty_al0 {post : Int32 → SY → Prop} {l1 l2 v x u w : Int32} {kd xs yr va : Nat → Int32} (hp : post 0 (u, w, kd, xs, yr, va)) : ∃ n : Nat, wY_alike_46 post l1 v l2 x n 0 0 u w kd xs yr va :=
  ⟨1, br_f (by decide) (br_t rfl ⟨rfl, hp⟩)⟩
theorem tx_on14 {post : Int32 → Prop} {j : Nat} {u w : Int32} {kd xs ys S fa : Nat → Int32} (hj : j < 16) (hp : post (nI (tp_C (bt (S j)) 32))) : ∀ d k : Nat, k + d = 32 → wX_ones_14 post (nI j) u w kd xs ys S fa (d + 1) (nI (tp_C (bt (S j)) k)) (nI k) := by
  intro d
  induction d with
  | zero =>
    intro k hk
    have e : k = 32 := by omega
    rw [e]
    exact br_t (nI_le (a := 32) (b := 32) (by decide) (by decide)) hp
  | succ d ih =>
    intro k hk
    refine br_f (nI_ge (b := 32) (by omega) (by decide)) ⟨vp_in_nI hj (by decide), nm_r (e' := nI (tp_C (bt (S j)) (k + 1))) ?_ (nm_r (nI_1 k) (ih (k + 1) (by omega)))⟩
    rw [nI_clamp (show j < 2 ^ 31 by omega), tp_ush _ k (by omega), tp_C_s]
theorem ty_on4 {post : Int32 → SY → Prop} {c j : Nat} {w : Int32} {kd xs ys yr S : Nat → Int32} (R : tp_R c kd xs ys yr S) (hj : j < c) (hp : ∀ va', post (nI (tp_C (bt (S j)) 32)) (nI c, w, kd, xs, yr, va')) : ∀ (d k : Nat) (va : Nat → Int32), k + d = 32 → wY_ones_4 post (nI j) (d + 1) (nI (tp_C (bt (S j)) k)) (nI k) (nI c) w kd xs yr va := by
  have hc := R.1.2
  intro d
  induction d with
  | zero =>
    intro k va hk
    have e : k = 32 := by omega
    rw [e]
    refine br_t (nI_le (a := 32) (b := 32) (by decide) (by decide)) ?_
    unfold wY_ones_33
    exact ty_is_t hj hc (br_f tp_10 (hp va))
  | succ d ih =>
    intro k va hk
    refine br_f (nI_ge (b := 32) (by omega) (by decide)) (ty_is_t hj hc (br_f tp_10 (ty_value_t R hj (show k < 32 by omega) (fun va' => ?_))))
    exact nm_r (tp_C_s (bt (S j)) k) (nm_r (nI_1 k) (ih (k + 1) va' (by omega)))
