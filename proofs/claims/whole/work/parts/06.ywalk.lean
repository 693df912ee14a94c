/-! Y: tests, work, shows, each with a general post -/
theorem ty_is_t {post : Int32 → Prop} {c j : Nat} {w : Int32} {kd xs yr va : Nat → Int32} (hj : j < c) (hc : c ≤ 16) (h : post 1) : wpY_is post (nI c, w, kd, xs, yr, va) (nI j) :=
  br_f (nI_pos (by omega)) (br_f (nI_ge hj (by omega)) h)
theorem ty_is_f {post : Int32 → Prop} {c : Nat} {x w : Int32} {kd xs yr va : Nat → Int32} (hn : ¬ ∃ j : Nat, j < c ∧ x = nI j) (hc : c ≤ 16) (h : post 0) : wpY_is post (nI c, w, kd, xs, yr, va) x := by
  by_cases z : x < 0
  · exact br_t z h
  · rcases pk_ix x (n := c) (by omega) with h1 | h1 | h1
    · exact absurd h1 z
    · exact br_f z (br_t h1 h)
    · exact absurd h1 hn
theorem ty_vec_t {post : Int32 → Prop} {k : Nat} {u : SY} (hk : k < 32) (h : post 1) : wpY_vector post u (nI k) :=
  br_f (nI_pos (by omega)) (br_f (nI_nlt (a := 31) (by omega) (by decide)) h)
theorem tp_31 {x : Int32} (h : nI 32 ≤ x) : (31 : Int32) < x := by
  rw [Int32.le_iff_toInt_le, nI_toInt (by decide)] at h
  rw [Int32.lt_iff_toInt_lt, show (31 : Int32).toInt = 31 from by decide]
  omega
theorem ty_vec_f {post : Int32 → Prop} {x : Int32} {u : SY} (hn : ¬ ∃ k : Nat, k < 32 ∧ x = nI k) (h : post 0) : wpY_vector post u x := by
  by_cases z : x < 0
  · exact br_t z h
  · rcases pk_ix x (n := 32) (by decide) with h1 | h1 | h1
    · exact absurd h1 z
    · exact br_f z (br_t (tp_31 h1) h)
    · exact absurd h1 hn
theorem tp_hc {P : Int32 → Prop} {k x y : Int32} (h : P (tp_h k x y)) : ((k = 0 → (P (x &&& y))) ∧ (¬ k = 0 → (((k = 1 → (P (x ||| y))) ∧ (¬ k = 1 → (((k = 2 → (P (x ^^^ y))) ∧ (¬ k = 2 → (((k = 3 → (P (1 - (x &&& y)))) ∧ (¬ k = 3 → (((k = 4 → (P (1 - (x ||| y)))) ∧ (¬ k = 4 → (P (1 - x)))))))))))))))) := by
  refine ⟨fun e => ?_, fun n0 => ⟨fun e => ?_, fun n1 => ⟨fun e => ?_, fun n2 => ⟨fun e => ?_, fun n3 => ⟨fun e => ?_, fun n4 => ?_⟩⟩⟩⟩⟩
  · subst e; exact h
  · subst e; exact h
  · subst e; exact h
  · subst e; exact h
  · subst e; exact h
  · unfold tp_h at h
    rw [if_neg n0, if_neg n1, if_neg n2, if_neg n3, if_neg n4] at h
    exact h
theorem ty_in {c j : Nat} {kd xs ys yr S : Nat → Int32} (R : tp_R c kd xs ys yr S) (hj : j < c) : vp_in (xs j) 16 ∧ vp_in (yr j) 16 := by
  have hc := R.1.2
  by_cases h5 : j < 5
  · rw [(R.2.2.1 j h5).1, (R.2.2.1 j h5).2]
    exact ⟨vp_in_nI (n := 0) (by decide) (by decide), vp_in_nI (n := 0) (by decide) (by decide)⟩
  · obtain ⟨a, b, d, ⟨ha, hb, hd⟩, ⟨ea, eb, ed⟩, _⟩ := R.2.2.2 j (by omega) hj
    rw [ea, ed]
    exact ⟨vp_in_nI (by omega) (by decide), vp_in_nI (by omega) (by decide)⟩
theorem ty_work6 {post : Int32 → SY → Prop} {c k : Nat} {w s v : Int32} {kd xs ys yr S t : Nat → Int32} (R : tp_R c kd xs ys yr S) (hL : tp_L c kd xs ys S s v t) (hv : v = 0 ∨ v = 1) (hk : k < 32) (hp : ∀ va', (∀ i, i < c → va' i = tp_b (bt (t i) k)) → post (tp_O w t k c) (nI c, w, kd, xs, yr, va')) :
    ∀ (d j : Nat) (va : Nat → Int32), j + d = c → (∀ i, i < j → va i = tp_b (bt (t i) k)) → wY_work_6 post (nI k) s v (nI c) w (d + 1) (tp_O w t k j) (nI j) kd xs yr va := by
  have hc := R.1.2
  intro d
  induction d with
  | zero =>
    intro j va hj ag
    have e : j = c := by omega
    rw [e] at ag ⊢
    exact br_t (nI_le (by omega) (by omega)) (hp va ag)
  | succ d ih =>
    intro j va hj ag
    have hjc : j < c := by omega
    have cj : (nI j).toNatClampNeg = j := nI_clamp (by omega)
    have ij : vp_in (nI j) 16 := vp_in_nI (by omega) (by decide)
    have ag' : ∀ i, i < j + 1 → upd va j (tp_b (bt (t j) k)) i = tp_b (bt (t i) k) := by
      intro i hi
      by_cases e : i = j
      · subst e; exact pk_us
      · rw [pk_un e]; exact ag i (by omega)
    have h := ih (j + 1) (upd va j (tp_b (bt (t j) k))) (by omega) ag'
    have e := tp_Ystep R hL hv hk hjc ag
    have key : ∀ z, z = tp_b (bt (t j) k) → wY_work_164 post (wY_work_6 post (nI k) s v (nI c) w (d + 1)) (nI k) s v (tp_O w t k j) (nI j) z (nI j) (nI c) w kd xs yr va := by
      intro z hz
      subst hz
      refine ⟨ij, ?_⟩
      rw [cj]
      refine nm_e ⟨ij, nm_r (e' := tp_O w t k (j + 1)) ?_ (nm_r (nI_1 j) h)⟩
      rw [tp_ssh w j (by omega), pk_us, tp_band]
      rfl
    have key2 : ∀ z, (¬ nI j = s → z = tp_b (bt (t j) k)) → wY_work_144 post (wY_work_6 post (nI k) s v (nI c) w (d + 1)) (nI k) s v (tp_O w t k j) (nI j) z (nI c) w kd xs yr va := by
      intro z hz
      by_cases hs : nI j = s
      · rw [if_pos hs] at e
        exact br_t hs (key v e)
      · exact br_f hs (key z (hz hs))
    refine br_f (nI_ge hjc (by omega)) ?_
    rw [cj]
    refine ⟨ij, (ty_in R hjc).1, nm_e ⟨ij, (ty_in R hjc).2, nm_e ⟨ij, nm_e ?_⟩⟩⟩
    by_cases h5 : j < 5
    · refine br_f (nI_ge (b := 5) h5 (by decide)) (key2 _ (fun hs => ?_))
      rw [if_neg hs, if_pos h5] at e
      rw [tp_ssh (nI k) j (by omega)]
      exact e
    · refine br_t (nI_le (a := 5) (by omega) (by omega)) ?_
      refine tp_hc (P := fun z => wY_work_144 post (wY_work_6 post (nI k) s v (nI c) w (d + 1)) (nI k) s v (tp_O w t k j) (nI j) z (nI c) w kd xs yr va) (key2 _ (fun hs => ?_))
      rw [if_neg hs, if_neg h5] at e
      exact e
theorem ty_work {post : Int32 → SY → Prop} {c k : Nat} {w s v : Int32} {kd xs ys yr S t va : Nat → Int32} (R : tp_R c kd xs ys yr S) (hL : tp_L c kd xs ys S s v t) (hv : v = 0 ∨ v = 1) (hk : k < 32) (hp : ∀ va', (∀ i, i < c → va' i = tp_b (bt (t i) k)) → post (tp_O w t k c) (nI c, w, kd, xs, yr, va')) :
    wpY_work post (nI c, w, kd, xs, yr, va) (nI k) s v :=
  ⟨c + 1, ty_work6 R hL hv hk hp c 0 va (by omega) (fun i hi => absurd hi (Nat.not_lt_zero i))⟩
theorem ty_shows_t {post : Int32 → SY → Prop} {c j k : Nat} {w v : Int32} {kd xs ys yr S va : Nat → Int32} (R : tp_R c kd xs ys yr S) (hj : j < c) (hv : v = 0 ∨ v = 1) (hk : k < 32) (hp : ∀ va', post (tp_b (bt (tp_V c w kd xs ys S (nI j) v) k)) (nI c, w, kd, xs, yr, va')) :
    wpY_shows post (nI c, w, kd, xs, yr, va) (nI k) (nI j) v := by
  have hc := R.1.2
  have key : wY_shows_17 post (nI k) (nI j) v (nI c) w kd xs yr va := by
    unfold wY_shows_17
    refine ty_vec_t hk (br_f tp_10 ?_)
    refine ty_work R (tp_LS R) (Or.inl rfl) hk (fun va1 _ => ?_)
    refine ty_work R (tp_LT R) hv hk (fun va2 _ => ?_)
    have h := hp va2
    have hO := tp_VO w kd xs ys S (nI j) v k hc
    cases hb : bt (tp_V c w kd xs ys S (nI j) v) k with
    | false =>
      rw [hb] at h
      exact br_t (hO.mpr hb) h
    | true =>
      rw [hb] at h
      exact br_f (fun z => by rw [hO.mp z] at hb; exact absurd hb (by decide)) h
  unfold wpY_shows
  dsimp only
  refine ty_is_t hj hc (br_f tp_10 ?_)
  by_cases z : v = 0
  · exact br_t z key
  · exact br_f z (br_t (hv.resolve_left z) key)
theorem ty_shows_f {post : Int32 → SY → Prop} {c : Nat} {x l w v : Int32} {kd xs yr va : Nat → Int32} (hc : c ≤ 16) (hn : ¬ ((∃ j : Nat, j < c ∧ l = nI j) ∧ (v = 0 ∨ v = 1) ∧ ∃ k : Nat, k < 32 ∧ x = nI k)) (hp : post 0 (nI c, w, kd, xs, yr, va)) :
    wpY_shows post (nI c, w, kd, xs, yr, va) x l v := by
  unfold wpY_shows
  dsimp only
  by_cases hl : ∃ j : Nat, j < c ∧ l = nI j
  · obtain ⟨j, hj, rfl⟩ := hl
    refine ty_is_t hj hc (br_f tp_10 ?_)
    have key : (v = 0 ∨ v = 1) → wY_shows_17 post x (nI j) v (nI c) w kd xs yr va := by
      intro hv
      unfold wY_shows_17
      exact ty_vec_f (fun z => hn ⟨⟨j, hj, rfl⟩, hv, z⟩) (br_t rfl hp)
    by_cases z : v = 0
    · exact br_t z (key (Or.inl z))
    · by_cases z1 : v = 1
      · exact br_f z (br_t z1 (key (Or.inr z1)))
      · exact br_f z (br_f z1 hp)
  · exact ty_is_f hl hc (br_t rfl hp)
theorem ty_value_t {post : Int32 → SY → Prop} {c j k : Nat} {w : Int32} {kd xs ys yr S va : Nat → Int32} (R : tp_R c kd xs ys yr S) (hj : j < c) (hk : k < 32) (hp : ∀ va', post (tp_b (bt (S j) k)) (nI c, w, kd, xs, yr, va')) :
    wpY_value post (nI c, w, kd, xs, yr, va) (nI j) (nI k) := by
  have hc := R.1.2
  unfold wpY_value
  dsimp only
  refine ty_is_t hj hc (br_f tp_10 (ty_vec_t hk (br_f tp_10 ?_)))
  refine ty_work R (tp_LS R) (Or.inl rfl) hk (fun va1 ag => ?_)
  refine ⟨vp_in_nI (by omega) (by decide), ?_⟩
  have h := hp va1
  rw [← ag j hj] at h
  rw [nI_clamp (show j < 2 ^ 31 by omega)]
  exact h
