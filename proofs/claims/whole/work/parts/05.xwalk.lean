/-! X: tests, gate tables, vectorsShowing, each with a general post -/
theorem tp_10 : ¬ (1 : Int32) = 0 := by decide
theorem tp_g_d {k x y : Int32} (h0 : ¬ k = 0) (h1 : ¬ k = 1) (h2 : ¬ k = 2) (h3 : ¬ k = 3) (h4 : ¬ k = 4) : tp_g k x y = x ^^^ (-1) := by
  unfold tp_g
  rw [if_neg h0, if_neg h1, if_neg h2, if_neg h3, if_neg h4]
theorem tx_gt {post : Int32 → Prop} {k x y : Int32} (h : post (tp_g k x y)) : wpX_gateTable post k x y := by
  refine ⟨fun hn => ?_, fun _ => ⟨fun h4 => ?_, fun _ => ⟨fun e => ?_, fun n0 => ⟨fun e => ?_, fun n1 => ⟨fun e => ?_, fun n2 => ⟨fun e => ?_, fun n3 => ⟨fun e => ?_, fun n4 => trivial⟩⟩⟩⟩⟩⟩⟩
  · rw [tp_g_d (fun e => by subst e; exact absurd hn (by decide)) (fun e => by subst e; exact absurd hn (by decide)) (fun e => by subst e; exact absurd hn (by decide)) (fun e => by subst e; exact absurd hn (by decide)) (fun e => by subst e; exact absurd hn (by decide))] at h
    exact h
  · rw [tp_g_d (fun e => by subst e; exact absurd h4 (by decide)) (fun e => by subst e; exact absurd h4 (by decide)) (fun e => by subst e; exact absurd h4 (by decide)) (fun e => by subst e; exact absurd h4 (by decide)) (fun e => by subst e; exact absurd h4 (by decide))] at h
    exact h
  · subst e; exact h
  · subst e; exact h
  · subst e; exact h
  · subst e; exact h
  · subst e; exact h
theorem tx_isL_t {post : Int32 → Prop} {c j : Nat} {w : Int32} {kd xs ys S fa : Nat → Int32} (hj : j < c) (hc : c ≤ 16) (h : post 1) : wpX_isLine post (nI c, w, kd, xs, ys, S, fa) (nI j) :=
  br_f (nI_pos (by omega)) (br_f (nI_ge hj (by omega)) h)
theorem tx_isL_f {post : Int32 → Prop} {c : Nat} {x w : Int32} {kd xs ys S fa : Nat → Int32} (hn : ¬ ∃ j : Nat, j < c ∧ x = nI j) (hc : c ≤ 16) (h : post 0) : wpX_isLine post (nI c, w, kd, xs, ys, S, fa) x := by
  by_cases z : x < 0
  · exact br_t z h
  · rcases pk_ix x (n := c) (by omega) with h1 | h1 | h1
    · exact absurd h1 z
    · exact br_f z (br_t h1 h)
    · exact absurd h1 hn
theorem tx_isV_t {post : Int32 → Prop} {k : Nat} (hk : k < 32) (h : post 1) : wpX_isVector post (nI k) :=
  br_f (nI_pos (by omega)) (br_f (nI_ge (b := 32) hk (by decide)) h)
theorem tx_isV_f {post : Int32 → Prop} {x : Int32} (hn : ¬ ∃ k : Nat, k < 32 ∧ x = nI k) (h : post 0) : wpX_isVector post x := by
  by_cases z : x < 0
  · exact br_t z h
  · rcases pk_ix x (n := 32) (by decide) with h1 | h1 | h1
    · exact absurd h1 z
    · exact br_f z (br_t h1 h)
    · exact absurd h1 hn
theorem tx_isS_t {post : Int32 → Prop} {v : Int32} (hv : v = 0 ∨ v = 1) (h : post 1) : wpX_isStuckValue post v := by
  by_cases z : v = 0
  · exact br_t z h
  · exact br_f z (br_t (hv.resolve_left z) h)
theorem tx_isS_f {post : Int32 → Prop} {v : Int32} (hv : ¬ (v = 0 ∨ v = 1)) (h : post 0) : wpX_isStuckValue post v :=
  br_f (fun z => hv (Or.inl z)) (br_f (fun z => hv (Or.inr z)) h)
theorem tx_isF_t {post : Int32 → Prop} {c j : Nat} {v w : Int32} {kd xs ys S fa : Nat → Int32} (hj : j < c) (hc : c ≤ 16) (hv : v = 0 ∨ v = 1) (h : post 1) : wpX_isFault post (nI c, w, kd, xs, ys, S, fa) (nI j) v := by
  unfold wpX_isFault
  dsimp only
  exact tx_isL_t hj hc (br_f tp_10 (tx_isS_t hv (br_f tp_10 h)))
theorem tx_isF_f {post : Int32 → Prop} {c : Nat} {x v w : Int32} {kd xs ys S fa : Nat → Int32} (hn : ¬ ((∃ j : Nat, j < c ∧ x = nI j) ∧ (v = 0 ∨ v = 1))) (hc : c ≤ 16) (h : post 0) : wpX_isFault post (nI c, w, kd, xs, ys, S, fa) x v := by
  unfold wpX_isFault
  dsimp only
  by_cases hl : ∃ j : Nat, j < c ∧ x = nI j
  · obtain ⟨j, hj, rfl⟩ := hl
    exact tx_isL_t hj hc (br_f tp_10 (tx_isS_f (fun z => hn ⟨⟨j, hj, rfl⟩, z⟩) (br_t rfl h)))
  · exact tx_isL_f hl hc (br_t rfl h)
theorem tx_hb_t {post : Int32 → Prop} {x : Int32} {n : Nat} (hn : n < 32) (hb : bt x n = true) (h : post 1) : wpX_hasBit post x (nI n) := by
  have e := tp_ush x n hn
  rw [hb] at e
  exact br_t e h
theorem tx_hb_f {post : Int32 → Prop} {x : Int32} {n : Nat} (hn : n < 32) (hb : bt x n = false) (h : post 0) : wpX_hasBit post x (nI n) := by
  have e := tp_ush x n hn
  rw [hb] at e
  exact br_f (by rw [e]; decide) h
theorem tx_tb {post : Int32 → Prop} {c j : Nat} {w s v : Int32} {kd xs ys yr S t fa : Nat → Int32} (R : tp_R c kd xs ys yr S) (hL : tp_L c kd xs ys S s v t) (hj : j < c) (hs : ¬ nI j = s) (ag : ∀ i, i < j → fa i = t i) (h : post (t j)) : wpX_tableBesideFault post (nI c, w, kd, xs, ys, S, fa) (nI j) := by
  have hc := R.1.2
  have e := tp_Xstep R hL hj ag
  rw [if_neg hs] at e
  have cj : (nI j).toNatClampNeg = j := nI_clamp (by omega)
  have ij : vp_in (nI j) 16 := vp_in_nI (by omega) (by decide)
  by_cases h5 : j < 5
  · rw [if_pos h5] at e
    refine br_f (nI_ge (b := 5) h5 (by decide)) ⟨ij, ?_⟩
    rw [cj, e]
    exact h
  · rw [if_neg h5] at e
    obtain ⟨a, b, d, ⟨ha, hb, hd⟩, ⟨ea, eb, ed⟩, _⟩ := R.2.2.2 j (by omega) hj
    refine br_t (nI_le (a := 5) (by omega) (by omega)) ?_
    rw [cj]
    refine ⟨ij, ij, ?_, ij, ?_, ?_⟩
    · rw [ea]; exact vp_in_nI (by omega) (by decide)
    · rw [eb]; exact vp_in_nI (by omega) (by decide)
    · refine tx_gt ?_
      show post _
      rw [e]
      exact h
theorem tx_vs5 {post : Int32 → SX → Prop} {c : Nat} {w s v : Int32} {kd xs ys yr S t : Nat → Int32} (R : tp_R c kd xs ys yr S) (hL : tp_L c kd xs ys S s v t) (hp : ∀ fa', post (tp_S w S t c) (nI c, w, kd, xs, ys, S, fa')) :
    ∀ (d j : Nat) (fa : Nat → Int32), j + d = c → (∀ i, i < j → fa i = t i) → wX_vectorsShowing_5 post s v (nI c) w (d + 1) (tp_S w S t j) (nI j) kd xs ys S fa := by
  have hc := R.1.2
  intro d
  induction d with
  | zero =>
    intro j fa hj ag
    have e : j = c := by omega
    rw [e]
    exact br_t (nI_le (by omega) (by omega)) (hp fa)
  | succ d ih =>
    intro j fa hj ag
    have hjc : j < c := by omega
    have cj : (nI j).toNatClampNeg = j := nI_clamp (by omega)
    have ij : vp_in (nI j) 16 := vp_in_nI (by omega) (by decide)
    have ag' : ∀ i, i < j + 1 → upd fa j (t j) i = t i := by
      intro i hi
      by_cases e : i = j
      · subst e; exact pk_us
      · rw [pk_un e]; exact ag i (by omega)
    have h := ih (j + 1) (upd fa j (t j)) (by omega) ag'
    have key : ∀ z, z = t j → wX_vectorsShowing_37 post (wX_vectorsShowing_5 post s v (nI c) w (d + 1)) s v (tp_S w S t j) (nI j) z (nI j) (nI c) w kd xs ys S fa := by
      intro z hz
      subst hz
      refine ⟨ij, ?_⟩
      rw [cj]
      refine nm_e ?_
      cases hb : bt w j with
      | false =>
        rw [show tp_S w S t (j + 1) = tp_S w S t j by rw [tp_S, if_neg (by rw [hb]; decide)]] at h
        exact tx_hb_f (by omega) hb (br_t rfl (nm_r (nI_1 j) h))
      | true =>
        rw [show tp_S w S t (j + 1) = tp_S w S t j ||| (t j ^^^ S j) by rw [tp_S, if_pos hb]] at h
        exact tx_hb_t (by omega) hb (br_f tp_10 ⟨ij, ij, nm_r (by rw [pk_us]) (nm_r (nI_1 j) h)⟩)
    refine br_f (nI_ge hjc (by omega)) ?_
    by_cases hs : nI j = s
    · refine br_t hs (key _ ?_)
      have e := tp_Xstep R hL hjc ag
      rw [if_pos hs] at e
      exact e
    · exact br_f hs (tx_tb R hL hjc hs ag (key _ rfl))
theorem tx_vs {post : Int32 → SX → Prop} {c : Nat} {w s v : Int32} {kd xs ys yr S fa : Nat → Int32} (R : tp_R c kd xs ys yr S) (hp : ∀ fa', post (tp_V c w kd xs ys S s v) (nI c, w, kd, xs, ys, S, fa')) : wpX_vectorsShowing post (nI c, w, kd, xs, ys, S, fa) s v :=
  ⟨c + 1, tx_vs5 R (tp_LT R) hp c 0 fa (by omega) (fun i hi => absurd hi (Nat.not_lt_zero i))⟩
