/-! what is owed -/
def i_Rel (k : Nat) (u : SX) (v : SY) : Prop := ∃ (c : Nat) (w : Int32) (kd xs ys yr S fa va : Nat → Int32), u = (nI c, w, kd, xs, ys, S, fa) ∧ v = (nI c, w, kd, xs, yr, va) ∧ tp_R c kd xs ys yr S
theorem tp_mk {k c : Nat} {w : Int32} {kd xs ys yr S fa va : Nat → Int32} (R : tp_R c kd xs ys yr S) : i_Rel k (nI c, w, kd, xs, ys, S, fa) (nI c, w, kd, xs, yr, va) := ⟨c, w, kd, xs, ys, yr, S, fa, va, rfl, rfl, R⟩
theorem i_up {k : Nat} {u : SX} {v : SY} (h : i_Rel k u v) : i_Rel (k + 5) u v := h
theorem tp_in0 : ∀ i, i < 5 → ∀ k, k < 32 → bt (upd (upd (upd (upd (upd (fun _ => 0) 0 (-1431655766)) 1 (-858993460)) 2 (-252645136)) 3 (-16711936)) 4 (-65536) i) k = bt (nI k) i := by decide +kernel
theorem i_vc0 : wpX_init (fun u => wpY_init (fun v => i_Rel 0 u v)) := by
  refine nm_e (nm_e (nm_e (nm_e (nm_e ?_))))
  exact tp_mk (k := 0) (c := 5) ⟨⟨by decide, by decide⟩, tp_in0, fun i _ => ⟨rfl, rfl⟩, fun i h1 h2 => absurd h2 (by omega)⟩
theorem i_vc_gate {k : Nat} {u : SX} {v : SY} (I : i_Rel k u v) (hk : k + 5 ≤ 2560) (v1 : Int32) (v2 : Int32) (v3 : Int32) : wpX_gate (fun r u' => wpY_gate (fun r' v' => r' = r ∧ i_Rel (k + 5) u' v') v v1 v2 v3) u v1 v2 v3 := by
  obtain ⟨c, w, kd, xs, ys, yr, S, fa, va, rfl, rfl, R⟩ := I
  have hc := R.1.2
  have h5 := R.1.1
  by_cases h0 : v1 < 0
  · exact br_t h0 (br_t h0 ⟨rfl, tp_mk R⟩)
  by_cases h6 : 5 < v1
  · exact br_f h0 (br_t h6 (br_f h0 (br_t h6 ⟨rfl, tp_mk R⟩)))
  by_cases hx : ∃ j : Nat, j < c ∧ v2 = nI j
  · obtain ⟨a, ha, rfl⟩ := hx
    by_cases k5 : v1 = 5
    · subst k5
      refine br_f h0 (br_f h6 (tx_isL_t ha hc (br_f tp_10 (br_t rfl ?_))))
      by_cases hf : c = 16
      · subst hf
        exact br_t rfl (br_f h0 (br_f h6 (ty_is_t ha hc (br_f tp_10 (br_t rfl (br_f (nI_nlt (a := 16) (b := 16) (by decide) (by decide)) ⟨rfl, tp_mk R⟩))))))
      · have hl : c < 16 := by omega
        refine br_f (fun z => hf ((nI_eq (b := 16) (by omega) (by decide)).mp z)) (br_t rfl (tx_g62 hl ha ha ?_))
        exact br_f h0 (br_f h6 (ty_is_t ha hc (br_f tp_10 (br_t rfl (ty_g32_5 hl ⟨rfl, tp_mk (tp_Rgate R hl 5 ha ha (by omega) (fun z => absurd rfl z))⟩)))))
    · by_cases hy : ∃ j : Nat, j < c ∧ v3 = nI j
      · obtain ⟨b, hb, rfl⟩ := hy
        refine br_f h0 (br_f h6 (tx_isL_t ha hc (br_f tp_10 (br_f k5 (tx_isL_t hb hc (br_f tp_10 ?_))))))
        by_cases hf : c = 16
        · subst hf
          exact br_t rfl (br_f h0 (br_f h6 (ty_is_t ha hc (br_f tp_10 (br_f k5 (ty_is_t hb hc (br_f tp_10 (br_f (nI_nlt (a := 16) (b := 16) (by decide) (by decide)) ⟨rfl, tp_mk R⟩))))))))
        · have hl : c < 16 := by omega
          refine br_f (fun z => hf ((nI_eq (b := 16) (by omega) (by decide)).mp z)) (br_f k5 (tx_g62 hl ha hb ?_))
          exact br_f h0 (br_f h6 (ty_is_t ha hc (br_f tp_10 (br_f k5 (ty_is_t hb hc (br_f tp_10 (ty_g32_n hl k5 ⟨rfl, tp_mk (tp_Rgate R hl v1 ha hb hb (fun _ => rfl))⟩)))))))
      · exact br_f h0 (br_f h6 (tx_isL_t ha hc (br_f tp_10 (br_f k5 (tx_isL_f hy hc (br_t rfl (br_f h0 (br_f h6 (ty_is_t ha hc (br_f tp_10 (br_f k5 (ty_is_f hy hc (br_t rfl ⟨rfl, tp_mk R⟩)))))))))))))
  · exact br_f h0 (br_f h6 (tx_isL_f hx hc (br_t rfl (br_f h0 (br_f h6 (ty_is_f hx hc (br_t rfl ⟨rfl, tp_mk R⟩)))))))
theorem i_vc_drop {k : Nat} {u : SX} {v : SY} (I : i_Rel k u v) (hk : k + 5 ≤ 2560) : wpX_drop (fun r u' => wpY_drop (fun r' v' => r' = r ∧ i_Rel (k + 5) u' v') v) u := by
  obtain ⟨c, w, kd, xs, ys, yr, S, fa, va, rfl, rfl, R⟩ := I
  have hc := R.1.2
  have h5 := R.1.1
  by_cases e : c = 5
  · subst e
    exact br_t rfl (br_f (nI_nlt (a := 5) (b := 5) (by decide) (by decide)) ⟨rfl, tp_mk R⟩)
  · obtain ⟨n, rfl⟩ : ∃ n, c = n + 1 := ⟨c - 1, by omega⟩
    refine br_f (fun z => e ((nI_eq (b := 5) (by omega) (by decide)).mp z)) (nm_r (nI_pred n) (nm_e ?_))
    exact br_t (nI_lt (a := 5) (by omega) (by omega)) (nm_r (nI_pred n) (nm_e ⟨rfl, tp_mk (tp_Rdrop R (by omega))⟩))
theorem i_vc_watch {k : Nat} {u : SX} {v : SY} (I : i_Rel k u v) (hk : k + 5 ≤ 2560) (v1 : Int32) (v2 : Int32) : wpX_watch (fun r u' => wpY_watch (fun r' v' => r' = r ∧ i_Rel (k + 5) u' v') v v1 (lw_bz v2)) u v1 (lw_bz v2) := by
  obtain ⟨c, w, kd, xs, ys, yr, S, fa, va, rfl, rfl, R⟩ := I
  have hc := R.1.2
  unfold wpX_watch wpY_watch
  dsimp only
  by_cases hx : ∃ j : Nat, j < c ∧ v1 = nI j
  · obtain ⟨a, ha, rfl⟩ := hx
    by_cases z : lw_bz v2 = 0
    · exact tx_isL_t ha hc (br_f tp_10 (br_t z (nm_e (ty_is_t ha hc (br_f tp_10 (br_t z (nm_e ⟨rfl, tp_mk R⟩)))))))
    · exact tx_isL_t ha hc (br_f tp_10 (br_f z (nm_e (ty_is_t ha hc (br_f tp_10 (br_f z (nm_e ⟨rfl, tp_mk R⟩)))))))
  · exact tx_isL_f hx hc (br_t rfl (ty_is_f hx hc (br_t rfl ⟨rfl, tp_mk R⟩)))
theorem i_vc_lines {k : Nat} {u : SX} {v : SY} (I : i_Rel k u v) (hk : k + 5 ≤ 2560) : wpX_lines (fun r => wpY_lines (fun r' => r' = r ∧ i_Rel (k + 5) u v) v) u := by
  obtain ⟨c, w, kd, xs, ys, yr, S, fa, va, rfl, rfl, R⟩ := I
  exact ⟨rfl, tp_mk R⟩
theorem i_vc_watched {k : Nat} {u : SX} {v : SY} (I : i_Rel k u v) (hk : k + 5 ≤ 2560) : wpX_watched (fun r => wpY_watched (fun r' => r' = r ∧ i_Rel (k + 5) u v) v) u := by
  obtain ⟨c, w, kd, xs, ys, yr, S, fa, va, rfl, rfl, R⟩ := I
  exact ⟨rfl, tp_mk R⟩
theorem i_vc_value {k : Nat} {u : SX} {v : SY} (I : i_Rel k u v) (hk : k + 5 ≤ 2560) (v1 : Int32) (v2 : Int32) : wpX_value (fun r => wpY_value (fun r' v' => r' = r ∧ i_Rel (k + 5) u v') v v1 v2) u v1 v2 := by
  obtain ⟨c, w, kd, xs, ys, yr, S, fa, va, rfl, rfl, R⟩ := I
  have hc := R.1.2
  unfold wpX_value
  dsimp only
  by_cases hx : ∃ j : Nat, j < c ∧ v1 = nI j
  · obtain ⟨a, ha, rfl⟩ := hx
    by_cases hn : ∃ n : Nat, n < 32 ∧ v2 = nI n
    · obtain ⟨n, hn, rfl⟩ := hn
      refine tx_isL_t ha hc (br_f tp_10 (tx_isV_t hn (br_f tp_10 ⟨vp_in_nI (by omega) (by decide), ?_⟩)))
      rw [nI_clamp (show a < 2 ^ 31 by omega), tp_ush _ n hn]
      exact ty_value_t R ha hn (fun va' => ⟨rfl, tp_mk R⟩)
    · refine tx_isL_t ha hc (br_f tp_10 (tx_isV_f hn (br_t rfl ?_)))
      unfold wpY_value
      dsimp only
      exact ty_is_t ha hc (br_f tp_10 (ty_vec_f hn (br_t rfl ⟨rfl, tp_mk R⟩)))
  · refine tx_isL_f hx hc (br_t rfl ?_)
    unfold wpY_value
    dsimp only
    exact ty_is_f hx hc (br_t rfl ⟨rfl, tp_mk R⟩)
theorem i_vc_shows {k : Nat} {u : SX} {v : SY} (I : i_Rel k u v) (hk : k + 5 ≤ 2560) (v1 : Int32) (v2 : Int32) (v3 : Int32) : wpX_shows (fun r u' => wpY_shows (fun r' v' => r' = r ∧ i_Rel (k + 5) u' v') v v1 v2 v3) u v1 v2 v3 := by
  obtain ⟨c, w, kd, xs, ys, yr, S, fa, va, rfl, rfl, R⟩ := I
  have hc := R.1.2
  unfold wpX_shows
  dsimp only
  by_cases hn : ∃ n : Nat, n < 32 ∧ v1 = nI n
  · by_cases hF : (∃ j : Nat, j < c ∧ v2 = nI j) ∧ (v3 = 0 ∨ v3 = 1)
    · obtain ⟨n, hn, rfl⟩ := hn
      obtain ⟨⟨a, ha, rfl⟩, hv⟩ := hF
      refine tx_isV_t hn (br_f tp_10 (tx_isF_t ha hc hv (br_f tp_10 (tx_vs R (fun fa' => ?_)))))
      dsimp only
      cases hb : bt (tp_V c w kd xs ys S (nI a) v3) n with
      | false => exact tx_hb_f hn hb ⟨rfl, ty_shows_t R ha hv hn (fun va' => ⟨by rw [hb]; rfl, tp_mk R⟩)⟩
      | true => exact tx_hb_t hn hb ⟨rfl, ty_shows_t R ha hv hn (fun va' => ⟨by rw [hb]; rfl, tp_mk R⟩)⟩
    · have hy := ty_shows_f (post := fun r' v' => r' = 0 ∧ i_Rel (k + 5) (nI c, w, kd, xs, ys, S, fa) v') (x := v1) (w := w) (kd := kd) (xs := xs) (yr := yr) (va := va) hc (fun z => hF ⟨z.1, z.2.1⟩) ⟨rfl, tp_mk R⟩
      obtain ⟨n, hn, rfl⟩ := hn
      exact tx_isV_t hn (br_f tp_10 (tx_isF_f hF hc (br_t rfl hy)))
  · have hy := ty_shows_f (post := fun r' v' => r' = 0 ∧ i_Rel (k + 5) (nI c, w, kd, xs, ys, S, fa) v') (x := v1) (l := v2) (v := v3) (w := w) (kd := kd) (xs := xs) (yr := yr) (va := va) hc (fun z => hn z.2.2) ⟨rfl, tp_mk R⟩
    exact tx_isV_f hn (br_t rfl hy)
theorem i_vc_test {k : Nat} {u : SX} {v : SY} (I : i_Rel k u v) (hk : k + 5 ≤ 2560) (v1 : Int32) (v2 : Int32) : wpX_test (fun r u' => wpY_test (fun r' v' => r' = r ∧ i_Rel (k + 5) u' v') v v1 v2) u v1 v2 := by
  obtain ⟨c, w, kd, xs, ys, yr, S, fa, va, rfl, rfl, R⟩ := I
  have hc := R.1.2
  unfold wpX_test wpY_test
  dsimp only
  by_cases hF : (∃ j : Nat, j < c ∧ v1 = nI j) ∧ (v2 = 0 ∨ v2 = 1)
  · obtain ⟨⟨a, ha, rfl⟩, hv⟩ := hF
    exact tx_testFrom_t R ha hv (fun fa' => ty_testFrom_t R ha hv (fun va' => ⟨rfl, tp_mk R⟩))
  · exact tx_testFrom_f hc hF (ty_testFrom_f hc hF ⟨rfl, tp_mk R⟩)
theorem i_vc_testFrom {k : Nat} {u : SX} {v : SY} (I : i_Rel k u v) (hk : k + 5 ≤ 2560) (v1 : Int32) (v2 : Int32) (v3 : Int32) : wpX_testFrom (fun r u' => wpY_testFrom (fun r' v' => r' = r ∧ i_Rel (k + 5) u' v') v v1 v2 v3) u v1 v2 v3 := by
  obtain ⟨c, w, kd, xs, ys, yr, S, fa, va, rfl, rfl, R⟩ := I
  have hc := R.1.2
  by_cases hF : (∃ j : Nat, j < c ∧ v1 = nI j) ∧ (v2 = 0 ∨ v2 = 1)
  · obtain ⟨⟨a, ha, rfl⟩, hv⟩ := hF
    exact tx_testFrom_t R ha hv (fun fa' => ty_testFrom_t R ha hv (fun va' => ⟨rfl, tp_mk R⟩))
  · exact tx_testFrom_f hc hF (ty_testFrom_f hc hF ⟨rfl, tp_mk R⟩)
theorem i_vc_hidden {k : Nat} {u : SX} {v : SY} (I : i_Rel k u v) (hk : k + 5 ≤ 2560) (v1 : Int32) : wpX_hidden (fun r u' => wpY_hidden (fun r' v' => r' = r ∧ i_Rel (k + 5) u' v') v v1) u v1 := by
  obtain ⟨c, w, kd, xs, ys, yr, S, fa, va, rfl, rfl, R⟩ := I
  have hc := R.1.2
  have h5 := R.1.1
  unfold wpX_hidden
  dsimp only
  by_cases hv : v1 = 0 ∨ v1 = 1
  · exact tx_isS_t hv (br_f tp_10 ⟨c + 1, tx_hid13 R (fun fa' => ⟨c + 1, ty_hid4 R hv (fun va' => ⟨rfl, tp_mk R⟩) c 0 va (by omega)⟩) c 0 fa (by omega)⟩)
  · exact tx_isS_f hv (br_t rfl ⟨1, br_f (nI_ge (a := 0) (show 0 < c by omega) (by omega)) (br_f (fun z => hv (Or.inl z)) (br_f (fun z => hv (Or.inr z)) ⟨rfl, tp_mk R⟩))⟩)
theorem i_vc_shownBy {k : Nat} {u : SX} {v : SY} (I : i_Rel k u v) (hk : k + 5 ≤ 2560) (v1 : Int32) : wpX_shownBy (fun r u' => wpY_shownBy (fun r' v' => r' = r ∧ i_Rel (k + 5) u' v') v v1) u v1 := by
  obtain ⟨c, w, kd, xs, ys, yr, S, fa, va, rfl, rfl, R⟩ := I
  have hc := R.1.2
  by_cases hn : ∃ n : Nat, n < 32 ∧ v1 = nI n
  · obtain ⟨n, hn, rfl⟩ := hn
    exact tx_shownBy_t R hn (fun fa' => ty_shownBy_t R hn (fun va' => ⟨rfl, tp_mk R⟩))
  · unfold wpX_shownBy
    dsimp only
    exact tx_isV_f hn (br_t rfl (ty_shownBy_f hc hn ⟨rfl, tp_mk R⟩))
theorem i_vc_bestVector {k : Nat} {u : SX} {v : SY} (I : i_Rel k u v) (hk : k + 5 ≤ 2560) : wpX_bestVector (fun r u' => wpY_bestVector (fun r' v' => r' = r ∧ i_Rel (k + 5) u' v') v) u := by
  obtain ⟨c, w, kd, xs, ys, yr, S, fa, va, rfl, rfl, R⟩ := I
  exact tx_bestVector R (fun fa' => ty_bestVector R (fun va' => ⟨rfl, tp_mk R⟩))
theorem i_vc_alike {k : Nat} {u : SX} {v : SY} (I : i_Rel k u v) (hk : k + 5 ≤ 2560) (v1 : Int32) (v2 : Int32) (v3 : Int32) (v4 : Int32) : wpX_alike (fun r u' => wpY_alike (fun r' v' => r' = r ∧ i_Rel (k + 5) u' v') v v1 v2 v3 v4) u v1 v2 v3 v4 := by
  obtain ⟨c, w, kd, xs, ys, yr, S, fa, va, rfl, rfl, R⟩ := I
  have hc := R.1.2
  unfold wpX_alike
  dsimp only
  by_cases hA : (∃ j : Nat, j < c ∧ v1 = nI j) ∧ (v2 = 0 ∨ v2 = 1)
  · by_cases hB : (∃ j : Nat, j < c ∧ v3 = nI j) ∧ (v4 = 0 ∨ v4 = 1)
    · obtain ⟨⟨a, ha, rfl⟩, hv⟩ := hA
      obtain ⟨⟨b, hb, rfl⟩, hx⟩ := hB
      refine tx_isF_t ha hc hv (br_f tp_10 (tx_isF_t hb hc hx (br_f tp_10 (tx_vs R (fun fa1 => tx_vs R (fun fa2 => ?_))))))
      by_cases z : tp_V c w kd xs ys S (nI a) v2 = tp_V c w kd xs ys S (nI b) v4
      · exact br_t z (ty_alike_t R ha hb hv hx (fun va' => ⟨by rw [decide_eq_true z]; rfl, tp_mk R⟩))
      · exact br_f z (ty_alike_t R ha hb hv hx (fun va' => ⟨by rw [decide_eq_false z]; rfl, tp_mk R⟩))
    · have hy := ty_alike_f (post := fun r' v' => r' = 0 ∧ i_Rel (k + 5) (nI c, w, kd, xs, ys, S, fa) v') (l := v1) (v := v2) (m := v3) (x := v4) (w := w) (kd := kd) (xs := xs) (yr := yr) (va := va) hc (fun z => hB z.2) ⟨rfl, tp_mk R⟩
      obtain ⟨⟨a, ha, rfl⟩, hv⟩ := hA
      exact tx_isF_t ha hc hv (br_f tp_10 (tx_isF_f hB hc (br_t rfl hy)))
  · exact tx_isF_f hA hc (br_t rfl (ty_alike_f hc (fun z => hA z.1) ⟨rfl, tp_mk R⟩))
theorem i_vc_ones {k : Nat} {u : SX} {v : SY} (I : i_Rel k u v) (hk : k + 5 ≤ 2560) (v1 : Int32) : wpX_ones (fun r => wpY_ones (fun r' v' => r' = r ∧ i_Rel (k + 5) u v') v v1) u v1 := by
  obtain ⟨c, w, kd, xs, ys, yr, S, fa, va, rfl, rfl, R⟩ := I
  have hc := R.1.2
  unfold wpX_ones
  dsimp only
  by_cases hx : ∃ j : Nat, j < c ∧ v1 = nI j
  · obtain ⟨a, ha, rfl⟩ := hx
    exact tx_isL_t ha hc (br_f tp_10 ⟨33, tx_on14 (by omega) ⟨33, ty_on4 R ha (fun va' => ⟨rfl, tp_mk R⟩) 32 0 va (by omega)⟩ 32 0 (by omega)⟩)
  · refine tx_isL_f hx hc (br_t rfl ⟨1, br_f (by decide) (ty_is_f hx hc (br_t rfl ?_))⟩)
    unfold wY_ones_33
    exact ty_is_f hx hc (br_t rfl ⟨rfl, tp_mk R⟩)
