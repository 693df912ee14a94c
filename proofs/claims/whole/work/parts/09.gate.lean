/-! gate on both sides; alike of Y -/
theorem tx_g62 {post : Int32 → SX → Prop} {c a b : Nat} {kind w : Int32} {kd xs ys S fa : Nat → Int32} (hc : c < 16) (ha : a < c) (hb : b < c)
    (h : post (nI c) (nI (c + 1), w, upd kd c kind, upd xs c (nI a), upd ys c (nI b), upd S c (tp_g kind (S a) (S b)), fa)) : wX_gate_62 post kind (nI a) (nI c) (nI b) (nI c) w kd xs ys S fa := by
  have ic : vp_in (nI c) 16 := vp_in_nI hc (by decide)
  have ia : vp_in (nI a) 16 := vp_in_nI (by omega) (by decide)
  have ib : vp_in (nI b) 16 := vp_in_nI (by omega) (by decide)
  have cc : (nI c).toNatClampNeg = c := nI_clamp (by omega)
  have ca : (nI a).toNatClampNeg = a := nI_clamp (by omega)
  have cb : (nI b).toNatClampNeg = b := nI_clamp (by omega)
  refine ⟨ic, ?_⟩
  rw [cc]
  refine nm_e ⟨ic, nm_e ⟨ic, nm_e ⟨ia, ib, ?_⟩⟩⟩
  rw [ca, cb]
  exact tx_gt ⟨ic, nm_e (nm_r (nI_1 c) h)⟩
theorem ty_g82 {post : Int32 → SY → Prop} {c : Nat} {z w : Int32} {kd xs yr va : Nat → Int32} (hc : c < 16) (h : post (nI c) (nI (c + 1), w, kd, xs, upd yr c z, va)) : wY_gate_82 post z (nI c) (nI c) w kd xs yr va := by
  have ic : vp_in (nI c) 16 := vp_in_nI hc (by decide)
  have cc : (nI c).toNatClampNeg = c := nI_clamp (by omega)
  refine ⟨ic, ?_⟩
  rw [cc]
  refine nm_e (nm_r (nI_1 c) ?_)
  rw [nI_pred]
  exact h
theorem ty_g32_5 {post : Int32 → SY → Prop} {c a : Nat} {x3 w : Int32} {kd xs yr va : Nat → Int32} (hc : c < 16) (h : post (nI c) (nI (c + 1), w, upd kd c 5, upd xs c (nI a), upd yr c (nI 0), va)) : wY_gate_32 post 5 (nI a) x3 (nI c) w kd xs yr va := by
  have ic : vp_in (nI c) 16 := vp_in_nI hc (by decide)
  have cc : (nI c).toNatClampNeg = c := nI_clamp (by omega)
  refine br_t (nI_lt (b := 16) hc (by decide)) ?_
  rw [cc]
  exact ⟨ic, nm_e ⟨ic, nm_e (br_t rfl (ty_g82 hc h))⟩⟩
theorem ty_g32_n {post : Int32 → SY → Prop} {c a : Nat} {kind x3 w : Int32} {kd xs yr va : Nat → Int32} (hc : c < 16) (hk : ¬ kind = 5) (h : post (nI c) (nI (c + 1), w, upd kd c kind, upd xs c (nI a), upd yr c x3, va)) : wY_gate_32 post kind (nI a) x3 (nI c) w kd xs yr va := by
  have ic : vp_in (nI c) 16 := vp_in_nI hc (by decide)
  have cc : (nI c).toNatClampNeg = c := nI_clamp (by omega)
  refine br_t (nI_lt (b := 16) hc (by decide)) ?_
  rw [cc]
  exact ⟨ic, nm_e ⟨ic, nm_e (br_f hk (ty_g82 hc h))⟩⟩
theorem ty_alike_t {post : Int32 → SY → Prop} {c a b : Nat} {w v x : Int32} {kd xs ys yr S va : Nat → Int32} (R : tp_R c kd xs ys yr S) (ha : a < c) (hb : b < c) (hv : v = 0 ∨ v = 1) (hx : x = 0 ∨ x = 1)
    (hp : ∀ va', post (tp_b (decide (tp_V c w kd xs ys S (nI a) v = tp_V c w kd xs ys S (nI b) x))) (nI c, w, kd, xs, yr, va')) : wpY_alike post (nI c, w, kd, xs, yr, va) (nI a) v (nI b) x := by
  have hc := R.1.2
  have k46 : ∃ n : Nat, wY_alike_46 post (nI a) v (nI b) x n 1 0 (nI c) w kd xs yr va := ⟨34, ty_al46 R ha hb hv hx hp 32 0 va (by omega) (fun i hi => absurd hi (Nat.not_lt_zero i))⟩
  have key : wY_alike_25 post (nI a) v (nI b) x (nI c) w kd xs yr va := by
    by_cases z : x = 0
    · exact br_t z k46
    · exact br_f z (br_t (hx.resolve_left z) k46)
  unfold wpY_alike
  dsimp only
  refine ty_is_t ha hc (br_f tp_10 (ty_is_t hb hc (br_f tp_10 ?_)))
  by_cases z : v = 0
  · exact br_t z key
  · exact br_f z (br_t (hv.resolve_left z) key)
theorem ty_alike_f {post : Int32 → SY → Prop} {c : Nat} {l m w v x : Int32} {kd xs yr va : Nat → Int32} (hc : c ≤ 16) (hn : ¬ (((∃ j : Nat, j < c ∧ l = nI j) ∧ (v = 0 ∨ v = 1)) ∧ ((∃ j : Nat, j < c ∧ m = nI j) ∧ (x = 0 ∨ x = 1)))) (hp : post 0 (nI c, w, kd, xs, yr, va)) : wpY_alike post (nI c, w, kd, xs, yr, va) l v m x := by
  have k0 : ∃ n : Nat, wY_alike_46 post l v m x n 0 0 (nI c) w kd xs yr va := ty_al0 hp
  unfold wpY_alike
  dsimp only
  by_cases hl : ∃ j : Nat, j < c ∧ l = nI j
  · by_cases hm : ∃ j : Nat, j < c ∧ m = nI j
    · have key : (v = 0 ∨ v = 1) → wY_alike_25 post l v m x (nI c) w kd xs yr va := fun hv =>
        br_f (fun z => hn ⟨⟨hl, hv⟩, hm, Or.inl z⟩) (br_f (fun z => hn ⟨⟨hl, hv⟩, hm, Or.inr z⟩) k0)
      obtain ⟨a, ha, ea⟩ := hl
      obtain ⟨b, hb, eb⟩ := hm
      rw [ea, eb] at key k0 ⊢
      refine ty_is_t ha hc (br_f tp_10 (ty_is_t hb hc (br_f tp_10 ?_)))
      by_cases z : v = 0
      · exact br_t z (key (Or.inl z))
      · by_cases z1 : v = 1
        · exact br_f z (br_t z1 (key (Or.inr z1)))
        · exact br_f z (br_f z1 k0)
    · obtain ⟨a, ha, ea⟩ := hl
      rw [ea] at k0 ⊢
      exact ty_is_t ha hc (br_f tp_10 (ty_is_f hm hc (br_t rfl k0)))
  · exact ty_is_f hl hc (br_t rfl k0)
