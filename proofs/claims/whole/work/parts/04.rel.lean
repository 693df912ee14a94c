/-! pure: what gate and drop keep -/
theorem tp_Rgate {c : Nat} {kd xs ys yr S : Nat → Int32} (R : tp_R c kd xs ys yr S) (hc : c < 16) (kind : Int32) {a b d : Nat} (ha : a < c) (hb : b < c) (hd : d < c) (hk : kind ≠ 5 → d = b) :
    tp_R (c + 1) (upd kd c kind) (upd xs c (nI a)) (upd ys c (nI b)) (upd yr c (nI d)) (upd S c (tp_g kind (S a) (S b))) := by
  have h5 := R.1.1
  refine ⟨⟨by omega, by omega⟩, fun i hi k hk => ?_, fun i hi => ?_, fun i h5 hi => ?_⟩
  · rw [pk_un (by omega)]; exact R.2.1 i hi k hk
  · rw [pk_un (by omega), pk_un (by omega)]; exact R.2.2.1 i hi
  · by_cases e : i = c
    · subst e
      refine ⟨a, b, d, ⟨ha, hb, hd⟩, ⟨pk_us, pk_us, pk_us⟩, ?_, ?_⟩
      · rw [pk_us]; exact hk
      · rw [pk_us, pk_us, pk_un (by omega), pk_un (by omega)]
    · obtain ⟨a', b', d', ⟨ha', hb', hd'⟩, ⟨ea, eb, ed⟩, hk', hS⟩ := R.2.2.2 i h5 (by omega)
      refine ⟨a', b', d', ⟨ha', hb', hd'⟩, ⟨?_, ?_, ?_⟩, ?_, ?_⟩
      · rw [pk_un e]; exact ea
      · rw [pk_un e]; exact eb
      · rw [pk_un e]; exact ed
      · rw [pk_un e]; exact hk'
      · rw [pk_un e, pk_un e, pk_un (by omega), pk_un (by omega)]; exact hS
theorem tp_Rdrop {c : Nat} {kd xs ys yr S : Nat → Int32} (R : tp_R (c + 1) kd xs ys yr S) (h : 5 ≤ c) : tp_R c kd xs ys yr S :=
  ⟨⟨h, by have := R.1.2; omega⟩, R.2.1, R.2.2.1, fun i h5 hi => R.2.2.2 i h5 (by omega)⟩
