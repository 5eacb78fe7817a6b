/-! pending, sum and fill: the loops of both sides -/
theorem zx_pd {post : Int32 → Prop} {c o g : Int32} {cu du fr : Nat → Int32} (h : post (nI (zl_dif cu du 16))) : ∀ d j : Nat, j + d = 16 → wX_pending_13 post c o g cu du fr (d + 1) (nI (zl_dif cu du j)) (nI j) := by
  intro d
  induction d with
  | zero =>
    intro j hj
    have e : j = 16 := by omega
    subst e
    exact br_t zl_t16 h
  | succ d ih =>
    intro j hj
    have hl : j < 16 := by omega
    have q := ih (j + 1) (by omega)
    by_cases z : cu j = du j
    · have z' : cu (nI j).toNatClampNeg = du (nI j).toNatClampNeg := by rw [zl_cl hl]; exact z
      rw [zl_dif_t z] at q
      exact br_f (zl_f16 hl) ⟨zl_in hl, zl_in hl, br_t z' (nm_r (nI_1 j) q)⟩
    · have z' : ¬ cu (nI j).toNatClampNeg = du (nI j).toNatClampNeg := by rw [zl_cl hl]; exact z
      rw [zl_dif_f z] at q
      exact br_f (zl_f16 hl) ⟨zl_in hl, zl_in hl, br_f z' (nm_r (nI_1 _) (nm_r (nI_1 j) q))⟩
theorem zy_pd {post : Int32 → Prop} {o g : Int32} {cu du fr : Nat → Int32} (h : post (nI (zl_dif cu du 16))) : ∀ d j : Nat, j + d = 16 → wY_pending_13 post o g cu du fr (d + 1) (nI (zl_dif cu du j)) (nI j) := by
  intro d
  induction d with
  | zero =>
    intro j hj
    have e : j = 16 := by omega
    subst e
    exact br_t zl_t16 h
  | succ d ih =>
    intro j hj
    have hl : j < 16 := by omega
    have q := ih (j + 1) (by omega)
    by_cases z : cu j = du j
    · have z' : cu (nI j).toNatClampNeg = du (nI j).toNatClampNeg := by rw [zl_cl hl]; exact z
      rw [zl_dif_t z] at q
      exact br_f (zl_f16 hl) ⟨zl_in hl, zl_in hl, br_t z' (nm_r (nI_1 j) q)⟩
    · have z' : ¬ cu (nI j).toNatClampNeg = du (nI j).toNatClampNeg := by rw [zl_cl hl]; exact z
      rw [zl_dif_f z] at q
      exact br_f (zl_f16 hl) ⟨zl_in hl, zl_in hl, br_f z' (nm_r (nI_1 _) (nm_r (nI_1 j) q))⟩
theorem zl_sst {f : Nat → Int32} {j : Nat} (h : j < 16) : zl_sum f j + f (nI j).toNatClampNeg = zl_sum f (j + 1) := by
  rw [zl_cl h]
  rfl
theorem zx_sm {post : Int32 → Prop} {c o g : Int32} {cu du fr : Nat → Int32} (h : post (zl_sum cu 16)) : ∀ d j : Nat, j + d = 16 → wX_sum_13 post c o g cu du fr (d + 1) (zl_sum cu j) (nI j) := by
  intro d
  induction d with
  | zero =>
    intro j hj
    have e : j = 16 := by omega
    subst e
    exact br_t zl_t16 h
  | succ d ih =>
    intro j hj
    have hl : j < 16 := by omega
    exact br_f (zl_f16 hl) ⟨zl_in hl, nm_r (zl_sst hl) (nm_r (nI_1 j) (ih (j + 1) (by omega)))⟩
theorem zy_sm {post : Int32 → Prop} {o g : Int32} {cu du fr : Nat → Int32} (h : (o = 0 → post 0) ∧ (¬ o = 0 → post (zl_sum cu 16))) : ∀ d j : Nat, j + d = 16 → wY_sum_4 post o g cu du fr (d + 1) (zl_sum cu j) (nI j) := by
  intro d
  induction d with
  | zero =>
    intro j hj
    have e : j = 16 := by omega
    subst e
    exact br_t zl_t16 h
  | succ d ih =>
    intro j hj
    have hl : j < 16 := by omega
    exact br_f (zl_f16 hl) ⟨zl_in hl, nm_r (zl_sst hl) (nm_r (nI_1 j) (ih (j + 1) (by omega)))⟩
theorem zp_fill {o x s : Int32} {f m : Nat} (hm : f + m ≤ 16) : ∀ d j : Nat, j + d = m → ∀ cu du fr : Nat → Int32, zl_01 fr →
    ∃ cu' du' fr' : Nat → Int32, zl_01 fr' ∧ (∀ post : Int32 → SX → Prop, post 0 (nI (zl_cnt fr' 16), o, 0, cu', du', fr') → wX_fill_48 post (nI f) (nI m) x s (d + 1) (nI j) (nI (zl_cnt fr 16)) o 0 cu du fr) ∧ (∀ post : Int32 → SY → Prop, post 0 (o, 0, cu', du', fr') → wY_fill_48 post (nI f) (nI m) x s (d + 1) (nI j) o 0 cu du fr) := by
  intro d
  induction d with
  | zero =>
    intro j hj cu du fr h01
    have hl : nI m ≤ nI j := nI_le (by omega) (by omega)
    exact ⟨cu, du, fr, h01, fun post h => br_t hl h, fun post h => br_t hl h⟩
  | succ d ih =>
    intro j hj cu du fr h01
    have hl : ¬ nI m ≤ nI j := nI_ge (by omega) (by omega)
    obtain ⟨cu1, du1, fr1, h1, pX, pY⟩ := zp_put (o := o) (g := 0) (x := x + nI j * s) (cu := cu) (du := du) (fr := fr) (j := f + j) (by omega) h01 (Or.inl rfl)
    obtain ⟨cu2, du2, fr2, h2, iX, iY⟩ := ih (j + 1) (by omega) cu1 du1 fr1 h1
    refine ⟨cu2, du2, fr2, h2, fun post h => ?_, fun post h => ?_⟩
    · refine br_f hl ?_
      rw [nI_add f j]
      refine pX _ ?_
      dsimp only
      exact nm_r (nI_1 j) (iX post h)
    · refine br_f hl ?_
      rw [nI_add f j]
      refine pY _ ?_
      dsimp only
      exact nm_r (nI_1 j) (iY post h)
theorem zl_sub {a b : Nat} (h : b ≤ a) : nI a - nI b = nI (a - b) := by
  have e : nI (a - b) + nI b = nI a := by rw [nI_add, Nat.sub_add_cancel h]
  rw [← e]
  exact Int32.add_sub_cancel _ _
