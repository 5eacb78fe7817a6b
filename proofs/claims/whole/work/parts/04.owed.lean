/-- both sides hold the same blocks, the same durable blocks, the same marks and flags; the class's counter counts the marks -/
def i_Rel (_ : Nat) (u : SX) (v : SY) : Prop := ∃ (o g : Int32) (cu du fr : Nat → Int32), zl_01 fr ∧ u = (nI (zl_cnt fr 16), o, g, cu, du, fr) ∧ v = (o, g, cu, du, fr)
theorem zl_rel {k : Nat} {o g : Int32} {cu du fr : Nat → Int32} (h : zl_01 fr) : i_Rel k (nI (zl_cnt fr 16), o, g, cu, du, fr) (o, g, cu, du, fr) := ⟨o, g, cu, du, fr, h, rfl, rfl⟩
theorem zl_rel0 {k : Nat} {o g : Int32} {cu du fr : Nat → Int32} (h : zl_01 fr) : i_Rel k (0, o, g, cu, du, zl_zr fr 16) (o, g, cu, du, zl_zr fr 16) := by
  have q := zl_rel (k := k) (o := o) (g := g) (cu := cu) (du := du) (zl_01_zr (n := 16) h)
  rw [zl_cnt_zr fr 16 16 (Nat.le_refl 16), nI_0] at q
  exact q
theorem i_up {k : Nat} {u : SX} {v : SY} (h : i_Rel k u v) : i_Rel (k + 5) u v := h
theorem i_vc0 : wpX_init (fun u => wpY_init (fun v => i_Rel 0 u v)) := by
  have q := zl_rel (k := 0) (o := 1) (g := 0) (cu := fun _ => 0) (du := fun _ => 0) (fr := fun _ => 0) (fun _ => Or.inl rfl)
  rw [zl_cnt_0, nI_0] at q
  exact q
theorem i_vc_up {k : Nat} {u : SX} {v : SY} (I : i_Rel k u v) (hk : k + 5 ≤ 2560) : wpX_up (fun r => wpY_up (fun r' => r' = r ∧ i_Rel (k + 5) u v) v) u := by
  obtain ⟨o, g, cu, du, fr, h01, rfl, rfl⟩ := I
  by_cases ho : o = 0
  · exact br_t ho (br_t ho ⟨rfl, zl_rel h01⟩)
  · exact br_f ho (br_f ho ⟨rfl, zl_rel h01⟩)
theorem i_vc_read {k : Nat} {u : SX} {v : SY} (I : i_Rel k u v) (hk : k + 5 ≤ 2560) (v1 : Int32) : wpX_read (fun r => wpY_read (fun r' => r' = r ∧ i_Rel (k + 5) u v) v v1) u v1 := by
  obtain ⟨o, g, cu, du, fr, h01, rfl, rfl⟩ := I
  by_cases ho : o = 0
  · exact br_t ho (br_t ho ⟨rfl, zl_rel h01⟩)
  · refine br_f ho ?_
    rcases zl_ix v1 with hb | ⟨j, hj, rfl⟩
    · refine zx_good_n hb (br_t zl_00 ?_)
      refine br_f ho ?_
      exact zy_bad_n hb (br_f zl_10 ⟨rfl, zl_rel h01⟩)
    · refine zx_good_y hj (br_f zl_10 ⟨zl_in hj, ?_⟩)
      refine br_f ho ?_
      exact zy_bad_y hj (br_t zl_00 ⟨zl_in hj, rfl, zl_rel h01⟩)
theorem i_vc_write {k : Nat} {u : SX} {v : SY} (I : i_Rel k u v) (hk : k + 5 ≤ 2560) (v1 : Int32) (v2 : Int32) : wpX_write (fun r u' => wpY_write (fun r' v' => r' = r ∧ i_Rel (k + 5) u' v') v v1 v2) u v1 v2 := by
  obtain ⟨o, g, cu, du, fr, h01, rfl, rfl⟩ := I
  by_cases ho : o = 0
  · exact br_t ho (br_t ho ⟨rfl, zl_rel h01⟩)
  · refine br_f ho ?_
    rcases zl_ix v1 with hb | ⟨j, hj, rfl⟩
    · refine zx_good_n hb (br_t zl_00 ?_)
      refine br_f ho ?_
      exact zy_bad_n hb (br_f zl_10 ⟨rfl, zl_rel h01⟩)
    · refine zx_good_y hj (br_f zl_10 ?_)
      by_cases hg : g = 0
      · obtain ⟨cu1, du1, fr1, h1, pX, pY⟩ := zp_put (o := o) (g := g) (x := v2) (cu := cu) (du := du) (fr := fr) hj h01 (Or.inl hg)
        refine br_t hg ?_
        unfold wX_write_37
        refine pX _ ?_
        dsimp only
        refine br_f ho ?_
        refine zy_bad_y hj (br_t zl_00 (br_t hg ?_))
        unfold wY_write_48
        refine pY _ ?_
        exact ⟨rfl, zl_rel h1⟩
      · refine br_f hg ?_
        by_cases hf : zl_cnt fr 16 = 6 ∧ fr j = 0
        · refine zx_room_y hj hf.1 hf.2 (br_f zl_10 ?_)
          have hz' : fr (nI j).toNatClampNeg = 0 := by rw [zl_cl hj]; exact hf.2
          refine br_f ho ?_
          refine zy_bad_y hj (br_t zl_00 (br_f hg ?_))
          exact zy_fresh (br_t ((zl_c6 (zl_cnt_le fr 16)).mpr hf.1) ⟨zl_in hj, br_t hz' ⟨rfl, zl_rel h01⟩⟩)
        · obtain ⟨cu1, du1, fr1, h1, pX, pY⟩ := zp_put (o := o) (g := g) (x := v2) (cu := cu) (du := du) (fr := fr) hj h01 (Or.inr hf)
          refine zx_room_n hj hf (br_t zl_00 ?_)
          unfold wX_write_37
          refine pX _ ?_
          dsimp only
          refine br_f ho ?_
          refine zy_bad_y hj (br_t zl_00 (br_f hg ?_))
          refine zy_fresh ?_
          by_cases h6 : zl_cnt fr 16 = 6
          · have hz' : ¬ fr (nI j).toNatClampNeg = 0 := by rw [zl_cl hj]; exact fun z => hf ⟨h6, z⟩
            refine br_t ((zl_c6 (zl_cnt_le fr 16)).mpr h6) ⟨zl_in hj, br_f hz' ?_⟩
            unfold wY_write_48
            refine pY _ ?_
            exact ⟨rfl, zl_rel h1⟩
          · refine br_f (fun z => h6 ((zl_c6 (zl_cnt_le fr 16)).mp z)) ?_
            unfold wY_write_48
            refine pY _ ?_
            exact ⟨rfl, zl_rel h1⟩
theorem i_vc_fill {k : Nat} {u : SX} {v : SY} (I : i_Rel k u v) (hk : k + 5 ≤ 2560) (v1 : Int32) (v2 : Int32) (v3 : Int32) (v4 : Int32) : wpX_fill (fun r u' => wpY_fill (fun r' v' => r' = r ∧ i_Rel (k + 5) u' v') v v1 v2 v3 v4) u v1 v2 v3 v4 := by
  obtain ⟨o, g, cu, du, fr, h01, rfl, rfl⟩ := I
  by_cases ho : o = 0
  · exact br_t ho (br_t ho ⟨rfl, zl_rel h01⟩)
  · by_cases c1 : v2 < 1
    · exact br_f ho (br_t c1 (br_f ho (br_t c1 ⟨rfl, zl_rel h01⟩)))
    · by_cases c2 : 16 < v2
      · exact br_f ho (br_f c1 (br_t c2 (br_f ho (br_f c1 (br_t c2 ⟨rfl, zl_rel h01⟩)))))
      · by_cases c3 : v1 < 0
        · exact br_f ho (br_f c1 (br_f c2 (br_t c3 (br_f ho (br_f c1 (br_f c2 (br_t c3 ⟨rfl, zl_rel h01⟩)))))))
        · by_cases c4 : v1 ≤ 16 - v2
          · by_cases hg : g = 0
            · subst hg
              have n0 : ¬ v2 < 0 := fun q => c1 (Int32.lt_trans q (by decide))
              obtain ⟨m, hm, em⟩ := nI_of n0
              obtain ⟨f, hf, ef⟩ := nI_of c3
              have m16 : m ≤ 16 := by
                rw [em, ← zl_n16, nI_ltI (by omega) hm] at c2
                omega
              have hfm : f + m ≤ 16 := by
                have q := c4
                rw [em, ef, ← zl_n16, zl_sub m16, nI_leI hf (by omega)] at q
                omega
              obtain ⟨cu1, du1, fr1, h1, pX, pY⟩ := zp_fill (o := o) (x := v3) (s := v4) hfm m 0 (Nat.zero_add m) cu du fr h01
              rw [nI_0, ← em, ← ef] at pX pY
              refine br_f ho (br_f c1 (br_f c2 (br_f c3 (br_t c4 (br_t zl_00 ⟨m + 1, pX _ ?_⟩)))))
              refine br_f ho (br_f c1 (br_f c2 (br_f c3 (br_t c4 (br_t zl_00 ⟨m + 1, pY _ ?_⟩)))))
              exact ⟨rfl, zl_rel h1⟩
            · exact br_f ho (br_f c1 (br_f c2 (br_f c3 (br_t c4 (br_f hg (br_f ho (br_f c1 (br_f c2 (br_f c3 (br_t c4 (br_f hg ⟨rfl, zl_rel h01⟩)))))))))))
          · exact br_f ho (br_f c1 (br_f c2 (br_f c3 (br_f c4 (br_f ho (br_f c1 (br_f c2 (br_f c3 (br_f c4 ⟨rfl, zl_rel h01⟩)))))))))
theorem i_vc_sync {k : Nat} {u : SX} {v : SY} (I : i_Rel k u v) (hk : k + 5 ≤ 2560) : wpX_sync (fun r u' => wpY_sync (fun r' v' => r' = r ∧ i_Rel (k + 5) u' v') v) u := by
  obtain ⟨o, g, cu, du, fr, h01, rfl, rfl⟩ := I
  by_cases ho : o = 0
  · exact br_t ho (br_t ho ⟨rfl, zl_rel h01⟩)
  · by_cases hg : g = 0
    · refine br_f ho (br_t hg ?_)
      refine zx_keep ?_
      dsimp only
      refine br_f ho (br_t hg ?_)
      refine zy_settle1 ?_
      exact ⟨rfl, zl_rel0 h01⟩
    · exact br_f ho (br_f hg (br_f ho (br_f hg ⟨rfl, zl_rel h01⟩)))
theorem i_vc_begin {k : Nat} {u : SX} {v : SY} (I : i_Rel k u v) (hk : k + 5 ≤ 2560) : wpX_begin (fun r u' => wpY_begin (fun r' v' => r' = r ∧ i_Rel (k + 5) u' v') v) u := by
  obtain ⟨o, g, cu, du, fr, h01, rfl, rfl⟩ := I
  by_cases ho : o = 0
  · exact br_t ho (br_t ho ⟨rfl, zl_rel h01⟩)
  · by_cases hg : g = 0
    · refine br_f ho (br_t hg ?_)
      refine zx_keep ?_
      dsimp only
      refine br_f ho (br_t hg ?_)
      refine zy_settle1 ?_
      exact ⟨rfl, zl_rel0 h01⟩
    · exact br_f ho (br_f hg (br_f ho (br_f hg ⟨rfl, zl_rel h01⟩)))
theorem i_vc_commit {k : Nat} {u : SX} {v : SY} (I : i_Rel k u v) (hk : k + 5 ≤ 2560) : wpX_commit (fun r u' => wpY_commit (fun r' v' => r' = r ∧ i_Rel (k + 5) u' v') v) u := by
  obtain ⟨o, g, cu, du, fr, h01, rfl, rfl⟩ := I
  by_cases ho : o = 0
  · exact br_t ho (br_t ho ⟨rfl, zl_rel h01⟩)
  · by_cases hg : g = 0
    · exact br_f ho (br_t hg (br_f ho (br_t hg ⟨rfl, zl_rel h01⟩)))
    · refine br_f ho (br_f hg ?_)
      refine zx_keep ?_
      dsimp only
      refine br_f ho (br_f hg ?_)
      refine zy_settle1 ?_
      exact ⟨rfl, zl_rel0 h01⟩
theorem i_vc_abort {k : Nat} {u : SX} {v : SY} (I : i_Rel k u v) (hk : k + 5 ≤ 2560) : wpX_abort (fun r u' => wpY_abort (fun r' v' => r' = r ∧ i_Rel (k + 5) u' v') v) u := by
  obtain ⟨o, g, cu, du, fr, h01, rfl, rfl⟩ := I
  by_cases ho : o = 0
  · exact br_t ho (br_t ho ⟨rfl, zl_rel h01⟩)
  · by_cases hg : g = 0
    · exact br_f ho (br_t hg (br_f ho (br_t hg ⟨rfl, zl_rel h01⟩)))
    · refine br_f ho (br_f hg ?_)
      refine zx_ret ?_
      dsimp only
      refine br_f ho (br_f hg ?_)
      refine zy_settle0 ?_
      exact ⟨rfl, zl_rel0 h01⟩
theorem i_vc_crash {k : Nat} {u : SX} {v : SY} (I : i_Rel k u v) (hk : k + 5 ≤ 2560) : wpX_crash (fun r u' => wpY_crash (fun r' v' => r' = r ∧ i_Rel (k + 5) u' v') v) u := by
  obtain ⟨o, g, cu, du, fr, h01, rfl, rfl⟩ := I
  by_cases ho : o = 0
  · exact br_t ho (br_t ho ⟨rfl, zl_rel h01⟩)
  · refine br_f ho ?_
    refine zx_lose ?_
    dsimp only
    refine br_f ho ?_
    refine zy_settle0 ?_
    exact ⟨rfl, zl_rel0 h01⟩
theorem i_vc_crashIn {k : Nat} {u : SX} {v : SY} (I : i_Rel k u v) (hk : k + 5 ≤ 2560) (v1 : Int32) : wpX_crashIn (fun r u' => wpY_crashIn (fun r' v' => r' = r ∧ i_Rel (k + 5) u' v') v v1) u v1 := by
  obtain ⟨o, g, cu, du, fr, h01, rfl, rfl⟩ := I
  by_cases ho : o = 0
  · exact br_t ho (br_t ho ⟨rfl, zl_rel h01⟩)
  · by_cases c1 : v1 < 0
    · exact br_f ho (br_t c1 (br_f ho (br_t c1 ⟨rfl, zl_rel h01⟩)))
    · by_cases c2 : v1 ≤ 3
      · by_cases c3 : v1 = 3
        · refine br_f ho (br_f c1 (br_t c2 (br_t c3 ?_)))
          refine zx_keep ?_
          dsimp only
          unfold wX_crashIn_31
          refine zx_lose2 ?_
          dsimp only
          refine br_f ho (br_f c1 (br_t c2 (br_t c3 ?_)))
          unfold wY_crashIn_32
          refine zy_settle1 ?_
          exact ⟨rfl, zl_rel0 h01⟩
        · refine br_f ho (br_f c1 (br_t c2 (br_f c3 ?_)))
          unfold wX_crashIn_31
          refine zx_lose ?_
          dsimp only
          refine br_f ho (br_f c1 (br_t c2 (br_f c3 ?_)))
          unfold wY_crashIn_32
          refine zy_settle0 ?_
          exact ⟨rfl, zl_rel0 h01⟩
      · exact br_f ho (br_f c1 (br_f c2 (br_f ho (br_f c1 (br_f c2 ⟨rfl, zl_rel h01⟩)))))
theorem i_vc_mount {k : Nat} {u : SX} {v : SY} (I : i_Rel k u v) (hk : k + 5 ≤ 2560) : wpX_mount (fun r u' => wpY_mount (fun r' v' => r' = r ∧ i_Rel (k + 5) u' v') v) u := by
  obtain ⟨o, g, cu, du, fr, h01, rfl, rfl⟩ := I
  by_cases ho : o = 0
  · exact br_t ho (br_t ho ⟨rfl, zl_rel h01⟩)
  · exact br_f ho (br_f ho ⟨rfl, zl_rel h01⟩)
theorem i_vc_unsynced {k : Nat} {u : SX} {v : SY} (I : i_Rel k u v) (hk : k + 5 ≤ 2560) : wpX_unsynced (fun r => wpY_unsynced (fun r' => r' = r ∧ i_Rel (k + 5) u v) v) u := by
  obtain ⟨o, g, cu, du, fr, h01, rfl, rfl⟩ := I
  unfold wpX_unsynced wpY_unsynced
  dsimp only
  refine zy_fresh ?_
  exact ⟨rfl, zl_rel h01⟩
theorem i_vc_grouped {k : Nat} {u : SX} {v : SY} (I : i_Rel k u v) (hk : k + 5 ≤ 2560) : wpX_grouped (fun r => wpY_grouped (fun r' => r' = r ∧ i_Rel (k + 5) u v) v) u := by
  obtain ⟨o, g, cu, du, fr, h01, rfl, rfl⟩ := I
  by_cases hg : g = 0
  · exact br_t hg (br_t hg ⟨rfl, zl_rel h01⟩)
  · exact br_f hg (br_f hg ⟨rfl, zl_rel h01⟩)
theorem i_vc_pending {k : Nat} {u : SX} {v : SY} (I : i_Rel k u v) (hk : k + 5 ≤ 2560) : wpX_pending (fun r => wpY_pending (fun r' => r' = r ∧ i_Rel (k + 5) u v) v) u := by
  obtain ⟨o, g, cu, du, fr, h01, rfl, rfl⟩ := I
  by_cases ho : o = 0
  · exact br_t ho (br_t ho ⟨rfl, zl_rel h01⟩)
  · refine br_f ho ⟨17, zx_pd ?_ 16 0 rfl⟩
    refine br_f ho ⟨17, zy_pd ?_ 16 0 rfl⟩
    exact ⟨rfl, zl_rel h01⟩
theorem i_vc_sum {k : Nat} {u : SX} {v : SY} (I : i_Rel k u v) (hk : k + 5 ≤ 2560) : wpX_sum (fun r => wpY_sum (fun r' => r' = r ∧ i_Rel (k + 5) u v) v) u := by
  obtain ⟨o, g, cu, du, fr, h01, rfl, rfl⟩ := I
  by_cases ho : o = 0
  · refine br_t ho ?_
    exact Exists.intro 17 (zy_sm (br_t ho ⟨rfl, zl_rel h01⟩) 16 0 rfl)
  · refine br_f ho ⟨17, zx_sm ?_ 16 0 rfl⟩
    exact Exists.intro 17 (zy_sm (br_f ho ⟨rfl, zl_rel h01⟩) 16 0 rfl)
theorem i_vc_clean {k : Nat} {u : SX} {v : SY} (I : i_Rel k u v) (hk : k + 5 ≤ 2560) : wpX_clean (fun r => wpY_clean (fun r' => r' = r ∧ i_Rel (k + 5) u v) v) u := by
  obtain ⟨o, g, cu, du, fr, h01, rfl, rfl⟩ := I
  by_cases ho : o = 0
  · exact br_t ho (br_t ho ⟨rfl, zl_rel h01⟩)
  · exact br_f ho (br_f ho ⟨rfl, zl_rel h01⟩)
theorem i_vc_check {k : Nat} {u : SX} {v : SY} (I : i_Rel k u v) (hk : k + 5 ≤ 2560) : wpX_check (fun r => wpY_check (fun r' => r' = r ∧ i_Rel (k + 5) u v) v) u := by
  obtain ⟨o, g, cu, du, fr, h01, rfl, rfl⟩ := I
  by_cases ho : o = 0
  · exact br_t ho (br_t ho ⟨rfl, zl_rel h01⟩)
  · exact br_f ho (br_f ho ⟨rfl, zl_rel h01⟩)
