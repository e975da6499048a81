section
variable {h w z t U H W : Nat → Int32}
/-! put -/
theorem sn_putX1 {post : Int32 → SX → Prop} {x y : Int32} (hx : x < 0 ∨ nI 256 ≤ x) (hp : post (-1) (h, w, z, t)) : wpX_put post (h, w, z, t) x y := by
  unfold wpX_put
  exact sn_isKey0 hx (br_t rfl hp)
theorem sn_putX2 {post : Int32 → SX → Prop} {k : Nat} {y : Int32} (hk : k < 256) (hh : ¬ h (256 * 0 + k) = 0) (hp : post (z 0) (h, upd w (256 * 0 + k) y, z, t)) : wpX_put post (h, w, z, t) (nI k) y := by
  have hi : vp_in (nI (256 * 0 + k)) 2048 := sn_xi (by decide) hk
  have hc : (nI (256 * 0 + k)).toNatClampNeg = 256 * 0 + k := sn_xc (by decide) hk
  unfold wpX_put
  refine sn_isKey1 hk (br_f sn_one (sn_cell 0 k ⟨hi, ?_⟩))
  rw [hc]
  exact br_f hh (And.intro hi (nm_r (congrArg (fun i => upd w i y) hc) hp))
theorem sn_putX3 {post : Int32 → SX → Prop} {k : Nat} {y : Int32} (hk : k < 256) (hh : h (256 * 0 + k) = 0) (h16 : z 0 < 16) (hp : post (upd z 0 (z 0 + 1) 0) (upd h (256 * 0 + k) 1, upd w (256 * 0 + k) y, upd z 0 (z 0 + 1), t)) : wpX_put post (h, w, z, t) (nI k) y := by
  have hi : vp_in (nI (256 * 0 + k)) 2048 := sn_xi (by decide) hk
  have hc : (nI (256 * 0 + k)).toNatClampNeg = 256 * 0 + k := sn_xc (by decide) hk
  have e1 : upd h (256 * 0 + k) (vp_nar .boolean 1) = upd h (256 * 0 + k) 1 := by rw [sn_nar1]
  unfold wpX_put
  refine sn_isKey1 hk (br_f sn_one (sn_cell 0 k ⟨hi, ?_⟩))
  rw [hc]
  exact br_t hh (br_t h16 ⟨hi, nm_r e1 (nm_e (And.intro hi (nm_r (congrArg (fun i => upd w i y) hc) hp)))⟩)
theorem sn_putX4 {post : Int32 → SX → Prop} {k : Nat} {y : Int32} (hk : k < 256) (hh : h (256 * 0 + k) = 0) (h16 : ¬ z 0 < 16) (hp : post (-1) (h, w, z, t)) : wpX_put post (h, w, z, t) (nI k) y := by
  have hi : vp_in (nI (256 * 0 + k)) 2048 := sn_xi (by decide) hk
  have hc : (nI (256 * 0 + k)).toNatClampNeg = 256 * 0 + k := sn_xc (by decide) hk
  unfold wpX_put
  refine sn_isKey1 hk (br_f sn_one (sn_cell 0 k ⟨hi, ?_⟩))
  rw [hc]
  exact br_t hh (br_f h16 hp)
theorem sn_putY1 {post : Int32 → SY → Prop} {x y : Int32} (hx : x < 0 ∨ nI 256 ≤ x) (hp : post (-1) (U, H, W)) : wpY_put post (U, H, W) x y := by
  unfold wpY_put
  exact sn_bad1 hx (br_f sn_one hp)
theorem sn_putY5 {post : Int32 → SY → Prop} {k : Nat} {y : Int32} (hk : k < 256) (hp : post (nI (sn_c (upd H (256 * 7 + k) 1) (256 * 7) 256)) (U, upd H (256 * 7 + k) 1, upd W (256 * 7 + k) y)) : wY_put_33 post (nI k) y U H W := by
  have e1 : upd H (1792 + nI k).toNatClampNeg (vp_nar .boolean 1) = upd H (256 * 7 + k) 1 := by rw [sn_nar1, sn_zc hk]
  have e2 : upd W (1792 + nI k).toNatClampNeg y = upd W (256 * 7 + k) y := by rw [sn_zc hk]
  exact And.intro (sn_zi hk) (nm_r e1 ⟨sn_zi hk, nm_r e2 (sn_cnt (m := 7) (by decide) hp)⟩)
theorem sn_putY2 {post : Int32 → SY → Prop} {k : Nat} {y : Int32} (hk : k < 256) (hh : ¬ H (256 * 7 + k) = 0) (hp : post (nI (sn_c (upd H (256 * 7 + k) 1) (256 * 7) 256)) (U, upd H (256 * 7 + k) 1, upd W (256 * 7 + k) y)) : wpY_put post (U, H, W) (nI k) y := by
  have hh' : ¬ H (1792 + nI k).toNatClampNeg = 0 := by rw [sn_zc hk]; exact hh
  unfold wpY_put
  exact sn_bad0 hk (br_t rfl ⟨sn_zi hk, br_f hh' (sn_putY5 hk hp)⟩)
theorem sn_putY3 {post : Int32 → SY → Prop} {k : Nat} {y : Int32} (hk : k < 256) (hh : H (256 * 7 + k) = 0) (h16 : sn_c H (256 * 7) 256 < 16) (hp : post (nI (sn_c (upd H (256 * 7 + k) 1) (256 * 7) 256)) (U, upd H (256 * 7 + k) 1, upd W (256 * 7 + k) y)) : wpY_put post (U, H, W) (nI k) y := by
  have hh' : H (1792 + nI k).toNatClampNeg = 0 := by rw [sn_zc hk]; exact hh
  have hn : ¬ nI (sn_c H (256 * 7) 256) = nI 16 := by
    rw [nI_eq (by omega) (by decide)]
    omega
  unfold wpY_put
  exact sn_bad0 hk (br_t rfl ⟨sn_zi hk, br_t hh' (sn_cnt (m := 7) (by decide) (br_f hn (sn_putY5 hk hp)))⟩)
theorem sn_putY4 {post : Int32 → SY → Prop} {k : Nat} {y : Int32} (hk : k < 256) (hh : H (256 * 7 + k) = 0) (h16 : sn_c H (256 * 7) 256 = 16) (hp : post (-1) (U, H, W)) : wpY_put post (U, H, W) (nI k) y := by
  have hh' : H (1792 + nI k).toNatClampNeg = 0 := by rw [sn_zc hk]; exact hh
  have hn : nI (sn_c H (256 * 7) 256) = 16 := by
    rw [h16]
    rfl
  unfold wpY_put
  exact sn_bad0 hk (br_t rfl ⟨sn_zi hk, br_t hh' (sn_cnt (m := 7) (by decide) (br_t hn hp))⟩)
/-! remove -/
theorem sn_rmX1 {post : Int32 → SX → Prop} {x : Int32} (hx : x < 0 ∨ nI 256 ≤ x) (hp : post (-1) (h, w, z, t)) : wpX_remove post (h, w, z, t) x := by
  unfold wpX_remove
  exact sn_rh0 hx (br_t rfl hp)
theorem sn_rmX2 {post : Int32 → SX → Prop} {k : Nat} (hk : k < 256) (p0 : h (256 * 0 + k) = 0 → post (-1) (h, w, z, t)) (p1 : ¬ h (256 * 0 + k) = 0 → post (upd z 0 (z 0 - 1) 0) (upd h (256 * 0 + k) 0, w, upd z 0 (z 0 - 1), t)) : wpX_remove post (h, w, z, t) (nI k) := by
  have hi : vp_in (nI (256 * 0 + k)) 2048 := sn_xi (by decide) hk
  have hc : (nI (256 * 0 + k)).toNatClampNeg = 256 * 0 + k := sn_xc (by decide) hk
  have e1 : upd h (nI (256 * 0 + k)).toNatClampNeg (vp_nar .boolean 0) = upd h (256 * 0 + k) 0 := by rw [sn_nar0, hc]
  unfold wpX_remove
  exact sn_rh (r := 0) (by decide) hk (fun e => br_t rfl (p0 e)) (fun e => br_f sn_one (sn_cell 0 k ⟨hi, nm_r e1 (nm_e (p1 e))⟩))
theorem sn_rmY1 {post : Int32 → SY → Prop} {x : Int32} (hx : x < 0 ∨ nI 256 ≤ x) (hp : post (-1) (U, H, W)) : wpY_remove post (U, H, W) x := by
  unfold wpY_remove
  exact sn_bad1 hx (br_f sn_one hp)
theorem sn_rmY2 {post : Int32 → SY → Prop} {k : Nat} (hk : k < 256) (p0 : H (256 * 7 + k) = 0 → post (-1) (U, H, W)) (p1 : ¬ H (256 * 7 + k) = 0 → post (nI (sn_c (upd H (256 * 7 + k) 0) (256 * 7) 256)) (U, upd H (256 * 7 + k) 0, W)) : wpY_remove post (U, H, W) (nI k) := by
  have e1 : upd H (256 * 7 + k) (vp_nar .boolean 0) = upd H (256 * 7 + k) 0 := by rw [sn_nar0]
  unfold wpY_remove
  refine sn_bad0 hk (br_t rfl ⟨sn_zi hk, ?_⟩)
  rw [sn_zc hk]
  exact br_c p0 (fun e => ⟨sn_zi hk, nm_r e1 (sn_cnt (m := 7) (by decide) (p1 e))⟩)
/-! commit -/
theorem sn_cmX0 {post : Int32 → SX → Prop} (hl : ∀ i, i < 7 → ¬ t i = 0) (hp : post (-1) (h, w, z, t)) : wpX_commit post (h, w, z, t) := by
  unfold wpX_commit
  refine sn_skip (fun n x => wX_commit_2 post h w z t n x) 7 1 (fun n j hj hv => ?_) (br_t (nI_le (a := 7) (b := 7) (by decide) (by decide)) hp)
  have e : ¬ t (nI j).toNatClampNeg = 0 := by rw [nI_clamp (by omega)]; exact hl j hj
  exact br_f (nI_ge (b := 7) hj (by decide)) ⟨vp_in_nI hj (by decide), br_f e (nm_r (nI_1 j) hv)⟩
theorem sn_cmX1 {post : Int32 → SX → Prop} {s : Nat} (hs : s < 7) (h0 : t s = 0) (hl : ∀ i, i < s → ¬ t i = 0) (hB : sn_B h) (hp : ∀ h' w' : Nat → Int32, sn_P h h' (sn_r 7) (sn_r s) 256 → sn_P w w' (sn_r 7) (sn_r s) 256 → post (nI s) (h', w', upd z (sn_r s) (z (sn_r 7)), upd t s 1)) : wpX_commit post (h, w, z, t) := by
  have e0 : t (nI s).toNatClampNeg = 0 := by rw [nI_clamp (by omega)]; exact h0
  have hr : sn_r 7 ≠ sn_r s := by rw [sn_rs hs, sn_r7]; omega
  have e1 : upd t (nI s).toNatClampNeg (vp_nar .boolean 1) = upd t s 1 := by rw [sn_nar1, nI_clamp (by omega)]
  unfold wpX_commit
  refine sn_skip (fun n x => wX_commit_2 post h w z t n x) s 1 (fun n j hj hv => ?_) ?_
  · have e : ¬ t (nI j).toNatClampNeg = 0 := by rw [nI_clamp (by omega)]; exact hl j hj
    exact br_f (nI_ge (b := 7) (by omega) (by decide)) ⟨vp_in_nI (by omega) (by decide), br_f e (nm_r (nI_1 j) hv)⟩
  · refine br_f (nI_ge (b := 7) hs (by decide)) ⟨vp_in_nI hs (by decide), br_t e0 (sn_rowS hs ?_)⟩
    exact sn_cpX (r1 := sn_r 7) (by decide) (sn_r8 (by omega)) hr hB (fun h' w' p1 p2 => And.intro (vp_in_nI hs (by decide)) (nm_r e1 (hp h' w' p1 p2)))
theorem sn_cmY0 {post : Int32 → SY → Prop} (hl : ∀ i, i < 7 → ¬ U i = 0) (hp : post (-1) (U, H, W)) : wpY_commit post (U, H, W) := by
  unfold wpY_commit
  refine sn_skip (fun n x => wY_commit_2 post U H W n x) 7 1 (fun n j hj hv => ?_) (br_t (nI_le (a := 7) (b := 7) (by decide) (by decide)) hp)
  have e : ¬ U (nI j).toNatClampNeg = 0 := by rw [nI_clamp (by omega)]; exact hl j hj
  exact br_f (nI_ge (b := 7) hj (by decide)) ⟨vp_in_nI (by omega) (by decide), br_f e (nm_r (nI_1 j) hv)⟩
theorem sn_cmY1 {post : Int32 → SY → Prop} {s : Nat} (hs : s < 7) (h0 : U s = 0) (hl : ∀ i, i < s → ¬ U i = 0) (hB : sn_B H) (hp : ∀ H' W' : Nat → Int32, sn_P H H' 7 s 256 → sn_P W W' 7 s 256 → post (nI s) (upd U s 1, H', W')) : wpY_commit post (U, H, W) := by
  have e0 : U (nI s).toNatClampNeg = 0 := by rw [nI_clamp (by omega)]; exact h0
  have e1 : upd U (nI s).toNatClampNeg (vp_nar .boolean 1) = upd U s 1 := by rw [sn_nar1, nI_clamp (by omega)]
  unfold wpY_commit
  refine sn_skip (fun n x => wY_commit_2 post U H W n x) s 1 (fun n j hj hv => ?_) ?_
  · have e : ¬ U (nI j).toNatClampNeg = 0 := by rw [nI_clamp (by omega)]; exact hl j hj
    exact br_f (nI_ge (b := 7) (by omega) (by decide)) ⟨vp_in_nI (by omega) (by decide), br_f e (nm_r (nI_1 j) hv)⟩
  · refine br_f (nI_ge (b := 7) hs (by decide)) ⟨vp_in_nI (by omega) (by decide), br_t e0 ⟨vp_in_nI (by omega) (by decide), nm_r e1 ?_⟩⟩
    exact sn_cpY (r1 := 7) (by decide) (by omega) (by omega) hB (fun H' W' p1 p2 => hp H' W' p1 p2)
/-! restore, drop -/
theorem sn_rsX0 {post : Int32 → SX → Prop} {x : Int32} (hx : sn_no t x) (hp : post (-1) (h, w, z, t)) : wpX_restore post (h, w, z, t) x := by
  unfold wpX_restore
  exact sn_tk0 hx (br_t rfl hp)
theorem sn_rsX1 {post : Int32 → SX → Prop} {s : Nat} (hs : s < 7) (e : ¬ t s = 0) (hB : sn_B h) (hp : ∀ h' w' : Nat → Int32, sn_P h h' (sn_r s) (sn_r 7) 256 → sn_P w w' (sn_r s) (sn_r 7) 256 → post (upd z (sn_r 7) (z (sn_r s)) 0) (h', w', upd z (sn_r 7) (z (sn_r s)), t)) : wpX_restore post (h, w, z, t) (nI s) := by
  have hr : sn_r s ≠ sn_r 7 := by rw [sn_rs hs, sn_r7]; omega
  unfold wpX_restore
  refine sn_tk1 hs e (br_f sn_one (sn_rowS hs ?_))
  exact sn_cpX (r2 := sn_r 7) (sn_r8 (by omega)) (by decide) hr hB (fun h' w' p1 p2 => hp h' w' p1 p2)
theorem sn_rsY0 {post : Int32 → SY → Prop} {x : Int32} (hx : sn_no U x) (hp : post (-1) (U, H, W)) : wpY_restore post (U, H, W) x := by
  unfold wpY_restore
  exact sn_fr1 hx (br_f sn_one hp)
theorem sn_rsY1 {post : Int32 → SY → Prop} {s : Nat} (hs : s < 7) (e : ¬ U s = 0) (hB : sn_B H) (hp : ∀ H' W' : Nat → Int32, sn_P H H' s 7 256 → sn_P W W' s 7 256 → post (nI (sn_c H' (256 * 7) 256)) (U, H', W')) : wpY_restore post (U, H, W) (nI s) := by
  unfold wpY_restore
  refine sn_fr0 hs e (br_t rfl ?_)
  exact sn_cpY (r2 := 7) (by omega) (by decide) (by omega) hB (fun H' W' p1 p2 => sn_cnt (m := 7) (by decide) (hp H' W' p1 p2))
theorem sn_dpX0 {post : Int32 → SX → Prop} {x : Int32} (hx : sn_no t x) (hp : post (-1) (h, w, z, t)) : wpX_drop post (h, w, z, t) x := by
  unfold wpX_drop
  exact sn_tk0 hx (br_t rfl hp)
theorem sn_dpX1 {post : Int32 → SX → Prop} {s : Nat} (hs : s < 7) (e : ¬ t s = 0) (hp : post 0 (h, w, z, upd t s 0)) : wpX_drop post (h, w, z, t) (nI s) := by
  have e1 : upd t (nI s).toNatClampNeg (vp_nar .boolean 0) = upd t s 0 := by rw [sn_nar0, nI_clamp (by omega)]
  unfold wpX_drop
  exact sn_tk1 hs e (br_f sn_one ⟨vp_in_nI hs (by decide), nm_r e1 hp⟩)
theorem sn_dpY0 {post : Int32 → SY → Prop} {x : Int32} (hx : sn_no U x) (hp : post (-1) (U, H, W)) : wpY_drop post (U, H, W) x := by
  unfold wpY_drop
  exact sn_fr1 hx (br_f sn_one hp)
theorem sn_dpY1 {post : Int32 → SY → Prop} {s : Nat} (hs : s < 7) (e : ¬ U s = 0) (hp : post 0 (upd U s 0, H, W)) : wpY_drop post (U, H, W) (nI s) := by
  have e1 : upd U (nI s).toNatClampNeg (vp_nar .boolean 0) = upd U s 0 := by rw [sn_nar0, nI_clamp (by omega)]
  unfold wpY_drop
  exact sn_fr0 hs e (br_t rfl ⟨vp_in_nI (by omega) (by decide), nm_r e1 hp⟩)
end
