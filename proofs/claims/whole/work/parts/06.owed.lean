theorem pk_least (P : Nat → Prop) (h : ∃ k, P k) : ∃ k, P k ∧ ∀ j, j < k → ¬ P j := by
  obtain ⟨k, hk⟩ := h
  induction k using Nat.strongRecOn with
  | ind k ih =>
    by_cases e : ∃ j, j < k ∧ P j
    · obtain ⟨j, hj, pj⟩ := e
      exact ih j hj pj
    · exact ⟨k, hk, fun j hj pj => e ⟨j, hj, pj⟩⟩
def i_Rel (k : Nat) (u : SX) (v : SY) : Prop := sn_R u.1 u.2.1 u.2.2.1 u.2.2.2 v.1 v.2.1 v.2.2
theorem i_up {k : Nat} {u : SX} {v : SY} (h : i_Rel k u v) : i_Rel (k + 4) u v := h
theorem i_vc0 : wpX_init (fun u => wpY_init (fun v => i_Rel 0 u v)) := by
  unfold wpX_init wpY_init
  exact nm_r (e' := upd (fun _ => 0) 7 1) (congrArg (fun x => upd (fun _ => 0) 7 x) sn_nar1) sn_R0
theorem i_vc_put {k : Nat} {u : SX} {v : SY} (I : i_Rel k u v) (hk : k + 4 ≤ 2048) (v1 : Int32) (v2 : Int32) : wpX_put (fun r u' => wpY_put (fun r' v' => r' = r ∧ i_Rel (k + 4) u' v') v v1 v2) u v1 v2 := by
  obtain ⟨h, w, z, t⟩ := u
  obtain ⟨U, H, W⟩ := v
  have R : sn_R h w z t U H W := I
  obtain ⟨h1, h2, h3, h4, h5, h6, h7, h8⟩ := id R
  obtain ⟨hz, h16⟩ := h3 7 (by decide)
  have hz0 : z 0 = nI (sn_c H (256 * 7) 256) := hz
  rcases sn_key v1 with hx | ⟨j, hj, rfl⟩
  · exact sn_putX1 hx (sn_putY1 hx ⟨rfl, R⟩)
  · have hh : h (256 * 0 + j) = H (256 * 7 + j) := h1 7 j (by decide) hj
    by_cases e : H (256 * 7 + j) = 0
    · by_cases e16 : sn_c H (256 * 7) 256 < 16
      · have eX : z 0 < 16 := by
          rw [hz0]
          exact nI_lt (b := 16) e16 (by decide)
        have ez : z 0 + 1 = nI (sn_c H (256 * 7) 256 + 1) := by rw [hz0, nI_1]
        have er : nI (sn_c (upd H (256 * 7 + j) 1) (256 * 7) 256) = upd z 0 (z 0 + 1) 0 := by
          rw [pk_us, ez, sn_c_set e sn_one 256 hj]
        have R' : sn_R (upd h (256 * 0 + j) 1) (upd w (256 * 0 + j) v2) (upd z 0 (z 0 + 1)) t U (upd H (256 * 7 + j) 1) (upd W (256 * 7 + j) v2) := by
          rw [ez]
          exact sn_Rv (sn_Ra R hj e e16) hj v2
        exact sn_putX3 hj (hh.trans e) eX (sn_putY3 hj e e16 ⟨er, R'⟩)
      · have eX : ¬ z 0 < 16 := by
          rw [hz0]
          exact nI_nlt (b := 16) (by omega) (by omega)
        exact sn_putX4 hj (hh.trans e) eX (sn_putY4 hj e (by omega) ⟨rfl, R⟩)
    · have e1 : H (256 * 7 + j) = 1 := (h6 _).resolve_left e
      have eu : upd H (256 * 7 + j) 1 = H := sn_id e1
      refine sn_putX2 hj (fun c => e (hh.symm.trans c)) (sn_putY2 hj e ?_)
      rw [eu]
      exact ⟨hz0.symm, sn_Rv R hj v2⟩
theorem i_vc_remove {k : Nat} {u : SX} {v : SY} (I : i_Rel k u v) (hk : k + 4 ≤ 2048) (v1 : Int32) : wpX_remove (fun r u' => wpY_remove (fun r' v' => r' = r ∧ i_Rel (k + 4) u' v') v v1) u v1 := by
  obtain ⟨h, w, z, t⟩ := u
  obtain ⟨U, H, W⟩ := v
  have R : sn_R h w z t U H W := I
  obtain ⟨h1, h2, h3, h4, h5, h6, h7, h8⟩ := id R
  obtain ⟨hz, h16⟩ := h3 7 (by decide)
  have hz0 : z 0 = nI (sn_c H (256 * 7) 256) := hz
  rcases sn_key v1 with hx | ⟨j, hj, rfl⟩
  · exact sn_rmX1 hx (sn_rmY1 hx ⟨rfl, R⟩)
  · have hh : h (256 * 0 + j) = H (256 * 7 + j) := h1 7 j (by decide) hj
    refine sn_rmX2 hj (fun e => ?_) (fun e => ?_)
    · exact sn_rmY2 hj (fun _ => ⟨rfl, R⟩) (fun n => absurd (hh.symm.trans e) n)
    · have e' : ¬ H (256 * 7 + j) = 0 := fun c => e (hh.trans c)
      refine sn_rmY2 hj (fun n => absurd n e') (fun _ => ?_)
      have ec := sn_c_clr e' 256 hj
      have ez : z 0 - 1 = nI (sn_c (upd H (256 * 7 + j) 0) (256 * 7) 256) := by rw [hz0, ← ec, nI_pred]
      rw [ez, pk_us]
      exact ⟨rfl, sn_Rr R hj e' ec.symm⟩
theorem i_vc_commit {k : Nat} {u : SX} {v : SY} (I : i_Rel k u v) (hk : k + 4 ≤ 2048) : wpX_commit (fun r u' => wpY_commit (fun r' v' => r' = r ∧ i_Rel (k + 4) u' v') v) u := by
  obtain ⟨h, w, z, t⟩ := u
  obtain ⟨U, H, W⟩ := v
  have R : sn_R h w z t U H W := I
  obtain ⟨h1, h2, h3, h4, h5, h6, h7, h8⟩ := id R
  by_cases hx : ∃ s, s < 7 ∧ t s = 0
  · obtain ⟨s, ⟨hs, e⟩, hl⟩ := pk_least (fun s => s < 7 ∧ t s = 0) hx
    have hlt : ∀ i, i < s → ¬ t i = 0 := fun i hi c => hl i hi ⟨by omega, c⟩
    refine sn_cmX1 hs e hlt h5 (fun h' w' p1 p2 => ?_)
    refine sn_cmY1 hs ((h4 s hs).symm.trans e) (fun i hi c => hlt i hi ((h4 i (by omega)).trans c)) h6 (fun H' W' p3 p4 => ?_)
    exact ⟨rfl, sn_Rt (sn_Rc R (m1 := 7) (m2 := s) (by decide) p1 p2 p3 p4) s (Or.inr rfl)⟩
  · have hlt : ∀ i, i < 7 → ¬ t i = 0 := fun i hi c => hx ⟨i, hi, c⟩
    exact sn_cmX0 hlt (sn_cmY0 (fun i hi c => hlt i hi ((h4 i hi).trans c)) ⟨rfl, R⟩)
theorem i_vc_restore {k : Nat} {u : SX} {v : SY} (I : i_Rel k u v) (hk : k + 4 ≤ 2048) (v1 : Int32) : wpX_restore (fun r u' => wpY_restore (fun r' v' => r' = r ∧ i_Rel (k + 4) u' v') v v1) u v1 := by
  obtain ⟨h, w, z, t⟩ := u
  obtain ⟨U, H, W⟩ := v
  have R : sn_R h w z t U H W := I
  obtain ⟨h1, h2, h3, h4, h5, h6, h7, h8⟩ := id R
  rcases sn_slot t v1 with hx | ⟨s, hs, rfl, e⟩
  · exact sn_rsX0 hx (sn_rsY0 (sn_noU h4 hx) ⟨rfl, R⟩)
  · refine sn_rsX1 hs e h5 (fun h' w' p1 p2 => ?_)
    refine sn_rsY1 hs (fun c => e ((h4 s hs).trans c)) h6 (fun H' W' p3 p4 => ?_)
    have R' := sn_Rc R (m1 := s) (m2 := 7) (by omega) p1 p2 p3 p4
    exact ⟨((R'.2.2.1 7 (by decide)).1).symm, R'⟩
theorem i_vc_drop {k : Nat} {u : SX} {v : SY} (I : i_Rel k u v) (hk : k + 4 ≤ 2048) (v1 : Int32) : wpX_drop (fun r u' => wpY_drop (fun r' v' => r' = r ∧ i_Rel (k + 4) u' v') v v1) u v1 := by
  obtain ⟨h, w, z, t⟩ := u
  obtain ⟨U, H, W⟩ := v
  have R : sn_R h w z t U H W := I
  obtain ⟨h1, h2, h3, h4, h5, h6, h7, h8⟩ := id R
  rcases sn_slot t v1 with hx | ⟨s, hs, rfl, e⟩
  · exact sn_dpX0 hx (sn_dpY0 (sn_noU h4 hx) ⟨rfl, R⟩)
  · exact sn_dpX1 hs e (sn_dpY1 hs (fun c => e ((h4 s hs).trans c)) ⟨rfl, sn_Rt R s (Or.inl rfl)⟩)
theorem i_vc_get {k : Nat} {u : SX} {v : SY} (I : i_Rel k u v) (hk : k + 4 ≤ 2048) (v1 : Int32) (v2 : Int32) : wpX_get (fun r => wpY_get (fun r' => r' = r ∧ i_Rel (k + 4) u v) v v1 v2) u v1 v2 := by
  obtain ⟨h, w, z, t⟩ := u
  obtain ⟨U, H, W⟩ := v
  have R : sn_R h w z t U H W := I
  obtain ⟨h1, h2, h3, h4, h5, h6, h7, h8⟩ := id R
  rcases sn_map (h := h) (w := w) (z := z) (H := H) (W := W) h4 v1 with ⟨hX, hY⟩ | ⟨m, hm, hX, hr, hY⟩
  · unfold wpX_get
    refine hX _ (br_t rfl ?_)
    unfold wpY_get
    exact hY _ (br_t (by decide) ⟨rfl, R⟩)
  · have rm := sn_r8 hm
    have hm0 : ¬ nI m < 0 := nI_pos (by omega)
    unfold wpX_get
    refine hX _ (br_f sn_one (hr _ ?_))
    rcases sn_key v2 with hx | ⟨j, hj, rfl⟩
    · refine sn_rh0 hx (br_t rfl ?_)
      unfold wpY_get
      exact hY _ (br_f hm0 (sn_bad1 hx (br_f sn_one ⟨rfl, R⟩)))
    · have hh : h (256 * sn_r m + j) = H (256 * m + j) := h1 m j hm hj
      have hw : w (256 * sn_r m + j) = W (256 * m + j) := h2 m j hm hj
      refine sn_rh rm hj (fun e => br_t rfl ?_) (fun e => br_f sn_one (sn_cell _ j ⟨sn_xi rm hj, ?_⟩))
      · unfold wpY_get
        refine hY _ (br_f hm0 (sn_bad0 hj (br_t rfl ⟨sn_yi hm hj, ?_⟩)))
        rw [sn_yc hm hj]
        exact br_t (hh.symm.trans e) ⟨rfl, R⟩
      · unfold wpY_get
        refine hY _ (br_f hm0 (sn_bad0 hj (br_t rfl ⟨sn_yi hm hj, ?_⟩)))
        rw [sn_yc hm hj, sn_xc rm hj]
        exact br_f (fun c => e (hh.trans c)) ⟨sn_yi hm hj, hw.symm, R⟩
theorem i_vc_has {k : Nat} {u : SX} {v : SY} (I : i_Rel k u v) (hk : k + 4 ≤ 2048) (v1 : Int32) (v2 : Int32) : wpX_has (fun r => wpY_has (fun r' => r' = r ∧ i_Rel (k + 4) u v) v v1 v2) u v1 v2 := by
  obtain ⟨h, w, z, t⟩ := u
  obtain ⟨U, H, W⟩ := v
  have R : sn_R h w z t U H W := I
  obtain ⟨h1, h2, h3, h4, h5, h6, h7, h8⟩ := id R
  rcases sn_map (h := h) (w := w) (z := z) (H := H) (W := W) h4 v1 with ⟨hX, hY⟩ | ⟨m, hm, hX, hr, hY⟩
  · unfold wpX_has
    refine hX _ (br_t rfl ?_)
    unfold wpY_has
    exact hY _ (br_f (by decide) ⟨rfl, R⟩)
  · have rm := sn_r8 hm
    have hm0 : 0 ≤ nI m := nI_pos' (by omega)
    unfold wpX_has
    refine hX _ (br_f sn_one (hr _ ?_))
    rcases sn_key v2 with hx | ⟨j, hj, rfl⟩
    · refine sn_rh0 hx (br_t rfl ?_)
      unfold wpY_has
      exact hY _ (br_t hm0 (sn_bad1 hx (br_f sn_one ⟨rfl, R⟩)))
    · have hh : h (256 * sn_r m + j) = H (256 * m + j) := h1 m j hm hj
      refine sn_rh rm hj (fun e => br_t rfl ?_) (fun e => br_f sn_one ?_)
      · unfold wpY_has
        refine hY _ (br_t hm0 (sn_bad0 hj (br_t rfl ⟨sn_yi hm hj, ?_⟩)))
        rw [sn_yc hm hj]
        exact br_t (hh.symm.trans e) ⟨rfl, R⟩
      · unfold wpY_has
        refine hY _ (br_t hm0 (sn_bad0 hj (br_t rfl ⟨sn_yi hm hj, ?_⟩)))
        rw [sn_yc hm hj]
        exact br_f (fun c => e (hh.trans c)) ⟨rfl, R⟩
theorem i_vc_size {k : Nat} {u : SX} {v : SY} (I : i_Rel k u v) (hk : k + 4 ≤ 2048) (v1 : Int32) : wpX_size (fun r => wpY_size (fun r' => r' = r ∧ i_Rel (k + 4) u v) v v1) u v1 := by
  obtain ⟨h, w, z, t⟩ := u
  obtain ⟨U, H, W⟩ := v
  have R : sn_R h w z t U H W := I
  obtain ⟨h1, h2, h3, h4, h5, h6, h7, h8⟩ := id R
  rcases sn_map (h := h) (w := w) (z := z) (H := H) (W := W) h4 v1 with ⟨hX, hY⟩ | ⟨m, hm, hX, hr, hY⟩
  · unfold wpX_size
    refine hX _ (br_t rfl ?_)
    unfold wpY_size
    exact hY _ (br_f (by decide) ⟨rfl, R⟩)
  · have rm := sn_r8 hm
    have hm0 : 0 ≤ nI m := nI_pos' (by omega)
    have ez : nI (sn_c H (256 * m) 256) = z (nI (sn_r m)).toNatClampNeg := by
      rw [nI_clamp (by omega)]
      exact ((h3 m hm).1).symm
    unfold wpX_size
    refine hX _ (br_f sn_one (hr _ ⟨vp_in_nI rm (by decide), ?_⟩))
    unfold wpY_size
    exact hY _ (br_t hm0 (sn_cnt hm ⟨ez, R⟩))
theorem i_vc_next {k : Nat} {u : SX} {v : SY} (I : i_Rel k u v) (hk : k + 4 ≤ 2048) (v1 : Int32) (v2 : Int32) : wpX_next (fun r => wpY_next (fun r' => r' = r ∧ i_Rel (k + 4) u v) v v1 v2) u v1 v2 := by
  obtain ⟨h, w, z, t⟩ := u
  obtain ⟨U, H, W⟩ := v
  have R : sn_R h w z t U H W := I
  obtain ⟨h1, h2, h3, h4, h5, h6, h7, h8⟩ := id R
  rcases sn_map (h := h) (w := w) (z := z) (H := H) (W := W) h4 v1 with ⟨hX, hY⟩ | ⟨m, hm, hX, hr, hY⟩
  · unfold wpX_next
    refine hX _ (br_t rfl ?_)
    unfold wpY_next
    exact hY _ (br_f (by decide) ⟨rfl, R⟩)
  · have hm0 : 0 ≤ nI m := nI_pos' (by omega)
    obtain ⟨r, sX, sY⟩ := sn_nx (w := w) (z := z) (t := t) (U := U) (W := W) h1 hm v2
    unfold wpX_next
    refine hX _ (br_f sn_one (hr _ (sX _ ?_)))
    unfold wpY_next
    exact hY _ (br_t hm0 (sY _ ⟨rfl, R⟩))
theorem i_vc_nextChange {k : Nat} {u : SX} {v : SY} (I : i_Rel k u v) (hk : k + 4 ≤ 2048) (v1 : Int32) (v2 : Int32) (v3 : Int32) : wpX_nextChange (fun r => wpY_nextChange (fun r' => r' = r ∧ i_Rel (k + 4) u v) v v1 v2 v3) u v1 v2 v3 := by
  obtain ⟨h, w, z, t⟩ := u
  obtain ⟨U, H, W⟩ := v
  have R : sn_R h w z t U H W := I
  obtain ⟨h1, h2, h3, h4, h5, h6, h7, h8⟩ := id R
  rcases sn_map (h := h) (w := w) (z := z) (H := H) (W := W) h4 v1 with ⟨hX, hY⟩ | ⟨m, hm, hX, hr, hY⟩
  · unfold wpX_nextChange
    refine hX _ (br_t rfl ?_)
    unfold wpY_nextChange
    refine hY _ ?_
    rcases sn_map (h := h) (w := w) (z := z) (H := H) (W := W) h4 v2 with ⟨_, hY2⟩ | ⟨m2, _, _, _, hY2⟩
    · exact hY2 _ (br_t (by decide) ⟨rfl, R⟩)
    · exact hY2 _ (br_t (by decide) ⟨rfl, R⟩)
  · have hm0 : ¬ nI m < 0 := nI_pos (by omega)
    rcases sn_map (h := h) (w := w) (z := z) (H := H) (W := W) h4 v2 with ⟨hX2, hY2⟩ | ⟨m2, hm2, hX2, hr2, hY2⟩
    · unfold wpX_nextChange
      refine hX _ (br_f sn_one (hX2 _ (br_t rfl ?_)))
      unfold wpY_nextChange
      exact hY _ (hY2 _ (br_f hm0 (br_f (by decide) ⟨rfl, R⟩)))
    · have hm20 : 0 ≤ nI m2 := nI_pos' (by omega)
      obtain ⟨r, sX, sY⟩ := sn_nc (z := z) (t := t) (U := U) h1 h2 hm hm2 v3
      unfold wpX_nextChange
      refine hX _ (br_f sn_one (hX2 _ (br_f sn_one (hr _ (hr2 _ (sX _ ?_))))))
      unfold wpY_nextChange
      exact hY _ (hY2 _ (br_f hm0 (br_t hm20 (sY _ ⟨rfl, R⟩))))
theorem i_vc_changes {k : Nat} {u : SX} {v : SY} (I : i_Rel k u v) (hk : k + 4 ≤ 2048) (v1 : Int32) (v2 : Int32) : wpX_changes (fun r => wpY_changes (fun r' => r' = r ∧ i_Rel (k + 4) u v) v v1 v2) u v1 v2 := by
  obtain ⟨h, w, z, t⟩ := u
  obtain ⟨U, H, W⟩ := v
  have R : sn_R h w z t U H W := I
  obtain ⟨h1, h2, h3, h4, h5, h6, h7, h8⟩ := id R
  rcases sn_map (h := h) (w := w) (z := z) (H := H) (W := W) h4 v1 with ⟨hX, hY⟩ | ⟨m, hm, hX, hr, hY⟩
  · unfold wpX_changes
    refine hX _ (br_t rfl ?_)
    unfold wpY_changes
    refine hY _ ?_
    rcases sn_map (h := h) (w := w) (z := z) (H := H) (W := W) h4 v2 with ⟨_, hY2⟩ | ⟨m2, _, _, _, hY2⟩
    · exact hY2 _ (br_t (by decide) ⟨rfl, R⟩)
    · exact hY2 _ (br_t (by decide) ⟨rfl, R⟩)
  · have hm0 : ¬ nI m < 0 := nI_pos (by omega)
    rcases sn_map (h := h) (w := w) (z := z) (H := H) (W := W) h4 v2 with ⟨hX2, hY2⟩ | ⟨m2, hm2, hX2, hr2, hY2⟩
    · unfold wpX_changes
      refine hX _ (br_f sn_one (hX2 _ (br_t rfl ?_)))
      unfold wpY_changes
      exact hY _ (hY2 _ (br_f hm0 (br_f (by decide) ⟨rfl, R⟩)))
    · have hm20 : 0 ≤ nI m2 := nI_pos' (by omega)
      obtain ⟨r, sX, sY⟩ := sn_ch (z := z) (t := t) (U := U) h1 h2 hm hm2 256 0 0 rfl
      unfold wpX_changes
      refine hX _ (br_f sn_one (hX2 _ (br_f sn_one (hr _ (hr2 _ ⟨257, sX _ ?_⟩)))))
      unfold wpY_changes
      exact hY _ (hY2 _ (br_f hm0 (br_t hm20 ⟨257, sY _ ⟨rfl, R⟩⟩)))
