section
variable {h w z t U H W : Nat → Int32}
/-- the component copies a row -/
theorem sn_cpX {post : SX → Prop} {r1 r2 : Nat} (h1 : r1 < 8) (h2 : r2 < 8) (hr : r1 ≠ r2) (hB : sn_B h) (hp : ∀ h' w' : Nat → Int32, sn_P h h' r1 r2 256 → sn_P w w' r1 r2 256 → post (h', w', upd z r2 (z r1), t)) : wpX_copyRow post (h, w, z, t) (nI r1) (nI r2) := by
  have key : ∀ (d j : Nat) (h' w' : Nat → Int32), j + d = 256 → sn_P h h' r1 r2 j → sn_P w w' r1 r2 j → wX_copyRow_2 post (nI r1) (nI r2) (d + 1) (nI j) h' w' z t := by
    intro d
    induction d with
    | zero =>
      intro j h' w' hj p1 p2
      obtain rfl : j = 256 := by omega
      have e : upd z (nI r2).toNatClampNeg (z (nI r1).toNatClampNeg) = upd z r2 (z r1) := by rw [nI_clamp (by omega), nI_clamp (by omega)]
      exact br_t sn_end ⟨vp_in_nI h1 (by decide), vp_in_nI h2 (by decide), nm_r e (hp h' w' p1 p2)⟩
    | succ d ih =>
      intro j h' w' hj p1 p2
      have hj' : j < 256 := by omega
      have e1 : upd h' (nI (256 * r2 + j)).toNatClampNeg (vp_nar .boolean (h' (nI (256 * r1 + j)).toNatClampNeg)) = upd h' (256 * r2 + j) (h' (256 * r1 + j)) := by
        rw [sn_xc h2 hj', sn_xc h1 hj', sn_nar (sn_PB p1 hB)]
      have e2 : upd w' (nI (256 * r2 + j)).toNatClampNeg (w' (nI (256 * r1 + j)).toNatClampNeg) = upd w' (256 * r2 + j) (w' (256 * r1 + j)) := by
        rw [sn_xc h2 hj', sn_xc h1 hj']
      exact br_f (sn_full hj') (sn_cell r1 j (sn_cell r2 j ⟨sn_xi h1 hj', sn_xi h2 hj', nm_r e1 ⟨sn_xi h1 hj', sn_xi h2 hj', nm_r e2 (nm_r (nI_1 j) (ih (j + 1) _ _ (by omega) (sn_Ps hr hj' p1 rfl) (sn_Ps hr hj' p2 rfl)))⟩⟩))
  exact Exists.intro 257 (key 256 0 h w rfl (sn_P0 _ _ _) (sn_P0 _ _ _))
/-- the reference copies a row -/
theorem sn_cpY {post : SY → Prop} {r1 r2 : Nat} (h1 : r1 < 8) (h2 : r2 < 8) (hr : r1 ≠ r2) (hB : sn_B H) (hp : ∀ H' W' : Nat → Int32, sn_P H H' r1 r2 256 → sn_P W W' r1 r2 256 → post (U, H', W')) : wpY_copy post (U, H, W) (nI r1) (nI r2) := by
  have key : ∀ (d j : Nat) (H' W' : Nat → Int32), j + d = 256 → sn_P H H' r1 r2 j → sn_P W W' r1 r2 j → wY_copy_2 post (nI r1) (nI r2) (d + 1) (nI j) U H' W' := by
    intro d
    induction d with
    | zero =>
      intro j H' W' hj p1 p2
      obtain rfl : j = 256 := by omega
      exact br_t sn_end (hp H' W' p1 p2)
    | succ d ih =>
      intro j H' W' hj p1 p2
      have hj' : j < 256 := by omega
      have e1 : upd H' (256 * nI r2 + nI j).toNatClampNeg (vp_nar .boolean (H' (256 * nI r1 + nI j).toNatClampNeg)) = upd H' (256 * r2 + j) (H' (256 * r1 + j)) := by
        rw [sn_yc h2 hj', sn_yc h1 hj', sn_nar (sn_PB p1 hB)]
      have e2 : upd W' (256 * nI r2 + nI j).toNatClampNeg (W' (256 * nI r1 + nI j).toNatClampNeg) = upd W' (256 * r2 + j) (W' (256 * r1 + j)) := by
        rw [sn_yc h2 hj', sn_yc h1 hj']
      exact br_f (sn_full hj') ⟨sn_yi h1 hj', sn_yi h2 hj', nm_r e1 ⟨sn_yi h1 hj', sn_yi h2 hj', nm_r e2 (nm_r (nI_1 j) (ih (j + 1) _ _ (by omega) (sn_Ps hr hj' p1 rfl) (sn_Ps hr hj' p2 rfl)))⟩⟩
  exact Exists.intro 257 (key 256 0 H W rfl (sn_P0 _ _ _) (sn_P0 _ _ _))
end
/-- a loop's rounds below s are passed over -/
theorem sn_skip (V : Nat → Int32 → Prop) (s n : Nat) (hs : ∀ n j, j < s → V n (nI (j + 1)) → V (n + 1) (nI j)) (hl : V n (nI s)) : ∃ n, V n 0 := by
  have key : ∀ e j : Nat, j + e = s → V (n + e) (nI j) := by
    intro e
    induction e with
    | zero =>
      intro j hj
      obtain rfl : j = s := by omega
      exact hl
    | succ e ih =>
      intro j hj
      exact hs (n + e) j (by omega) (ih (j + 1) (by omega))
  exact ⟨n + s, key s 0 (by omega)⟩
/-- two scans for the first key at or above x with D -/
theorem sn_scan (VX VY : (Int32 → Prop) → Nat → Int32 → Prop) (x : Int32) (D : Nat → Prop)
    (x0 : ∀ (post : Int32 → Prop) (n : Nat) (y : Int32), nI 256 ≤ y → post 256 → VX post (n + 1) y)
    (x1 : ∀ (post : Int32 → Prop) (n j : Nat), j < 256 → ¬ D j → VX post n (nI (j + 1)) → VX post (n + 1) (nI j))
    (x2 : ∀ (post : Int32 → Prop) (n j : Nat), j < 256 → D j → post (nI j) → VX post (n + 1) (nI j))
    (y0 : ∀ (post : Int32 → Prop) (n : Nat), post 256 → VY post (n + 1) (nI 256))
    (ys : ∀ (post : Int32 → Prop) (n j : Nat), j < 256 → nI j < x → VY post n (nI (j + 1)) → VY post (n + 1) (nI j))
    (y1 : ∀ (post : Int32 → Prop) (n j : Nat), j < 256 → ¬ nI j < x → ¬ D j → VY post n (nI (j + 1)) → VY post (n + 1) (nI j))
    (y2 : ∀ (post : Int32 → Prop) (n j : Nat), j < 256 → ¬ nI j < x → D j → post (nI j) → VY post (n + 1) (nI j)) :
    ∃ r : Int32, (∀ post : Int32 → Prop, post r → wpX_firstKeyFrom (fun s => ∃ n, VX post n s) x) ∧ (∀ post : Int32 → Prop, post r → ∃ n, VY post n 0) := by
  have key : ∀ d j : Nat, j + d = 256 → (∀ i, j ≤ i → i < 256 → ¬ nI i < x) → ∃ r : Int32, (∀ post : Int32 → Prop, post r → VX post (d + 1) (nI j)) ∧ (∀ post : Int32 → Prop, post r → VY post (d + 1) (nI j)) := by
    intro d
    induction d with
    | zero =>
      intro j hj _
      obtain rfl : j = 256 := by omega
      exact ⟨256, fun post hp => x0 post 0 _ sn_end hp, fun post hp => y0 post 0 hp⟩
    | succ d ih =>
      intro j hj hl
      have hj' : j < 256 := by omega
      by_cases hD : D j
      · exact ⟨nI j, fun post hp => x2 post _ j hj' hD hp, fun post hp => y2 post _ j hj' (hl j (Nat.le_refl j) hj') hD hp⟩
      · obtain ⟨r, hX, hY⟩ := ih (j + 1) (by omega) (fun i hi => hl i (by omega))
        exact ⟨r, fun post hp => x1 post _ j hj' hD (hX post hp), fun post hp => y1 post _ j hj' (hl j (Nat.le_refl j) hj') hD (hY post hp)⟩
  rcases sn_key x with (hx | hx) | ⟨f, hf, rfl⟩
  · obtain ⟨r, hX, hY⟩ := key 256 0 rfl (fun i _ hi z => nI_pos (n := i) (by omega) (Int32.lt_trans z hx))
    have hn : ¬ 0 ≤ x := fun z => Int32.lt_irrefl (Int32.lt_of_lt_of_le hx z)
    exact ⟨r, fun post hp => br_f hn ⟨257, hX post hp⟩, fun post hp => ⟨257, hY post hp⟩⟩
  · have h0 : 0 ≤ x := Int32.le_trans (nI_pos' (n := 256) (by decide)) hx
    exact ⟨256, fun post hp => br_t h0 ⟨1, x0 post 0 x hx hp⟩, fun post hp => sn_skip (VY post) 256 1 (fun n j hj hv => ys post n j hj (Int32.lt_of_lt_of_le (nI_lt hj (by decide)) hx) hv) (y0 post 0 hp)⟩
  · obtain ⟨r, hX, hY⟩ := key (256 - f) f (by omega) (fun i hi hi' => nI_nlt hi (by omega))
    exact ⟨r, fun post hp => br_t (nI_pos' (by omega)) ⟨_, hX post hp⟩, fun post hp => sn_skip (VY post) f _ (fun n j hj hv => ys post n j (by omega) (nI_lt hj (by omega)) hv) (hY post hp)⟩
/-- the two maps differ at key k -/
def sn_D (H W : Nat → Int32) (a b k : Nat) : Prop := ¬ H (256 * a + k) = H (256 * b + k) ∨ (¬ H (256 * a + k) = 0 ∧ ¬ W (256 * a + k) = W (256 * b + k))
section
variable {h w z t U H W : Nat → Int32}
theorem sn_dfX (h1 : sn_E h H) (h2 : sn_E w W) {post : Int32 → Prop} {a b k : Nat} (ha : a < 8) (hb : b < 8) (hk : k < 256) (p0 : ¬ sn_D H W a b k → post 0) (p1 : sn_D H W a b k → post 1) : wpX_rowsDiffer post (h, w, z, t) (nI (sn_r a)) (nI (sn_r b)) (nI k) := by
  have ra := sn_r8 ha
  have rb := sn_r8 hb
  unfold wpX_rowsDiffer
  refine sn_cell _ k (sn_cell _ k ⟨sn_xi ra hk, sn_xi rb hk, ?_⟩)
  rw [sn_xc ra hk, sn_xc rb hk, h1 a k ha hk, h1 b k hb hk, h2 a k ha hk, h2 b k hb hk]
  exact br_c (fun e => ⟨sn_xi ra hk, br_c (fun e0 => p0 (fun d => d.elim (fun n => n e) (fun n => n.1 e0))) (fun e0 => ⟨sn_xi ra hk, sn_xi rb hk, br_c (fun ew => p0 (fun d => d.elim (fun n => n e) (fun n => n.2 ew))) (fun ew => p1 (Or.inr ⟨e0, ew⟩))⟩)⟩) (fun e => p1 (Or.inl e))
theorem sn_dfY {post : Int32 → Prop} {a b k : Nat} (ha : a < 8) (hb : b < 8) (hk : k < 256) (p0 : ¬ sn_D H W a b k → post 0) (p1 : sn_D H W a b k → post 1) : wpY_differ post (U, H, W) (nI a) (nI b) (nI k) := by
  unfold wpY_differ
  refine ⟨sn_yi ha hk, sn_yi hb hk, ?_⟩
  rw [sn_yc ha hk, sn_yc hb hk]
  exact br_c (fun e => ⟨sn_yi ha hk, br_c (fun e0 => p0 (fun d => d.elim (fun n => n e) (fun n => n.1 e0))) (fun e0 => ⟨sn_yi ha hk, sn_yi hb hk, br_c (fun ew => p0 (fun d => d.elim (fun n => n e) (fun n => n.2 ew))) (fun ew => p1 (Or.inr ⟨e0, ew⟩))⟩)⟩) (fun e => p1 (Or.inl e))
theorem sn_nx (h1 : sn_E h H) {m : Nat} (hm : m < 8) (x : Int32) : ∃ r : Int32, (∀ post : Int32 → Prop, post r → wpX_firstKeyFrom (fun s => ∃ n, wX_next_21 post (nI (sn_r m)) h w z t n s) x) ∧ (∀ post : Int32 → Prop, post r → ∃ n, wY_next_15 post x (nI m) U H W n 0) := by
  have rm := sn_r8 hm
  refine sn_scan (fun post n s => wX_next_21 post (nI (sn_r m)) h w z t n s) (fun post n s => wY_next_15 post x (nI m) U H W n s) x (fun j => ¬ H (256 * m + j) = 0) ?_ ?_ ?_ ?_ ?_ ?_ ?_
  · intro post n y hy hp
    exact br_t hy hp
  · intro post n j hj hD hv
    have e : h (nI (256 * sn_r m + j)).toNatClampNeg = 0 := by rw [sn_xc rm hj, h1 m j hm hj]; exact Classical.not_not.mp hD
    exact br_f (sn_full hj) (sn_cell _ j ⟨sn_xi rm hj, br_t e (nm_r (nI_1 j) hv)⟩)
  · intro post n j hj hD hp
    have e : ¬ h (nI (256 * sn_r m + j)).toNatClampNeg = 0 := by rw [sn_xc rm hj, h1 m j hm hj]; exact hD
    exact br_f (sn_full hj) (sn_cell _ j ⟨sn_xi rm hj, br_f e hp⟩)
  · intro post n hp
    exact br_t sn_end hp
  · intro post n j hj hx hv
    exact br_f (sn_full hj) (br_t hx (nm_r (nI_1 j) hv))
  · intro post n j hj hx hD hv
    have e : H (256 * nI m + nI j).toNatClampNeg = 0 := by rw [sn_yc hm hj]; exact Classical.not_not.mp hD
    exact br_f (sn_full hj) (br_f hx ⟨sn_yi hm hj, br_t e (nm_r (nI_1 j) hv)⟩)
  · intro post n j hj hx hD hp
    have e : ¬ H (256 * nI m + nI j).toNatClampNeg = 0 := by rw [sn_yc hm hj]; exact hD
    exact br_f (sn_full hj) (br_f hx ⟨sn_yi hm hj, br_f e hp⟩)
theorem sn_nc (h1 : sn_E h H) (h2 : sn_E w W) {a b : Nat} (ha : a < 8) (hb : b < 8) (x : Int32) : ∃ r : Int32, (∀ post : Int32 → Prop, post r → wpX_firstKeyFrom (fun s => ∃ n, wX_nextChange_36 post (nI (sn_r a)) (nI (sn_r b)) h w z t n s) x) ∧ (∀ post : Int32 → Prop, post r → ∃ n, wY_nextChange_29 post x (nI a) (nI b) U H W n 0) := by
  refine sn_scan (fun post n s => wX_nextChange_36 post (nI (sn_r a)) (nI (sn_r b)) h w z t n s) (fun post n s => wY_nextChange_29 post x (nI a) (nI b) U H W n s) x (fun j => sn_D H W a b j) ?_ ?_ ?_ ?_ ?_ ?_ ?_
  · intro post n y hy hp
    exact br_t hy hp
  · intro post n j hj hD hv
    exact br_f (sn_full hj) (sn_dfX h1 h2 ha hb hj (fun _ => br_t rfl (nm_r (nI_1 j) hv)) (fun d => absurd d hD))
  · intro post n j hj hD hp
    exact br_f (sn_full hj) (sn_dfX h1 h2 ha hb hj (fun d => absurd hD d) (fun _ => br_f sn_one hp))
  · intro post n hp
    exact br_t sn_end hp
  · intro post n j hj hx hv
    exact br_f (sn_full hj) (br_t hx (nm_r (nI_1 j) hv))
  · intro post n j hj hx hD hv
    exact br_f (sn_full hj) (br_f hx (sn_dfY ha hb hj (fun _ => br_t rfl (nm_r (nI_1 j) hv)) (fun d => absurd d hD)))
  · intro post n j hj hx hD hp
    exact br_f (sn_full hj) (br_f hx (sn_dfY ha hb hj (fun d => absurd hD d) (fun _ => br_f sn_one hp)))
theorem sn_ch (h1 : sn_E h H) (h2 : sn_E w W) {a b : Nat} (ha : a < 8) (hb : b < 8) : ∀ (d j : Nat) (c : Int32), j + d = 256 → ∃ r : Int32, (∀ post : Int32 → Prop, post r → wX_changes_35 post (nI (sn_r a)) (nI (sn_r b)) h w z t (d + 1) c (nI j)) ∧ (∀ post : Int32 → Prop, post r → wY_changes_30 post (nI a) (nI b) U H W (d + 1) c (nI j)) := by
  intro d
  induction d with
  | zero =>
    intro j c hj
    obtain rfl : j = 256 := by omega
    exact ⟨c, fun post hp => br_t sn_end hp, fun post hp => br_t sn_end hp⟩
  | succ d ih =>
    intro j c hj
    have hj' : j < 256 := by omega
    by_cases hD : sn_D H W a b j
    · obtain ⟨r, hX, hY⟩ := ih (j + 1) (c + 1) (by omega)
      exact ⟨r, fun post hp => br_f (sn_full hj') (sn_dfX h1 h2 ha hb hj' (fun d => absurd hD d) (fun _ => br_f sn_one (nm_e (nm_r (nI_1 j) (hX post hp))))), fun post hp => br_f (sn_full hj') (sn_dfY ha hb hj' (fun d => absurd hD d) (fun _ => br_f sn_one (nm_e (nm_r (nI_1 j) (hY post hp)))))⟩
    · obtain ⟨r, hX, hY⟩ := ih (j + 1) c (by omega)
      exact ⟨r, fun post hp => br_f (sn_full hj') (sn_dfX h1 h2 ha hb hj' (fun _ => br_t rfl (nm_r (nI_1 j) (hX post hp))) (fun d => absurd d hD)), fun post hp => br_f (sn_full hj') (sn_dfY ha hb hj' (fun _ => br_t rfl (nm_r (nI_1 j) (hY post hp))) (fun d => absurd d hD))⟩
end
