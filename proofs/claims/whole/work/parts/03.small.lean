theorem sn_one : ¬ (1 : Int32) = 0 := by decide
/-- a number is no key, or it is one -/
theorem sn_key (x : Int32) : (x < 0 ∨ nI 256 ≤ x) ∨ ∃ k : Nat, k < 256 ∧ x = nI k := by
  rcases pk_ix x (n := 256) (by decide) with h | h | h
  · exact Or.inl (Or.inl h)
  · exact Or.inl (Or.inr h)
  · exact Or.inr h
theorem sn_isKey0 {post : Int32 → Prop} {x : Int32} (hx : x < 0 ∨ nI 256 ≤ x) (hp : post 0) : wpX_isKey post x := by
  rcases hx with h | h
  · exact br_t h hp
  · exact br_c (fun _ => hp) (fun _ => br_t h hp)
theorem sn_isKey1 {post : Int32 → Prop} {k : Nat} (hk : k < 256) (hp : post 1) : wpX_isKey post (nI k) :=
  br_f (nI_pos (by omega)) (br_f (nI_ge (b := 256) hk (by decide)) hp)
theorem sn_bad1 {post : Int32 → Prop} {x : Int32} (hx : x < 0 ∨ nI 256 ≤ x) (hp : post 1) : wpY_badKey post x := by
  rcases hx with h | h
  · exact br_t h hp
  · have hn : ¬ x ≤ 255 := fun z => absurd (Int32.le_trans h z) (nI_ge (a := 255) (b := 256) (by decide) (by decide))
    exact br_c (fun _ => hp) (fun _ => br_f hn hp)
theorem sn_bad0 {post : Int32 → Prop} {k : Nat} (hk : k < 256) (hp : post 0) : wpY_badKey post (nI k) :=
  br_f (nI_pos (by omega)) (br_t (nI_le (b := 255) (by omega) (by decide)) hp)
theorem sn_cell {post : Int32 → Prop} (r k : Nat) (hp : post (nI (256 * r + k))) : wpX_cellOf post (nI r) (nI k) := by
  unfold wpX_cellOf
  rw [sn_ix]
  exact hp
theorem sn_xi {r k : Nat} (hr : r < 8) (hk : k < 256) : vp_in (nI (256 * r + k)) 2048 := vp_in_nI (by omega) (by decide)
theorem sn_xc {r k : Nat} (hr : r < 8) (hk : k < 256) : (nI (256 * r + k)).toNatClampNeg = 256 * r + k := nI_clamp (by omega)
theorem sn_yi {m k : Nat} (hm : m < 8) (hk : k < 256) : vp_in (256 * nI m + nI k) 2048 := by
  rw [sn_iy]
  exact sn_xi hm hk
theorem sn_yc {m k : Nat} (hm : m < 8) (hk : k < 256) : (256 * nI m + nI k).toNatClampNeg = 256 * m + k := by
  rw [sn_iy]
  exact sn_xc hm hk
theorem sn_zi {k : Nat} (hk : k < 256) : vp_in (1792 + nI k) 2048 := by
  rw [sn_iz]
  exact sn_xi (by decide) hk
theorem sn_zc {k : Nat} (hk : k < 256) : (1792 + nI k).toNatClampNeg = 256 * 7 + k := by
  rw [sn_iz]
  exact sn_xc (by decide) hk
theorem sn_full {j : Nat} (h : j < 256) : ¬ (256 : Int32) ≤ nI j := nI_ge (b := 256) h (by decide)
theorem sn_end : (256 : Int32) ≤ nI 256 := nI_le (a := 256) (b := 256) (by decide) (by decide)
/-- a number is no slot or a free one, or it is a taken one -/
def sn_no (t : Nat → Int32) (x : Int32) : Prop := x < 0 ∨ nI 7 ≤ x ∨ ∃ s : Nat, s < 7 ∧ x = nI s ∧ t s = 0
theorem sn_slot (t : Nat → Int32) (x : Int32) : sn_no t x ∨ ∃ s : Nat, s < 7 ∧ x = nI s ∧ ¬ t s = 0 := by
  rcases pk_ix x (n := 7) (by decide) with h | h | ⟨s, hs, e⟩
  · exact Or.inl (Or.inl h)
  · exact Or.inl (Or.inr (Or.inl h))
  · by_cases z : t s = 0
    · exact Or.inl (Or.inr (Or.inr ⟨s, hs, e, z⟩))
    · exact Or.inr ⟨s, hs, e, z⟩
theorem sn_noU {t U : Nat → Int32} (h4 : ∀ s, s < 7 → t s = U s) {x : Int32} (h : sn_no t x) : sn_no U x := by
  rcases h with h | h | ⟨s, hs, e, z⟩
  · exact Or.inl h
  · exact Or.inr (Or.inl h)
  · exact Or.inr (Or.inr ⟨s, hs, e, by rw [← h4 s hs]; exact z⟩)
section
variable {h w z t U H W : Nat → Int32}
theorem sn_tk0 {post : Int32 → Prop} {x : Int32} (hx : sn_no t x) (hp : post 0) : wpX_isTakenSlot post (h, w, z, t) x := by
  rcases hx with hx | hx | ⟨s, hs, rfl, e⟩
  · exact br_t hx hp
  · exact br_c (fun _ => hp) (fun _ => br_t hx hp)
  · have e' : t (nI s).toNatClampNeg = 0 := by rw [nI_clamp (by omega)]; exact e
    exact br_f (nI_pos (by omega)) (br_f (nI_ge (b := 7) hs (by decide)) ⟨vp_in_nI hs (by decide), br_t e' hp⟩)
theorem sn_tk1 {post : Int32 → Prop} {s : Nat} (hs : s < 7) (e : ¬ t s = 0) (hp : post 1) : wpX_isTakenSlot post (h, w, z, t) (nI s) := by
  have e' : ¬ t (nI s).toNatClampNeg = 0 := by rw [nI_clamp (by omega)]; exact e
  exact br_f (nI_pos (by omega)) (br_f (nI_ge (b := 7) hs (by decide)) ⟨vp_in_nI hs (by decide), br_f e' hp⟩)
theorem sn_6 {x : Int32} (hx : nI 7 ≤ x) : 6 < x := Int32.lt_of_lt_of_le (nI_lt (a := 6) (b := 7) (by decide) (by decide)) hx
theorem sn_fr1 {post : Int32 → Prop} {x : Int32} (hx : sn_no U x) (hp : post 1) : wpY_free post (U, H, W) x := by
  rcases hx with hx | hx | ⟨s, hs, rfl, e⟩
  · exact br_t hx hp
  · exact br_c (fun _ => hp) (fun _ => br_t (sn_6 hx) hp)
  · have e' : U (nI s).toNatClampNeg = 0 := by rw [nI_clamp (by omega)]; exact e
    exact br_f (nI_pos (by omega)) (br_f (nI_nlt (a := 6) (by omega) (by decide)) ⟨vp_in_nI (by omega) (by decide), br_t e' hp⟩)
theorem sn_fr0 {post : Int32 → Prop} {s : Nat} (hs : s < 7) (e : ¬ U s = 0) (hp : post 0) : wpY_free post (U, H, W) (nI s) := by
  have e' : ¬ U (nI s).toNatClampNeg = 0 := by rw [nI_clamp (by omega)]; exact e
  exact br_f (nI_pos (by omega)) (br_f (nI_nlt (a := 6) (by omega) (by decide)) ⟨vp_in_nI (by omega) (by decide), br_f e' hp⟩)
theorem sn_rowS {post : Int32 → Prop} {s : Nat} (hs : s < 7) (hp : post (nI (sn_r s))) : wpX_rowOfMap post (nI s) := by
  unfold wpX_rowOfMap
  rw [nI_1, ← sn_rs hs]
  exact hp
theorem sn_rowW {post : Int32 → Prop} (hp : post (nI (sn_r 7))) : wpX_rowOfMap post (-1) := by
  have e : (-1 : Int32) + 1 = nI (sn_r 7) := by decide
  unfold wpX_rowOfMap
  rw [e]
  exact hp
theorem sn_neg {s : Nat} (hs : s < 7) : ¬ nI s = -1 := by
  intro e
  have hn : ¬ nI s < 0 := nI_pos (by omega)
  rw [e] at hn
  exact hn (by decide)
/-- a map's number: refused by both, or a row of one and a place of the other -/
theorem sn_map (h4 : ∀ s, s < 7 → t s = U s) (x : Int32) :
    ((∀ post : Int32 → Prop, post 0 → wpX_isMap post (h, w, z, t) x) ∧ (∀ post : Int32 → Prop, post (-1) → wpY_place post (U, H, W) x)) ∨
    ∃ m : Nat, m < 8 ∧ (∀ post : Int32 → Prop, post 1 → wpX_isMap post (h, w, z, t) x) ∧ (∀ post : Int32 → Prop, post (nI (sn_r m)) → wpX_rowOfMap post x) ∧ (∀ post : Int32 → Prop, post (nI m) → wpY_place post (U, H, W) x) := by
  by_cases e1 : x = -1
  · subst e1
    exact Or.inr ⟨7, by decide, fun post hp => br_t rfl hp, fun post hp => sn_rowW hp, fun post hp => br_t rfl hp⟩
  · rcases sn_slot t x with hx | ⟨s, hs, rfl, e⟩
    · refine Or.inl ⟨fun post hp => br_f e1 (sn_tk0 hx (br_t rfl hp)), fun post hp => br_f e1 ?_⟩
      rcases sn_noU h4 hx with hx | hx | ⟨s, hs, rfl, e⟩
      · exact br_t hx hp
      · exact br_c (fun _ => hp) (fun _ => br_t (sn_6 hx) hp)
      · have e' : U (nI s).toNatClampNeg = 0 := by rw [nI_clamp (by omega)]; exact e
        exact br_f (nI_pos (by omega)) (br_f (nI_nlt (a := 6) (by omega) (by decide)) ⟨vp_in_nI (by omega) (by decide), br_t e' hp⟩)
    · refine Or.inr ⟨s, by omega, fun post hp => br_f e1 (sn_tk1 hs e (br_f sn_one hp)), fun post hp => sn_rowS hs hp, fun post hp => br_f e1 ?_⟩
      have e' : ¬ U (nI s).toNatClampNeg = 0 := by rw [nI_clamp (by omega), ← h4 s hs]; exact e
      exact br_f (nI_pos (by omega)) (br_f (nI_nlt (a := 6) (by omega) (by decide)) ⟨vp_in_nI (by omega) (by decide), br_f e' hp⟩)
theorem sn_rh0 {post : Int32 → Prop} {x y : Int32} (hy : y < 0 ∨ nI 256 ≤ y) (hp : post 0) : wpX_rowHolds post (h, w, z, t) x y := by
  unfold wpX_rowHolds
  exact sn_isKey0 hy (br_t rfl hp)
theorem sn_rh {post : Int32 → Prop} {r k : Nat} (hr : r < 8) (hk : k < 256) (h0 : h (256 * r + k) = 0 → post 0) (h1 : ¬ h (256 * r + k) = 0 → post 1) : wpX_rowHolds post (h, w, z, t) (nI r) (nI k) := by
  unfold wpX_rowHolds
  refine sn_isKey1 hk (br_f sn_one (sn_cell r k ⟨sn_xi hr hk, ?_⟩))
  rw [sn_xc hr hk]
  exact br_c h0 h1
/-- the reference's count of a row -/
theorem sn_cnt {post : Int32 → Prop} {m : Nat} (hm : m < 8) (hp : post (nI (sn_c H (256 * m) 256))) : wpY_count post (U, H, W) (nI m) := by
  have key : ∀ d j : Nat, j + d = 256 → wY_count_4 post (nI m) U H W (d + 1) (nI (sn_c H (256 * m) j)) (nI j) := by
    intro d
    induction d with
    | zero =>
      intro j hj
      obtain rfl : j = 256 := by omega
      exact br_t sn_end hp
    | succ d ih =>
      intro j hj
      have hj' : j < 256 := by omega
      have hn := ih (j + 1) (by omega)
      refine br_f (sn_full hj') ⟨sn_yi hm hj', ?_⟩
      rw [sn_yc hm hj']
      by_cases e : H (256 * m + j) = 0
      · rw [sn_c_t e] at hn
        exact br_t e (nm_r (nI_1 j) hn)
      · rw [sn_c_f e] at hn
        exact br_f e (nm_r (nI_1 _) (nm_r (nI_1 j) hn))
  exact Exists.intro 257 (key 256 0 rfl)
end
