/-- the first i cells of row r1 of f stand in row r2 of g; all else of g is f's -/
def sn_P (f g : Nat → Int32) (r1 r2 i : Nat) : Prop :=
  (∀ k, k < i → g (256 * r2 + k) = f (256 * r1 + k)) ∧ (∀ j, j < 256 * r2 ∨ 256 * r2 + i ≤ j → g j = f j)
theorem sn_P0 (f : Nat → Int32) (r1 r2 : Nat) : sn_P f f r1 r2 0 := ⟨fun k hk => absurd hk (by omega), fun _ _ => rfl⟩
theorem sn_Ps {f g : Nat → Int32} {r1 r2 i : Nat} {x : Int32} (hr : r1 ≠ r2) (hi : i < 256) (h : sn_P f g r1 r2 i) (hx : x = g (256 * r1 + i)) : sn_P f (upd g (256 * r2 + i) x) r1 r2 (i + 1) := by
  refine ⟨fun k hk => ?_, fun j hj => ?_⟩
  · by_cases e : k = i
    · rw [e, pk_us, hx]
      exact h.2 _ (by omega)
    · rw [pk_un (by omega)]
      exact h.1 k (by omega)
  · rw [pk_un (by omega)]
    exact h.2 j (by omega)
theorem sn_PB {f g : Nat → Int32} {r1 r2 i : Nat} (h : sn_P f g r1 r2 i) (hB : sn_B f) : sn_B g := by
  intro j
  by_cases e : j < 256 * r2 ∨ 256 * r2 + i ≤ j
  · rw [h.2 j e]; exact hB j
  · obtain ⟨k, hk, rfl⟩ : ∃ k, k < i ∧ j = 256 * r2 + k := ⟨j - 256 * r2, by omega, by omega⟩
    rw [h.1 k hk]; exact hB _
/-- both sides hold the same rows -/
def sn_E (f g : Nat → Int32) : Prop := ∀ m k, m < 8 → k < 256 → f (256 * sn_r m + k) = g (256 * m + k)
theorem sn_Eu {f g : Nat → Int32} (h : sn_E f g) {m k : Nat} (hk : k < 256) (x : Int32) : sn_E (upd f (256 * sn_r m + k) x) (upd g (256 * m + k) x) := by
  intro m' k' hm' hk'
  by_cases e : m' = m
  · subst e
    by_cases e2 : k' = k
    · subst e2
      rw [pk_us, pk_us]
    · rw [pk_un (by omega), pk_un (by omega)]
      exact h m' k' hm' hk'
  · have e3 : sn_r m' ≠ sn_r m := fun z => e (sn_ri z)
    rw [pk_un (by omega), pk_un (by omega)]
    exact h m' k' hm' hk'
theorem sn_Ec {f g f' g' : Nat → Int32} (h : sn_E f g) {m1 m2 : Nat} (h1 : m1 < 8) (hf : sn_P f f' (sn_r m1) (sn_r m2) 256) (hg : sn_P g g' m1 m2 256) : sn_E f' g' := by
  intro m k hm hk
  by_cases e : m = m2
  · subst e
    rw [hf.1 k hk, hg.1 k hk]
    exact h m1 k h1 hk
  · have e3 : sn_r m ≠ sn_r m2 := fun z => e (sn_ri z)
    rw [hf.2 _ (by omega), hg.2 _ (by omega)]
    exact h m k hm hk
/-- the sizes are the counts, and none is above 16 -/
def sn_Z (z H : Nat → Int32) : Prop := ∀ m, m < 8 → z (sn_r m) = nI (sn_c H (256 * m) 256) ∧ sn_c H (256 * m) 256 ≤ 16
theorem sn_Zu {z H : Nat → Int32} (h : sn_Z z H) {m k : Nat} (hk : k < 256) {x : Int32} {c : Nat} (hc : sn_c (upd H (256 * m + k) x) (256 * m) 256 = c) (h16 : c ≤ 16) : sn_Z (upd z (sn_r m) (nI c)) (upd H (256 * m + k) x) := by
  intro m' hm'
  by_cases e : m' = m
  · subst e
    rw [pk_us, hc]
    exact ⟨rfl, h16⟩
  · have e3 : sn_r m' ≠ sn_r m := fun z => e (sn_ri z)
    have e4 : sn_c (upd H (256 * m + k) x) (256 * m') 256 = sn_c H (256 * m') 256 := sn_c_eq 256 (fun j hj => pk_un (by omega))
    rw [pk_un e3, e4]
    exact h m' hm'
theorem sn_Zc {z H H' : Nat → Int32} (h : sn_Z z H) {m1 m2 : Nat} (h1 : m1 < 8) (hg : sn_P H H' m1 m2 256) : sn_Z (upd z (sn_r m2) (z (sn_r m1))) H' := by
  intro m hm
  by_cases e : m = m2
  · subst e
    have e4 : sn_c H' (256 * m) 256 = sn_c H (256 * m1) 256 := sn_c_eq 256 hg.1
    rw [pk_us, e4]
    exact h m1 h1
  · have e3 : sn_r m ≠ sn_r m2 := fun z => e (sn_ri z)
    have e4 : sn_c H' (256 * m) 256 = sn_c H (256 * m) 256 := sn_c_eq 256 (fun j hj => hg.2 _ (by omega))
    rw [pk_un e3, e4]
    exact h m hm
/-- the relation, its arrays by name: held, values, sizes, taken; used, holds, values -/
def sn_R (h w z t U H W : Nat → Int32) : Prop :=
  sn_E h H ∧ sn_E w W ∧ sn_Z z H ∧ (∀ s, s < 7 → t s = U s) ∧ sn_B h ∧ sn_B H ∧ sn_B t ∧ sn_B U
theorem sn_R0 : sn_R (fun _ => 0) (fun _ => 0) (fun _ => 0) (fun _ => 0) (upd (fun _ => 0) 7 1) (fun _ => 0) (fun _ => 0) := by
  refine ⟨fun _ _ _ _ => rfl, fun _ _ _ _ => rfl, fun m _ => ?_, fun s hs => ?_, sn_B0, sn_B0, sn_B0, sn_BU sn_B0 (Or.inr rfl)⟩
  · have e : sn_c (fun _ => 0) (256 * m) 256 = 0 := sn_c_z 256 (fun _ _ => rfl)
    rw [e]
    exact ⟨nI_0.symm, by omega⟩
  · exact (pk_un (f := fun _ => 0) (k := 7) (j := s) (x := 1) (by omega)).symm
theorem sn_id {f : Nat → Int32} {i : Nat} {x : Int32} (h : f i = x) : upd f i x = f := by
  funext j
  by_cases e : j = i
  · rw [e, pk_us, h]
  · exact pk_un e
/-- a value is stored for a key that both hold -/
theorem sn_Rv {h w z t U H W : Nat → Int32} (R : sn_R h w z t U H W) {k : Nat} (hk : k < 256) (x : Int32) : sn_R h (upd w (256 * 0 + k) x) z t U H (upd W (256 * 7 + k) x) := by
  obtain ⟨h1, h2, h3⟩ := R
  exact ⟨h1, sn_Eu (m := 7) h2 hk x, h3⟩
/-- a key joins the working map -/
theorem sn_Ra {h w z t U H W : Nat → Int32} (R : sn_R h w z t U H W) {k : Nat} (hk : k < 256) (h0 : H (256 * 7 + k) = 0) (h16 : sn_c H (256 * 7) 256 < 16) : sn_R (upd h (256 * 0 + k) 1) w (upd z 0 (nI (sn_c H (256 * 7) 256 + 1))) t U (upd H (256 * 7 + k) 1) W := by
  obtain ⟨h1, h2, h3, h4, h5, h6, h7, h8⟩ := R
  exact ⟨sn_Eu (m := 7) h1 hk 1, h2, sn_Zu (m := 7) h3 hk (sn_c_set h0 (by decide) 256 hk) (by omega), h4, sn_BU h5 (Or.inr rfl), sn_BU h6 (Or.inr rfl), h7, h8⟩
/-- a key leaves the working map -/
theorem sn_Rr {h w z t U H W : Nat → Int32} (R : sn_R h w z t U H W) {k c : Nat} (hk : k < 256) (h0 : ¬ H (256 * 7 + k) = 0) (hc : sn_c H (256 * 7) 256 = c + 1) : sn_R (upd h (256 * 0 + k) 0) w (upd z 0 (nI c)) t U (upd H (256 * 7 + k) 0) W := by
  obtain ⟨h1, h2, h3, h4, h5, h6, h7, h8⟩ := R
  have e := sn_c_clr h0 256 hk
  have e2 := (h3 7 (by omega)).2
  exact ⟨sn_Eu (m := 7) h1 hk 0, h2, sn_Zu (m := 7) h3 hk (c := c) (by omega) (by omega), h4, sn_BU h5 (Or.inl rfl), sn_BU h6 (Or.inl rfl), h7, h8⟩
/-- a row is copied -/
theorem sn_Rc {h w z t U H W h' w' H' W' : Nat → Int32} (R : sn_R h w z t U H W) {m1 m2 : Nat} (hm : m1 < 8) (p1 : sn_P h h' (sn_r m1) (sn_r m2) 256) (p2 : sn_P w w' (sn_r m1) (sn_r m2) 256) (p3 : sn_P H H' m1 m2 256) (p4 : sn_P W W' m1 m2 256) : sn_R h' w' (upd z (sn_r m2) (z (sn_r m1))) t U H' W' := by
  obtain ⟨h1, h2, h3, h4, h5, h6, h7⟩ := R
  exact ⟨sn_Ec h1 hm p1 p3, sn_Ec h2 hm p2 p4, sn_Zc h3 hm p3, h4, sn_PB p1 h5, sn_PB p3 h6, h7⟩
/-- a slot is taken, or freed -/
theorem sn_Rt {h w z t U H W : Nat → Int32} (R : sn_R h w z t U H W) (s : Nat) {x : Int32} (hx : x = 0 ∨ x = 1) : sn_R h w z (upd t s x) (upd U s x) H W := by
  obtain ⟨h1, h2, h3, h4, h5, h6, h7, h8⟩ := R
  refine ⟨h1, h2, h3, fun j hj => ?_, h5, h6, sn_BU h7 hx, sn_BU h8 hx⟩
  by_cases e : j = s
  · rw [e, pk_us, pk_us]
  · rw [pk_un e, pk_un e]
    exact h4 j hj
