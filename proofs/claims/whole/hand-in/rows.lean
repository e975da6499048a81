section
theorem pk_us {f : Nat → Int32} {k : Nat} {x : Int32} : upd f k x k = x := if_pos rfl
theorem pk_un {f : Nat → Int32} {k j : Nat} {x : Int32} (h : j ≠ k) : upd f k x j = f j := if_neg h
theorem pk_m1 (n : Nat) : nI (n + 1) + (-1) = nI n := by
  rw [← nI_1, Int32.add_assoc, show (1 : Int32) + (-1) = 0 from rfl, Int32.add_zero]
theorem pk_mul (a b : Nat) : nI a * nI b = nI (a * b) := (Int32.ofNat_mul a b).symm
theorem pk_ix (x : Int32) {n : Nat} (hn : n < 2 ^ 31) : x < 0 ∨ nI n ≤ x ∨ ∃ j : Nat, j < n ∧ x = nI j := by
  by_cases h : x < 0
  · exact Or.inl h
  · obtain ⟨j, hj, rfl⟩ := nI_of h
    by_cases h2 : j < n
    · exact Or.inr (Or.inr ⟨j, h2, rfl⟩)
    · exact Or.inr (Or.inl (nI_le (by omega) hj))
theorem pk_le {x y : Int32} {A B : Prop} (a b : Nat) (f : a ≤ b → A) (g : b < a → B) (hx : x = nI a := by rfl) (hy : y = nI b := by rfl) (ha : a < 2 ^ 31 := by omega) (hb : b < 2 ^ 31 := by omega) : (x ≤ y → A) ∧ (¬ x ≤ y → B) := by
  subst hx hy
  rw [nI_leI ha hb]
  exact ⟨f, fun z => g (by omega)⟩
theorem pk_lt {x y : Int32} {A B : Prop} (a b : Nat) (f : a < b → A) (g : b ≤ a → B) (hx : x = nI a := by rfl) (hy : y = nI b := by rfl) (ha : a < 2 ^ 31 := by omega) (hb : b < 2 ^ 31 := by omega) : (x < y → A) ∧ (¬ x < y → B) := by
  subst hx hy
  rw [nI_ltI ha hb]
  exact ⟨f, fun z => g (by omega)⟩
theorem pk_eq {x y : Int32} {A B : Prop} (a b : Nat) (f : a = b → A) (g : a ≠ b → B) (hx : x = nI a := by rfl) (hy : y = nI b := by rfl) (ha : a < 2 ^ 31 := by omega) (hb : b < 2 ^ 31 := by omega) : (x = y → A) ∧ (¬ x = y → B) := by
  subst hx hy
  rw [nI_eq ha hb]
  exact ⟨f, g⟩
theorem pk_in {x : Int32} (n N : Nat) (h : n < N) (hx : x = nI n := by rfl) (hN : N < 2 ^ 31 := by omega) : vp_in x N := by
  subst hx
  exact vp_in_nI h hN
theorem pk_cl {x : Int32} (n : Nat) (hx : x = nI n := by rfl) (h : n < 2 ^ 31 := by omega) : x.toNatClampNeg = n := by
  subst hx
  exact nI_clamp h
/-- how many of the n cells from b on are not 0 -/
def sn_c (f : Nat → Int32) (b : Nat) : Nat → Nat
  | 0 => 0
  | n + 1 => sn_c f b n + (if f (b + n) = 0 then 0 else 1)
theorem sn_c_s (f : Nat → Int32) (b n : Nat) : sn_c f b (n + 1) = sn_c f b n + (if f (b + n) = 0 then 0 else 1) := rfl
theorem sn_c_t {f : Nat → Int32} {b n : Nat} (h : f (b + n) = 0) : sn_c f b (n + 1) = sn_c f b n := by
  rw [sn_c_s, if_pos h]
  exact Nat.add_zero _
theorem sn_c_f {f : Nat → Int32} {b n : Nat} (h : ¬ f (b + n) = 0) : sn_c f b (n + 1) = sn_c f b n + 1 := by
  rw [sn_c_s, if_neg h]
theorem sn_c_le (f : Nat → Int32) (b : Nat) : ∀ n, sn_c f b n ≤ n := by
  intro n
  induction n with
  | zero => exact Nat.le_refl 0
  | succ n ih =>
    by_cases h : f (b + n) = 0
    · rw [sn_c_t h]; omega
    · rw [sn_c_f h]; omega
theorem sn_c_eq {f g : Nat → Int32} {b c : Nat} : ∀ n, (∀ k, k < n → f (b + k) = g (c + k)) → sn_c f b n = sn_c g c n := by
  intro n
  induction n with
  | zero => intro _; rfl
  | succ n ih =>
    intro h
    rw [sn_c_s, sn_c_s, ih (fun k hk => h k (by omega)), h n (by omega)]
theorem sn_c_set {f : Nat → Int32} {b k : Nat} {x : Int32} (h0 : f (b + k) = 0) (hx : ¬ x = 0) : ∀ n, k < n → sn_c (upd f (b + k) x) b n = sn_c f b n + 1 := by
  intro n
  induction n with
  | zero => intro h; omega
  | succ n ih =>
    intro h
    by_cases e : k = n
    · subst e
      have e1 : sn_c (upd f (b + k) x) b k = sn_c f b k := sn_c_eq k (fun j hj => pk_un (by omega))
      have e2 : ¬ upd f (b + k) x (b + k) = 0 := by rw [pk_us]; exact hx
      rw [sn_c_f e2, sn_c_t h0, e1]
    · rw [sn_c_s, sn_c_s, ih (by omega), pk_un (by omega)]
      omega
theorem sn_c_clr {f : Nat → Int32} {b k : Nat} (h1 : ¬ f (b + k) = 0) : ∀ n, k < n → sn_c (upd f (b + k) 0) b n + 1 = sn_c f b n := by
  intro n
  induction n with
  | zero => intro h; omega
  | succ n ih =>
    intro h
    by_cases e : k = n
    · subst e
      have e1 : sn_c (upd f (b + k) 0) b k = sn_c f b k := sn_c_eq k (fun j hj => pk_un (by omega))
      have e2 : upd f (b + k) 0 (b + k) = 0 := pk_us
      rw [sn_c_t e2, sn_c_f h1, e1]
    · rw [sn_c_s, sn_c_s, ← ih (by omega), pk_un (by omega)]
      omega
theorem sn_c_z {f : Nat → Int32} {b : Nat} : ∀ n, (∀ k, k < n → f (b + k) = 0) → sn_c f b n = 0 := by
  intro n
  induction n with
  | zero => intro _; rfl
  | succ n ih =>
    intro h
    rw [sn_c_t (h n (by omega))]
    exact ih (fun k hk => h k (by omega))
/-- an array of booleans -/
def sn_B (f : Nat → Int32) : Prop := ∀ j, f j = 0 ∨ f j = 1
theorem sn_B0 : sn_B (fun _ => 0) := fun _ => Or.inl rfl
theorem sn_BU {f : Nat → Int32} {k : Nat} {x : Int32} (h : sn_B f) (hx : x = 0 ∨ x = 1) : sn_B (upd f k x) := by
  intro j
  by_cases e : j = k
  · rw [e, pk_us]; exact hx
  · rw [pk_un e]; exact h j
theorem sn_nar0 : vp_nar .boolean 0 = 0 := by rfl
theorem sn_nar1 : vp_nar .boolean 1 = 1 := by rfl
theorem sn_nar {f : Nat → Int32} (h : sn_B f) (j : Nat) : vp_nar .boolean (f j) = f j := by
  rcases h j with e | e
  · rw [e]; exact sn_nar0
  · rw [e]; exact sn_nar1
/-- the component's row of the reference's place m -/
def sn_r (m : Nat) : Nat := if m = 7 then 0 else m + 1
theorem sn_r7 : sn_r 7 = 0 := rfl
theorem sn_rs {s : Nat} (h : s < 7) : sn_r s = s + 1 := if_neg (by omega)
theorem sn_r8 {m : Nat} (h : m < 8) : sn_r m < 8 := by
  unfold sn_r
  split <;> omega
theorem sn_ri {m n : Nat} (h : sn_r m = sn_r n) : m = n := by
  unfold sn_r at h
  split at h <;> split at h <;> omega
theorem sn_ix (r k : Nat) : nI r * 256 + nI k = nI (256 * r + k) := by
  rw [show (256 : Int32) = nI 256 from rfl, pk_mul, nI_add, Nat.mul_comm]
theorem sn_iy (m k : Nat) : 256 * nI m + nI k = nI (256 * m + k) := by
  rw [show (256 : Int32) = nI 256 from rfl, pk_mul, nI_add]
theorem sn_iz (k : Nat) : 1792 + nI k = nI (256 * 7 + k) := by
  rw [show (1792 : Int32) = nI (256 * 7) from rfl, nI_add]
end
section
/-- the first i cells of row r1 of f stand in row r2 of g; all else of g is f's -/
def sn_P (f g : Nat → Int32) (r1 r2 i : Nat) : Prop :=
  (∀ k, k < i → g (256 * r2 + k) = f (256 * r1 + k)) ∧ (∀ j, j < 256 * r2 ∨ 256 * r2 + i ≤ j → g j = f j)
theorem sn_P0 (f : Nat → Int32) (r1 r2 : Nat) : sn_P f f r1 r2 0 := ⟨fun k hk => absurd hk (by omega), fun _ _ => rfl⟩
theorem sn_Ps {f g : Nat → Int32} {r1 r2 i : Nat} {x : Int32} (hr : r1 ≠ r2) (hi : i < 256) (h : sn_P f g r1 r2 i) (hx : x = g (256 * r1 + i)) : sn_P f (upd g (256 * r2 + i) x) r1 r2 (i + 1) := by
  refine ⟨fun k hk => ?_, fun j hj => ?_⟩
  · by_cases e : k = i
    · rw [e, pk_us, hx]
      exact h.2 _ (by omega)
    · rw [pk_un (by omega)]
      exact h.1 k (by omega)
  · rw [pk_un (by omega)]
    exact h.2 j (by omega)
theorem sn_PB {f g : Nat → Int32} {r1 r2 i : Nat} (h : sn_P f g r1 r2 i) (hB : sn_B f) : sn_B g := by
  intro j
  by_cases e : j < 256 * r2 ∨ 256 * r2 + i ≤ j
  · rw [h.2 j e]; exact hB j
  · obtain ⟨k, hk, rfl⟩ : ∃ k, k < i ∧ j = 256 * r2 + k := ⟨j - 256 * r2, by omega, by omega⟩
    rw [h.1 k hk]; exact hB _
/-- both sides hold the same rows -/
def sn_E (f g : Nat → Int32) : Prop := ∀ m k, m < 8 → k < 256 → f (256 * sn_r m + k) = g (256 * m + k)
theorem sn_Eu {f g : Nat → Int32} (h : sn_E f g) {m k : Nat} (hk : k < 256) (x : Int32) : sn_E (upd f (256 * sn_r m + k) x) (upd g (256 * m + k) x) := by
  intro m' k' hm' hk'
  by_cases e : m' = m
  · subst e
    by_cases e2 : k' = k
    · subst e2
      rw [pk_us, pk_us]
    · rw [pk_un (by omega), pk_un (by omega)]
      exact h m' k' hm' hk'
  · have e3 : sn_r m' ≠ sn_r m := fun z => e (sn_ri z)
    rw [pk_un (by omega), pk_un (by omega)]
    exact h m' k' hm' hk'
theorem sn_Ec {f g f' g' : Nat → Int32} (h : sn_E f g) {m1 m2 : Nat} (h1 : m1 < 8) (hf : sn_P f f' (sn_r m1) (sn_r m2) 256) (hg : sn_P g g' m1 m2 256) : sn_E f' g' := by
  intro m k hm hk
  by_cases e : m = m2
  · subst e
    rw [hf.1 k hk, hg.1 k hk]
    exact h m1 k h1 hk
  · have e3 : sn_r m ≠ sn_r m2 := fun z => e (sn_ri z)
    rw [hf.2 _ (by omega), hg.2 _ (by omega)]
    exact h m k hm hk
/-- the sizes are the counts, and none is above 16 -/
def sn_Z (z H : Nat → Int32) : Prop := ∀ m, m < 8 → z (sn_r m) = nI (sn_c H (256 * m) 256) ∧ sn_c H (256 * m) 256 ≤ 16
theorem sn_Zu {z H : Nat → Int32} (h : sn_Z z H) {m k : Nat} (hk : k < 256) {x : Int32} {c : Nat} (hc : sn_c (upd H (256 * m + k) x) (256 * m) 256 = c) (h16 : c ≤ 16) : sn_Z (upd z (sn_r m) (nI c)) (upd H (256 * m + k) x) := by
  intro m' hm'
  by_cases e : m' = m
  · subst e
    rw [pk_us, hc]
    exact ⟨rfl, h16⟩
  · have e3 : sn_r m' ≠ sn_r m := fun z => e (sn_ri z)
    have e4 : sn_c (upd H (256 * m + k) x) (256 * m') 256 = sn_c H (256 * m') 256 := sn_c_eq 256 (fun j hj => pk_un (by omega))
    rw [pk_un e3, e4]
    exact h m' hm'
theorem sn_Zc {z H H' : Nat → Int32} (h : sn_Z z H) {m1 m2 : Nat} (h1 : m1 < 8) (hg : sn_P H H' m1 m2 256) : sn_Z (upd z (sn_r m2) (z (sn_r m1))) H' := by
  intro m hm
  by_cases e : m = m2
  · subst e
    have e4 : sn_c H' (256 * m) 256 = sn_c H (256 * m1) 256 := sn_c_eq 256 hg.1
    rw [pk_us, e4]
    exact h m1 h1
  · have e3 : sn_r m ≠ sn_r m2 := fun z => e (sn_ri z)
    have e4 : sn_c H' (256 * m) 256 = sn_c H (256 * m) 256 := sn_c_eq 256 (fun j hj => hg.2 _ (by omega))
    rw [pk_un e3, e4]
    exact h m hm
/-- the relation, its arrays by name: held, values, sizes, taken; used, holds, values -/
def sn_R (h w z t U H W : Nat → Int32) : Prop :=
  sn_E h H ∧ sn_E w W ∧ sn_Z z H ∧ (∀ s, s < 7 → t s = U s) ∧ sn_B h ∧ sn_B H ∧ sn_B t ∧ sn_B U
theorem sn_R0 : sn_R (fun _ => 0) (fun _ => 0) (fun _ => 0) (fun _ => 0) (upd (fun _ => 0) 7 1) (fun _ => 0) (fun _ => 0) := by
  refine ⟨fun _ _ _ _ => rfl, fun _ _ _ _ => rfl, fun m _ => ?_, fun s hs => ?_, sn_B0, sn_B0, sn_B0, sn_BU sn_B0 (Or.inr rfl)⟩
  · have e : sn_c (fun _ => 0) (256 * m) 256 = 0 := sn_c_z 256 (fun _ _ => rfl)
    rw [e]
    exact ⟨nI_0.symm, by omega⟩
  · exact (pk_un (f := fun _ => 0) (k := 7) (j := s) (x := 1) (by omega)).symm
theorem sn_id {f : Nat → Int32} {i : Nat} {x : Int32} (h : f i = x) : upd f i x = f := by
  funext j
  by_cases e : j = i
  · rw [e, pk_us, h]
  · exact pk_un e
/-- a value is stored for a key that both hold -/
theorem sn_Rv {h w z t U H W : Nat → Int32} (R : sn_R h w z t U H W) {k : Nat} (hk : k < 256) (x : Int32) : sn_R h (upd w (256 * 0 + k) x) z t U H (upd W (256 * 7 + k) x) := by
  obtain ⟨h1, h2, h3⟩ := R
  exact ⟨h1, sn_Eu (m := 7) h2 hk x, h3⟩
/-- a key joins the working map -/
theorem sn_Ra {h w z t U H W : Nat → Int32} (R : sn_R h w z t U H W) {k : Nat} (hk : k < 256) (h0 : H (256 * 7 + k) = 0) (h16 : sn_c H (256 * 7) 256 < 16) : sn_R (upd h (256 * 0 + k) 1) w (upd z 0 (nI (sn_c H (256 * 7) 256 + 1))) t U (upd H (256 * 7 + k) 1) W := by
  obtain ⟨h1, h2, h3, h4, h5, h6, h7, h8⟩ := R
  exact ⟨sn_Eu (m := 7) h1 hk 1, h2, sn_Zu (m := 7) h3 hk (sn_c_set h0 (by decide) 256 hk) (by omega), h4, sn_BU h5 (Or.inr rfl), sn_BU h6 (Or.inr rfl), h7, h8⟩
/-- a key leaves the working map -/
theorem sn_Rr {h w z t U H W : Nat → Int32} (R : sn_R h w z t U H W) {k c : Nat} (hk : k < 256) (h0 : ¬ H (256 * 7 + k) = 0) (hc : sn_c H (256 * 7) 256 = c + 1) : sn_R (upd h (256 * 0 + k) 0) w (upd z 0 (nI c)) t U (upd H (256 * 7 + k) 0) W := by
  obtain ⟨h1, h2, h3, h4, h5, h6, h7, h8⟩ := R
  have e := sn_c_clr h0 256 hk
  have e2 := (h3 7 (by omega)).2
  exact ⟨sn_Eu (m := 7) h1 hk 0, h2, sn_Zu (m := 7) h3 hk (c := c) (by omega) (by omega), h4, sn_BU h5 (Or.inl rfl), sn_BU h6 (Or.inl rfl), h7, h8⟩
/-- a row is copied -/
theorem sn_Rc {h w z t U H W h' w' H' W' : Nat → Int32} (R : sn_R h w z t U H W) {m1 m2 : Nat} (hm : m1 < 8) (p1 : sn_P h h' (sn_r m1) (sn_r m2) 256) (p2 : sn_P w w' (sn_r m1) (sn_r m2) 256) (p3 : sn_P H H' m1 m2 256) (p4 : sn_P W W' m1 m2 256) : sn_R h' w' (upd z (sn_r m2) (z (sn_r m1))) t U H' W' := by
  obtain ⟨h1, h2, h3, h4, h5, h6, h7⟩ := R
  exact ⟨sn_Ec h1 hm p1 p3, sn_Ec h2 hm p2 p4, sn_Zc h3 hm p3, h4, sn_PB p1 h5, sn_PB p3 h6, h7⟩
/-- a slot is taken, or freed -/
theorem sn_Rt {h w z t U H W : Nat → Int32} (R : sn_R h w z t U H W) (s : Nat) {x : Int32} (hx : x = 0 ∨ x = 1) : sn_R h w z (upd t s x) (upd U s x) H W := by
  obtain ⟨h1, h2, h3, h4, h5, h6, h7, h8⟩ := R
  refine ⟨h1, h2, h3, fun j hj => ?_, h5, h6, sn_BU h7 hx, sn_BU h8 hx⟩
  by_cases e : j = s
  · rw [e, pk_us, pk_us]
  · rw [pk_un e, pk_un e]
    exact h4 j hj
end
section
theorem sn_one : ¬ (1 : Int32) = 0 := by decide
/-- a number is no key, or it is one -/
theorem sn_key (x : Int32) : (x < 0 ∨ nI 256 ≤ x) ∨ ∃ k : Nat, k < 256 ∧ x = nI k := by
  rcases pk_ix x (n := 256) (by decide) with h | h | h
  · exact Or.inl (Or.inl h)
  · exact Or.inl (Or.inr h)
  · exact Or.inr h
theorem sn_isKey0 {post : Int32 → Prop} {x : Int32} (hx : x < 0 ∨ nI 256 ≤ x) (hp : post 0) : wpX_isKey post x := by
  rcases hx with h | h
  · exact br_t h hp
  · exact br_c (fun _ => hp) (fun _ => br_t h hp)
theorem sn_isKey1 {post : Int32 → Prop} {k : Nat} (hk : k < 256) (hp : post 1) : wpX_isKey post (nI k) :=
  br_f (nI_pos (by omega)) (br_f (nI_ge (b := 256) hk (by decide)) hp)
theorem sn_bad1 {post : Int32 → Prop} {x : Int32} (hx : x < 0 ∨ nI 256 ≤ x) (hp : post 1) : wpY_badKey post x := by
  rcases hx with h | h
  · exact br_t h hp
  · have hn : ¬ x ≤ 255 := fun z => absurd (Int32.le_trans h z) (nI_ge (a := 255) (b := 256) (by decide) (by decide))
    exact br_c (fun _ => hp) (fun _ => br_f hn hp)
theorem sn_bad0 {post : Int32 → Prop} {k : Nat} (hk : k < 256) (hp : post 0) : wpY_badKey post (nI k) :=
  br_f (nI_pos (by omega)) (br_t (nI_le (b := 255) (by omega) (by decide)) hp)
theorem sn_cell {post : Int32 → Prop} (r k : Nat) (hp : post (nI (256 * r + k))) : wpX_cellOf post (nI r) (nI k) := by
  unfold wpX_cellOf
  rw [sn_ix]
  exact hp
theorem sn_xi {r k : Nat} (hr : r < 8) (hk : k < 256) : vp_in (nI (256 * r + k)) 2048 := vp_in_nI (by omega) (by decide)
theorem sn_xc {r k : Nat} (hr : r < 8) (hk : k < 256) : (nI (256 * r + k)).toNatClampNeg = 256 * r + k := nI_clamp (by omega)
theorem sn_yi {m k : Nat} (hm : m < 8) (hk : k < 256) : vp_in (256 * nI m + nI k) 2048 := by
  rw [sn_iy]
  exact sn_xi hm hk
theorem sn_yc {m k : Nat} (hm : m < 8) (hk : k < 256) : (256 * nI m + nI k).toNatClampNeg = 256 * m + k := by
  rw [sn_iy]
  exact sn_xc hm hk
theorem sn_zi {k : Nat} (hk : k < 256) : vp_in (1792 + nI k) 2048 := by
  rw [sn_iz]
  exact sn_xi (by decide) hk
theorem sn_zc {k : Nat} (hk : k < 256) : (1792 + nI k).toNatClampNeg = 256 * 7 + k := by
  rw [sn_iz]
  exact sn_xc (by decide) hk
theorem sn_full {j : Nat} (h : j < 256) : ¬ (256 : Int32) ≤ nI j := nI_ge (b := 256) h (by decide)
theorem sn_end : (256 : Int32) ≤ nI 256 := nI_le (a := 256) (b := 256) (by decide) (by decide)
/-- a number is no slot or a free one, or it is a taken one -/
def sn_no (t : Nat → Int32) (x : Int32) : Prop := x < 0 ∨ nI 7 ≤ x ∨ ∃ s : Nat, s < 7 ∧ x = nI s ∧ t s = 0
theorem sn_slot (t : Nat → Int32) (x : Int32) : sn_no t x ∨ ∃ s : Nat, s < 7 ∧ x = nI s ∧ ¬ t s = 0 := by
  rcases pk_ix x (n := 7) (by decide) with h | h | ⟨s, hs, e⟩
  · exact Or.inl (Or.inl h)
  · exact Or.inl (Or.inr (Or.inl h))
  · by_cases z : t s = 0
    · exact Or.inl (Or.inr (Or.inr ⟨s, hs, e, z⟩))
    · exact Or.inr ⟨s, hs, e, z⟩
theorem sn_noU {t U : Nat → Int32} (h4 : ∀ s, s < 7 → t s = U s) {x : Int32} (h : sn_no t x) : sn_no U x := by
  rcases h with h | h | ⟨s, hs, e, z⟩
  · exact Or.inl h
  · exact Or.inr (Or.inl h)
  · exact Or.inr (Or.inr ⟨s, hs, e, by rw [← h4 s hs]; exact z⟩)
section
variable {h w z t U H W : Nat → Int32}
theorem sn_tk0 {post : Int32 → Prop} {x : Int32} (hx : sn_no t x) (hp : post 0) : wpX_isTakenSlot post (h, w, z, t) x := by
  rcases hx with hx | hx | ⟨s, hs, rfl, e⟩
  · exact br_t hx hp
  · exact br_c (fun _ => hp) (fun _ => br_t hx hp)
  · have e' : t (nI s).toNatClampNeg = 0 := by rw [nI_clamp (by omega)]; exact e
    exact br_f (nI_pos (by omega)) (br_f (nI_ge (b := 7) hs (by decide)) ⟨vp_in_nI hs (by decide), br_t e' hp⟩)
theorem sn_tk1 {post : Int32 → Prop} {s : Nat} (hs : s < 7) (e : ¬ t s = 0) (hp : post 1) : wpX_isTakenSlot post (h, w, z, t) (nI s) := by
  have e' : ¬ t (nI s).toNatClampNeg = 0 := by rw [nI_clamp (by omega)]; exact e
  exact br_f (nI_pos (by omega)) (br_f (nI_ge (b := 7) hs (by decide)) ⟨vp_in_nI hs (by decide), br_f e' hp⟩)
theorem sn_6 {x : Int32} (hx : nI 7 ≤ x) : 6 < x := Int32.lt_of_lt_of_le (nI_lt (a := 6) (b := 7) (by decide) (by decide)) hx
theorem sn_fr1 {post : Int32 → Prop} {x : Int32} (hx : sn_no U x) (hp : post 1) : wpY_free post (U, H, W) x := by
  rcases hx with hx | hx | ⟨s, hs, rfl, e⟩
  · exact br_t hx hp
  · exact br_c (fun _ => hp) (fun _ => br_t (sn_6 hx) hp)
  · have e' : U (nI s).toNatClampNeg = 0 := by rw [nI_clamp (by omega)]; exact e
    exact br_f (nI_pos (by omega)) (br_f (nI_nlt (a := 6) (by omega) (by decide)) ⟨vp_in_nI (by omega) (by decide), br_t e' hp⟩)
theorem sn_fr0 {post : Int32 → Prop} {s : Nat} (hs : s < 7) (e : ¬ U s = 0) (hp : post 0) : wpY_free post (U, H, W) (nI s) := by
  have e' : ¬ U (nI s).toNatClampNeg = 0 := by rw [nI_clamp (by omega)]; exact e
  exact br_f (nI_pos (by omega)) (br_f (nI_nlt (a := 6) (by omega) (by decide)) ⟨vp_in_nI (by omega) (by decide), br_f e' hp⟩)
theorem sn_rowS {post : Int32 → Prop} {s : Nat} (hs : s < 7) (hp : post (nI (sn_r s))) : wpX_rowOfMap post (nI s) := by
  unfold wpX_rowOfMap
  rw [nI_1, ← sn_rs hs]
  exact hp
theorem sn_rowW {post : Int32 → Prop} (hp : post (nI (sn_r 7))) : wpX_rowOfMap post (-1) := by
  have e : (-1 : Int32) + 1 = nI (sn_r 7) := by decide
  unfold wpX_rowOfMap
  rw [e]
  exact hp
theorem sn_neg {s : Nat} (hs : s < 7) : ¬ nI s = -1 := by
  intro e
  have hn : ¬ nI s < 0 := nI_pos (by omega)
  rw [e] at hn
  exact hn (by decide)
/-- a map's number: refused by both, or a row of one and a place of the other -/
theorem sn_map (h4 : ∀ s, s < 7 → t s = U s) (x : Int32) :
    ((∀ post : Int32 → Prop, post 0 → wpX_isMap post (h, w, z, t) x) ∧ (∀ post : Int32 → Prop, post (-1) → wpY_place post (U, H, W) x)) ∨
    ∃ m : Nat, m < 8 ∧ (∀ post : Int32 → Prop, post 1 → wpX_isMap post (h, w, z, t) x) ∧ (∀ post : Int32 → Prop, post (nI (sn_r m)) → wpX_rowOfMap post x) ∧ (∀ post : Int32 → Prop, post (nI m) → wpY_place post (U, H, W) x) := by
  by_cases e1 : x = -1
  · subst e1
    exact Or.inr ⟨7, by decide, fun post hp => br_t rfl hp, fun post hp => sn_rowW hp, fun post hp => br_t rfl hp⟩
  · rcases sn_slot t x with hx | ⟨s, hs, rfl, e⟩
    · refine Or.inl ⟨fun post hp => br_f e1 (sn_tk0 hx (br_t rfl hp)), fun post hp => br_f e1 ?_⟩
      rcases sn_noU h4 hx with hx | hx | ⟨s, hs, rfl, e⟩
      · exact br_t hx hp
      · exact br_c (fun _ => hp) (fun _ => br_t (sn_6 hx) hp)
      · have e' : U (nI s).toNatClampNeg = 0 := by rw [nI_clamp (by omega)]; exact e
        exact br_f (nI_pos (by omega)) (br_f (nI_nlt (a := 6) (by omega) (by decide)) ⟨vp_in_nI (by omega) (by decide), br_t e' hp⟩)
    · refine Or.inr ⟨s, by omega, fun post hp => br_f e1 (sn_tk1 hs e (br_f sn_one hp)), fun post hp => sn_rowS hs hp, fun post hp => br_f e1 ?_⟩
      have e' : ¬ U (nI s).toNatClampNeg = 0 := by rw [nI_clamp (by omega), ← h4 s hs]; exact e
      exact br_f (nI_pos (by omega)) (br_f (nI_nlt (a := 6) (by omega) (by decide)) ⟨vp_in_nI (by omega) (by decide), br_f e' hp⟩)
theorem sn_rh0 {post : Int32 → Prop} {x y : Int32} (hy : y < 0 ∨ nI 256 ≤ y) (hp : post 0) : wpX_rowHolds post (h, w, z, t) x y := by
  unfold wpX_rowHolds
  exact sn_isKey0 hy (br_t rfl hp)
theorem sn_rh {post : Int32 → Prop} {r k : Nat} (hr : r < 8) (hk : k < 256) (h0 : h (256 * r + k) = 0 → post 0) (h1 : ¬ h (256 * r + k) = 0 → post 1) : wpX_rowHolds post (h, w, z, t) (nI r) (nI k) := by
  unfold wpX_rowHolds
  refine sn_isKey1 hk (br_f sn_one (sn_cell r k ⟨sn_xi hr hk, ?_⟩))
  rw [sn_xc hr hk]
  exact br_c h0 h1
/-- the reference's count of a row -/
theorem sn_cnt {post : Int32 → Prop} {m : Nat} (hm : m < 8) (hp : post (nI (sn_c H (256 * m) 256))) : wpY_count post (U, H, W) (nI m) := by
  have key : ∀ d j : Nat, j + d = 256 → wY_count_4 post (nI m) U H W (d + 1) (nI (sn_c H (256 * m) j)) (nI j) := by
    intro d
    induction d with
    | zero =>
      intro j hj
      obtain rfl : j = 256 := by omega
      exact br_t sn_end hp
    | succ d ih =>
      intro j hj
      have hj' : j < 256 := by omega
      have hn := ih (j + 1) (by omega)
      refine br_f (sn_full hj') ⟨sn_yi hm hj', ?_⟩
      rw [sn_yc hm hj']
      by_cases e : H (256 * m + j) = 0
      · rw [sn_c_t e] at hn
        exact br_t e (nm_r (nI_1 j) hn)
      · rw [sn_c_f e] at hn
        exact br_f e (nm_r (nI_1 _) (nm_r (nI_1 j) hn))
  exact Exists.intro 257 (key 256 0 rfl)
end
end
section
section
variable {h w z t U H W : Nat → Int32}
/-- the component copies a row -/
theorem sn_cpX {post : SX → Prop} {r1 r2 : Nat} (h1 : r1 < 8) (h2 : r2 < 8) (hr : r1 ≠ r2) (hB : sn_B h) (hp : ∀ h' w' : Nat → Int32, sn_P h h' r1 r2 256 → sn_P w w' r1 r2 256 → post (h', w', upd z r2 (z r1), t)) : wpX_copyRow post (h, w, z, t) (nI r1) (nI r2) := by
  have key : ∀ (d j : Nat) (h' w' : Nat → Int32), j + d = 256 → sn_P h h' r1 r2 j → sn_P w w' r1 r2 j → wX_copyRow_2 post (nI r1) (nI r2) (d + 1) (nI j) h' w' z t := by
    intro d
    induction d with
    | zero =>
      intro j h' w' hj p1 p2
      obtain rfl : j = 256 := by omega
      have e : upd z (nI r2).toNatClampNeg (z (nI r1).toNatClampNeg) = upd z r2 (z r1) := by rw [nI_clamp (by omega), nI_clamp (by omega)]
      exact br_t sn_end ⟨vp_in_nI h1 (by decide), vp_in_nI h2 (by decide), nm_r e (hp h' w' p1 p2)⟩
    | succ d ih =>
      intro j h' w' hj p1 p2
      have hj' : j < 256 := by omega
      have e1 : upd h' (nI (256 * r2 + j)).toNatClampNeg (vp_nar .boolean (h' (nI (256 * r1 + j)).toNatClampNeg)) = upd h' (256 * r2 + j) (h' (256 * r1 + j)) := by
        rw [sn_xc h2 hj', sn_xc h1 hj', sn_nar (sn_PB p1 hB)]
      have e2 : upd w' (nI (256 * r2 + j)).toNatClampNeg (w' (nI (256 * r1 + j)).toNatClampNeg) = upd w' (256 * r2 + j) (w' (256 * r1 + j)) := by
        rw [sn_xc h2 hj', sn_xc h1 hj']
      exact br_f (sn_full hj') (sn_cell r1 j (sn_cell r2 j ⟨sn_xi h1 hj', sn_xi h2 hj', nm_r e1 ⟨sn_xi h1 hj', sn_xi h2 hj', nm_r e2 (nm_r (nI_1 j) (ih (j + 1) _ _ (by omega) (sn_Ps hr hj' p1 rfl) (sn_Ps hr hj' p2 rfl)))⟩⟩))
  exact Exists.intro 257 (key 256 0 h w rfl (sn_P0 _ _ _) (sn_P0 _ _ _))
/-- the reference copies a row -/
theorem sn_cpY {post : SY → Prop} {r1 r2 : Nat} (h1 : r1 < 8) (h2 : r2 < 8) (hr : r1 ≠ r2) (hB : sn_B H) (hp : ∀ H' W' : Nat → Int32, sn_P H H' r1 r2 256 → sn_P W W' r1 r2 256 → post (U, H', W')) : wpY_copy post (U, H, W) (nI r1) (nI r2) := by
  have key : ∀ (d j : Nat) (H' W' : Nat → Int32), j + d = 256 → sn_P H H' r1 r2 j → sn_P W W' r1 r2 j → wY_copy_2 post (nI r1) (nI r2) (d + 1) (nI j) U H' W' := by
    intro d
    induction d with
    | zero =>
      intro j H' W' hj p1 p2
      obtain rfl : j = 256 := by omega
      exact br_t sn_end (hp H' W' p1 p2)
    | succ d ih =>
      intro j H' W' hj p1 p2
      have hj' : j < 256 := by omega
      have e1 : upd H' (256 * nI r2 + nI j).toNatClampNeg (vp_nar .boolean (H' (256 * nI r1 + nI j).toNatClampNeg)) = upd H' (256 * r2 + j) (H' (256 * r1 + j)) := by
        rw [sn_yc h2 hj', sn_yc h1 hj', sn_nar (sn_PB p1 hB)]
      have e2 : upd W' (256 * nI r2 + nI j).toNatClampNeg (W' (256 * nI r1 + nI j).toNatClampNeg) = upd W' (256 * r2 + j) (W' (256 * r1 + j)) := by
        rw [sn_yc h2 hj', sn_yc h1 hj']
      exact br_f (sn_full hj') ⟨sn_yi h1 hj', sn_yi h2 hj', nm_r e1 ⟨sn_yi h1 hj', sn_yi h2 hj', nm_r e2 (nm_r (nI_1 j) (ih (j + 1) _ _ (by omega) (sn_Ps hr hj' p1 rfl) (sn_Ps hr hj' p2 rfl)))⟩⟩
  exact Exists.intro 257 (key 256 0 H W rfl (sn_P0 _ _ _) (sn_P0 _ _ _))
end
/-- a loop's rounds below s are passed over -/
theorem sn_skip (V : Nat → Int32 → Prop) (s n : Nat) (hs : ∀ n j, j < s → V n (nI (j + 1)) → V (n + 1) (nI j)) (hl : V n (nI s)) : ∃ n, V n 0 := by
  have key : ∀ e j : Nat, j + e = s → V (n + e) (nI j) := by
    intro e
    induction e with
    | zero =>
      intro j hj
      obtain rfl : j = s := by omega
      exact hl
    | succ e ih =>
      intro j hj
      exact hs (n + e) j (by omega) (ih (j + 1) (by omega))
  exact ⟨n + s, key s 0 (by omega)⟩
/-- two scans for the first key at or above x with D -/
theorem sn_scan (VX VY : (Int32 → Prop) → Nat → Int32 → Prop) (x : Int32) (D : Nat → Prop)
    (x0 : ∀ (post : Int32 → Prop) (n : Nat) (y : Int32), nI 256 ≤ y → post 256 → VX post (n + 1) y)
    (x1 : ∀ (post : Int32 → Prop) (n j : Nat), j < 256 → ¬ D j → VX post n (nI (j + 1)) → VX post (n + 1) (nI j))
    (x2 : ∀ (post : Int32 → Prop) (n j : Nat), j < 256 → D j → post (nI j) → VX post (n + 1) (nI j))
    (y0 : ∀ (post : Int32 → Prop) (n : Nat), post 256 → VY post (n + 1) (nI 256))
    (ys : ∀ (post : Int32 → Prop) (n j : Nat), j < 256 → nI j < x → VY post n (nI (j + 1)) → VY post (n + 1) (nI j))
    (y1 : ∀ (post : Int32 → Prop) (n j : Nat), j < 256 → ¬ nI j < x → ¬ D j → VY post n (nI (j + 1)) → VY post (n + 1) (nI j))
    (y2 : ∀ (post : Int32 → Prop) (n j : Nat), j < 256 → ¬ nI j < x → D j → post (nI j) → VY post (n + 1) (nI j)) :
    ∃ r : Int32, (∀ post : Int32 → Prop, post r → wpX_firstKeyFrom (fun s => ∃ n, VX post n s) x) ∧ (∀ post : Int32 → Prop, post r → ∃ n, VY post n 0) := by
  have key : ∀ d j : Nat, j + d = 256 → (∀ i, j ≤ i → i < 256 → ¬ nI i < x) → ∃ r : Int32, (∀ post : Int32 → Prop, post r → VX post (d + 1) (nI j)) ∧ (∀ post : Int32 → Prop, post r → VY post (d + 1) (nI j)) := by
    intro d
    induction d with
    | zero =>
      intro j hj _
      obtain rfl : j = 256 := by omega
      exact ⟨256, fun post hp => x0 post 0 _ sn_end hp, fun post hp => y0 post 0 hp⟩
    | succ d ih =>
      intro j hj hl
      have hj' : j < 256 := by omega
      by_cases hD : D j
      · exact ⟨nI j, fun post hp => x2 post _ j hj' hD hp, fun post hp => y2 post _ j hj' (hl j (Nat.le_refl j) hj') hD hp⟩
      · obtain ⟨r, hX, hY⟩ := ih (j + 1) (by omega) (fun i hi => hl i (by omega))
        exact ⟨r, fun post hp => x1 post _ j hj' hD (hX post hp), fun post hp => y1 post _ j hj' (hl j (Nat.le_refl j) hj') hD (hY post hp)⟩
  rcases sn_key x with (hx | hx) | ⟨f, hf, rfl⟩
  · obtain ⟨r, hX, hY⟩ := key 256 0 rfl (fun i _ hi z => nI_pos (n := i) (by omega) (Int32.lt_trans z hx))
    have hn : ¬ 0 ≤ x := fun z => Int32.lt_irrefl (Int32.lt_of_lt_of_le hx z)
    exact ⟨r, fun post hp => br_f hn ⟨257, hX post hp⟩, fun post hp => ⟨257, hY post hp⟩⟩
  · have h0 : 0 ≤ x := Int32.le_trans (nI_pos' (n := 256) (by decide)) hx
    exact ⟨256, fun post hp => br_t h0 ⟨1, x0 post 0 x hx hp⟩, fun post hp => sn_skip (VY post) 256 1 (fun n j hj hv => ys post n j hj (Int32.lt_of_lt_of_le (nI_lt hj (by decide)) hx) hv) (y0 post 0 hp)⟩
  · obtain ⟨r, hX, hY⟩ := key (256 - f) f (by omega) (fun i hi hi' => nI_nlt hi (by omega))
    exact ⟨r, fun post hp => br_t (nI_pos' (by omega)) ⟨_, hX post hp⟩, fun post hp => sn_skip (VY post) f _ (fun n j hj hv => ys post n j (by omega) (nI_lt hj (by omega)) hv) (hY post hp)⟩
/-- the two maps differ at key k -/
def sn_D (H W : Nat → Int32) (a b k : Nat) : Prop := ¬ H (256 * a + k) = H (256 * b + k) ∨ (¬ H (256 * a + k) = 0 ∧ ¬ W (256 * a + k) = W (256 * b + k))
section
variable {h w z t U H W : Nat → Int32}
theorem sn_dfX (h1 : sn_E h H) (h2 : sn_E w W) {post : Int32 → Prop} {a b k : Nat} (ha : a < 8) (hb : b < 8) (hk : k < 256) (p0 : ¬ sn_D H W a b k → post 0) (p1 : sn_D H W a b k → post 1) : wpX_rowsDiffer post (h, w, z, t) (nI (sn_r a)) (nI (sn_r b)) (nI k) := by
  have ra := sn_r8 ha
  have rb := sn_r8 hb
  unfold wpX_rowsDiffer
  refine sn_cell _ k (sn_cell _ k ⟨sn_xi ra hk, sn_xi rb hk, ?_⟩)
  rw [sn_xc ra hk, sn_xc rb hk, h1 a k ha hk, h1 b k hb hk, h2 a k ha hk, h2 b k hb hk]
  exact br_c (fun e => ⟨sn_xi ra hk, br_c (fun e0 => p0 (fun d => d.elim (fun n => n e) (fun n => n.1 e0))) (fun e0 => ⟨sn_xi ra hk, sn_xi rb hk, br_c (fun ew => p0 (fun d => d.elim (fun n => n e) (fun n => n.2 ew))) (fun ew => p1 (Or.inr ⟨e0, ew⟩))⟩)⟩) (fun e => p1 (Or.inl e))
theorem sn_dfY {post : Int32 → Prop} {a b k : Nat} (ha : a < 8) (hb : b < 8) (hk : k < 256) (p0 : ¬ sn_D H W a b k → post 0) (p1 : sn_D H W a b k → post 1) : wpY_differ post (U, H, W) (nI a) (nI b) (nI k) := by
  unfold wpY_differ
  refine ⟨sn_yi ha hk, sn_yi hb hk, ?_⟩
  rw [sn_yc ha hk, sn_yc hb hk]
  exact br_c (fun e => ⟨sn_yi ha hk, br_c (fun e0 => p0 (fun d => d.elim (fun n => n e) (fun n => n.1 e0))) (fun e0 => ⟨sn_yi ha hk, sn_yi hb hk, br_c (fun ew => p0 (fun d => d.elim (fun n => n e) (fun n => n.2 ew))) (fun ew => p1 (Or.inr ⟨e0, ew⟩))⟩)⟩) (fun e => p1 (Or.inl e))
theorem sn_nx (h1 : sn_E h H) {m : Nat} (hm : m < 8) (x : Int32) : ∃ r : Int32, (∀ post : Int32 → Prop, post r → wpX_firstKeyFrom (fun s => ∃ n, wX_next_21 post (nI (sn_r m)) h w z t n s) x) ∧ (∀ post : Int32 → Prop, post r → ∃ n, wY_next_15 post x (nI m) U H W n 0) := by
  have rm := sn_r8 hm
  refine sn_scan (fun post n s => wX_next_21 post (nI (sn_r m)) h w z t n s) (fun post n s => wY_next_15 post x (nI m) U H W n s) x (fun j => ¬ H (256 * m + j) = 0) ?_ ?_ ?_ ?_ ?_ ?_ ?_
  · intro post n y hy hp
    exact br_t hy hp
  · intro post n j hj hD hv
    have e : h (nI (256 * sn_r m + j)).toNatClampNeg = 0 := by rw [sn_xc rm hj, h1 m j hm hj]; exact Classical.not_not.mp hD
    exact br_f (sn_full hj) (sn_cell _ j ⟨sn_xi rm hj, br_t e (nm_r (nI_1 j) hv)⟩)
  · intro post n j hj hD hp
    have e : ¬ h (nI (256 * sn_r m + j)).toNatClampNeg = 0 := by rw [sn_xc rm hj, h1 m j hm hj]; exact hD
    exact br_f (sn_full hj) (sn_cell _ j ⟨sn_xi rm hj, br_f e hp⟩)
  · intro post n hp
    exact br_t sn_end hp
  · intro post n j hj hx hv
    exact br_f (sn_full hj) (br_t hx (nm_r (nI_1 j) hv))
  · intro post n j hj hx hD hv
    have e : H (256 * nI m + nI j).toNatClampNeg = 0 := by rw [sn_yc hm hj]; exact Classical.not_not.mp hD
    exact br_f (sn_full hj) (br_f hx ⟨sn_yi hm hj, br_t e (nm_r (nI_1 j) hv)⟩)
  · intro post n j hj hx hD hp
    have e : ¬ H (256 * nI m + nI j).toNatClampNeg = 0 := by rw [sn_yc hm hj]; exact hD
    exact br_f (sn_full hj) (br_f hx ⟨sn_yi hm hj, br_f e hp⟩)
theorem sn_nc (h1 : sn_E h H) (h2 : sn_E w W) {a b : Nat} (ha : a < 8) (hb : b < 8) (x : Int32) : ∃ r : Int32, (∀ post : Int32 → Prop, post r → wpX_firstKeyFrom (fun s => ∃ n, wX_nextChange_36 post (nI (sn_r a)) (nI (sn_r b)) h w z t n s) x) ∧ (∀ post : Int32 → Prop, post r → ∃ n, wY_nextChange_29 post x (nI a) (nI b) U H W n 0) := by
  refine sn_scan (fun post n s => wX_nextChange_36 post (nI (sn_r a)) (nI (sn_r b)) h w z t n s) (fun post n s => wY_nextChange_29 post x (nI a) (nI b) U H W n s) x (fun j => sn_D H W a b j) ?_ ?_ ?_ ?_ ?_ ?_ ?_
  · intro post n y hy hp
    exact br_t hy hp
  · intro post n j hj hD hv
    exact br_f (sn_full hj) (sn_dfX h1 h2 ha hb hj (fun _ => br_t rfl (nm_r (nI_1 j) hv)) (fun d => absurd d hD))
  · intro post n j hj hD hp
    exact br_f (sn_full hj) (sn_dfX h1 h2 ha hb hj (fun d => absurd hD d) (fun _ => br_f sn_one hp))
  · intro post n hp
    exact br_t sn_end hp
  · intro post n j hj hx hv
    exact br_f (sn_full hj) (br_t hx (nm_r (nI_1 j) hv))
  · intro post n j hj hx hD hv
    exact br_f (sn_full hj) (br_f hx (sn_dfY ha hb hj (fun _ => br_t rfl (nm_r (nI_1 j) hv)) (fun d => absurd d hD)))
  · intro post n j hj hx hD hp
    exact br_f (sn_full hj) (br_f hx (sn_dfY ha hb hj (fun d => absurd hD d) (fun _ => br_f sn_one hp)))
theorem sn_ch (h1 : sn_E h H) (h2 : sn_E w W) {a b : Nat} (ha : a < 8) (hb : b < 8) : ∀ (d j : Nat) (c : Int32), j + d = 256 → ∃ r : Int32, (∀ post : Int32 → Prop, post r → wX_changes_35 post (nI (sn_r a)) (nI (sn_r b)) h w z t (d + 1) c (nI j)) ∧ (∀ post : Int32 → Prop, post r → wY_changes_30 post (nI a) (nI b) U H W (d + 1) c (nI j)) := by
  intro d
  induction d with
  | zero =>
    intro j c hj
    obtain rfl : j = 256 := by omega
    exact ⟨c, fun post hp => br_t sn_end hp, fun post hp => br_t sn_end hp⟩
  | succ d ih =>
    intro j c hj
    have hj' : j < 256 := by omega
    by_cases hD : sn_D H W a b j
    · obtain ⟨r, hX, hY⟩ := ih (j + 1) (c + 1) (by omega)
      exact ⟨r, fun post hp => br_f (sn_full hj') (sn_dfX h1 h2 ha hb hj' (fun d => absurd hD d) (fun _ => br_f sn_one (nm_e (nm_r (nI_1 j) (hX post hp))))), fun post hp => br_f (sn_full hj') (sn_dfY ha hb hj' (fun d => absurd hD d) (fun _ => br_f sn_one (nm_e (nm_r (nI_1 j) (hY post hp)))))⟩
    · obtain ⟨r, hX, hY⟩ := ih (j + 1) c (by omega)
      exact ⟨r, fun post hp => br_f (sn_full hj') (sn_dfX h1 h2 ha hb hj' (fun _ => br_t rfl (nm_r (nI_1 j) (hX post hp))) (fun d => absurd d hD)), fun post hp => br_f (sn_full hj') (sn_dfY ha hb hj' (fun _ => br_t rfl (nm_r (nI_1 j) (hY post hp))) (fun d => absurd d hD))⟩
end
end
section
section
variable {h w z t U H W : Nat → Int32}
/-! put -/
theorem sn_putX1 {post : Int32 → SX → Prop} {x y : Int32} (hx : x < 0 ∨ nI 256 ≤ x) (hp : post (-1) (h, w, z, t)) : wpX_put post (h, w, z, t) x y := by
  unfold wpX_put
  exact sn_isKey0 hx (br_t rfl hp)
theorem sn_putX2 {post : Int32 → SX → Prop} {k : Nat} {y : Int32} (hk : k < 256) (hh : ¬ h (256 * 0 + k) = 0) (hp : post (z 0) (h, upd w (256 * 0 + k) y, z, t)) : wpX_put post (h, w, z, t) (nI k) y := by
  have hi : vp_in (nI (256 * 0 + k)) 2048 := sn_xi (by decide) hk
  have hc : (nI (256 * 0 + k)).toNatClampNeg = 256 * 0 + k := sn_xc (by decide) hk
  unfold wpX_put
  refine sn_isKey1 hk (br_f sn_one (sn_cell 0 k ⟨hi, ?_⟩))
  rw [hc]
  exact br_f hh (And.intro hi (nm_r (congrArg (fun i => upd w i y) hc) hp))
theorem sn_putX3 {post : Int32 → SX → Prop} {k : Nat} {y : Int32} (hk : k < 256) (hh : h (256 * 0 + k) = 0) (h16 : z 0 < 16) (hp : post (upd z 0 (z 0 + 1) 0) (upd h (256 * 0 + k) 1, upd w (256 * 0 + k) y, upd z 0 (z 0 + 1), t)) : wpX_put post (h, w, z, t) (nI k) y := by
  have hi : vp_in (nI (256 * 0 + k)) 2048 := sn_xi (by decide) hk
  have hc : (nI (256 * 0 + k)).toNatClampNeg = 256 * 0 + k := sn_xc (by decide) hk
  have e1 : upd h (256 * 0 + k) (vp_nar .boolean 1) = upd h (256 * 0 + k) 1 := by rw [sn_nar1]
  unfold wpX_put
  refine sn_isKey1 hk (br_f sn_one (sn_cell 0 k ⟨hi, ?_⟩))
  rw [hc]
  exact br_t hh (br_t h16 ⟨hi, nm_r e1 (nm_e (And.intro hi (nm_r (congrArg (fun i => upd w i y) hc) hp)))⟩)
theorem sn_putX4 {post : Int32 → SX → Prop} {k : Nat} {y : Int32} (hk : k < 256) (hh : h (256 * 0 + k) = 0) (h16 : ¬ z 0 < 16) (hp : post (-1) (h, w, z, t)) : wpX_put post (h, w, z, t) (nI k) y := by
  have hi : vp_in (nI (256 * 0 + k)) 2048 := sn_xi (by decide) hk
  have hc : (nI (256 * 0 + k)).toNatClampNeg = 256 * 0 + k := sn_xc (by decide) hk
  unfold wpX_put
  refine sn_isKey1 hk (br_f sn_one (sn_cell 0 k ⟨hi, ?_⟩))
  rw [hc]
  exact br_t hh (br_f h16 hp)
theorem sn_putY1 {post : Int32 → SY → Prop} {x y : Int32} (hx : x < 0 ∨ nI 256 ≤ x) (hp : post (-1) (U, H, W)) : wpY_put post (U, H, W) x y := by
  unfold wpY_put
  exact sn_bad1 hx (br_f sn_one hp)
theorem sn_putY5 {post : Int32 → SY → Prop} {k : Nat} {y : Int32} (hk : k < 256) (hp : post (nI (sn_c (upd H (256 * 7 + k) 1) (256 * 7) 256)) (U, upd H (256 * 7 + k) 1, upd W (256 * 7 + k) y)) : wY_put_33 post (nI k) y U H W := by
  have e1 : upd H (1792 + nI k).toNatClampNeg (vp_nar .boolean 1) = upd H (256 * 7 + k) 1 := by rw [sn_nar1, sn_zc hk]
  have e2 : upd W (1792 + nI k).toNatClampNeg y = upd W (256 * 7 + k) y := by rw [sn_zc hk]
  exact And.intro (sn_zi hk) (nm_r e1 ⟨sn_zi hk, nm_r e2 (sn_cnt (m := 7) (by decide) hp)⟩)
theorem sn_putY2 {post : Int32 → SY → Prop} {k : Nat} {y : Int32} (hk : k < 256) (hh : ¬ H (256 * 7 + k) = 0) (hp : post (nI (sn_c (upd H (256 * 7 + k) 1) (256 * 7) 256)) (U, upd H (256 * 7 + k) 1, upd W (256 * 7 + k) y)) : wpY_put post (U, H, W) (nI k) y := by
  have hh' : ¬ H (1792 + nI k).toNatClampNeg = 0 := by rw [sn_zc hk]; exact hh
  unfold wpY_put
  exact sn_bad0 hk (br_t rfl ⟨sn_zi hk, br_f hh' (sn_putY5 hk hp)⟩)
theorem sn_putY3 {post : Int32 → SY → Prop} {k : Nat} {y : Int32} (hk : k < 256) (hh : H (256 * 7 + k) = 0) (h16 : sn_c H (256 * 7) 256 < 16) (hp : post (nI (sn_c (upd H (256 * 7 + k) 1) (256 * 7) 256)) (U, upd H (256 * 7 + k) 1, upd W (256 * 7 + k) y)) : wpY_put post (U, H, W) (nI k) y := by
  have hh' : H (1792 + nI k).toNatClampNeg = 0 := by rw [sn_zc hk]; exact hh
  have hn : ¬ nI (sn_c H (256 * 7) 256) = nI 16 := by
    rw [nI_eq (by omega) (by decide)]
    omega
  unfold wpY_put
  exact sn_bad0 hk (br_t rfl ⟨sn_zi hk, br_t hh' (sn_cnt (m := 7) (by decide) (br_f hn (sn_putY5 hk hp)))⟩)
theorem sn_putY4 {post : Int32 → SY → Prop} {k : Nat} {y : Int32} (hk : k < 256) (hh : H (256 * 7 + k) = 0) (h16 : sn_c H (256 * 7) 256 = 16) (hp : post (-1) (U, H, W)) : wpY_put post (U, H, W) (nI k) y := by
  have hh' : H (1792 + nI k).toNatClampNeg = 0 := by rw [sn_zc hk]; exact hh
  have hn : nI (sn_c H (256 * 7) 256) = 16 := by
    rw [h16]
    rfl
  unfold wpY_put
  exact sn_bad0 hk (br_t rfl ⟨sn_zi hk, br_t hh' (sn_cnt (m := 7) (by decide) (br_t hn hp))⟩)
/-! remove -/
theorem sn_rmX1 {post : Int32 → SX → Prop} {x : Int32} (hx : x < 0 ∨ nI 256 ≤ x) (hp : post (-1) (h, w, z, t)) : wpX_remove post (h, w, z, t) x := by
  unfold wpX_remove
  exact sn_rh0 hx (br_t rfl hp)
theorem sn_rmX2 {post : Int32 → SX → Prop} {k : Nat} (hk : k < 256) (p0 : h (256 * 0 + k) = 0 → post (-1) (h, w, z, t)) (p1 : ¬ h (256 * 0 + k) = 0 → post (upd z 0 (z 0 - 1) 0) (upd h (256 * 0 + k) 0, w, upd z 0 (z 0 - 1), t)) : wpX_remove post (h, w, z, t) (nI k) := by
  have hi : vp_in (nI (256 * 0 + k)) 2048 := sn_xi (by decide) hk
  have hc : (nI (256 * 0 + k)).toNatClampNeg = 256 * 0 + k := sn_xc (by decide) hk
  have e1 : upd h (nI (256 * 0 + k)).toNatClampNeg (vp_nar .boolean 0) = upd h (256 * 0 + k) 0 := by rw [sn_nar0, hc]
  unfold wpX_remove
  exact sn_rh (r := 0) (by decide) hk (fun e => br_t rfl (p0 e)) (fun e => br_f sn_one (sn_cell 0 k ⟨hi, nm_r e1 (nm_e (p1 e))⟩))
theorem sn_rmY1 {post : Int32 → SY → Prop} {x : Int32} (hx : x < 0 ∨ nI 256 ≤ x) (hp : post (-1) (U, H, W)) : wpY_remove post (U, H, W) x := by
  unfold wpY_remove
  exact sn_bad1 hx (br_f sn_one hp)
theorem sn_rmY2 {post : Int32 → SY → Prop} {k : Nat} (hk : k < 256) (p0 : H (256 * 7 + k) = 0 → post (-1) (U, H, W)) (p1 : ¬ H (256 * 7 + k) = 0 → post (nI (sn_c (upd H (256 * 7 + k) 0) (256 * 7) 256)) (U, upd H (256 * 7 + k) 0, W)) : wpY_remove post (U, H, W) (nI k) := by
  have e1 : upd H (256 * 7 + k) (vp_nar .boolean 0) = upd H (256 * 7 + k) 0 := by rw [sn_nar0]
  unfold wpY_remove
  refine sn_bad0 hk (br_t rfl ⟨sn_zi hk, ?_⟩)
  rw [sn_zc hk]
  exact br_c p0 (fun e => ⟨sn_zi hk, nm_r e1 (sn_cnt (m := 7) (by decide) (p1 e))⟩)
/-! commit -/
theorem sn_cmX0 {post : Int32 → SX → Prop} (hl : ∀ i, i < 7 → ¬ t i = 0) (hp : post (-1) (h, w, z, t)) : wpX_commit post (h, w, z, t) := by
  unfold wpX_commit
  refine sn_skip (fun n x => wX_commit_2 post h w z t n x) 7 1 (fun n j hj hv => ?_) (br_t (nI_le (a := 7) (b := 7) (by decide) (by decide)) hp)
  have e : ¬ t (nI j).toNatClampNeg = 0 := by rw [nI_clamp (by omega)]; exact hl j hj
  exact br_f (nI_ge (b := 7) hj (by decide)) ⟨vp_in_nI hj (by decide), br_f e (nm_r (nI_1 j) hv)⟩
theorem sn_cmX1 {post : Int32 → SX → Prop} {s : Nat} (hs : s < 7) (h0 : t s = 0) (hl : ∀ i, i < s → ¬ t i = 0) (hB : sn_B h) (hp : ∀ h' w' : Nat → Int32, sn_P h h' (sn_r 7) (sn_r s) 256 → sn_P w w' (sn_r 7) (sn_r s) 256 → post (nI s) (h', w', upd z (sn_r s) (z (sn_r 7)), upd t s 1)) : wpX_commit post (h, w, z, t) := by
  have e0 : t (nI s).toNatClampNeg = 0 := by rw [nI_clamp (by omega)]; exact h0
  have hr : sn_r 7 ≠ sn_r s := by rw [sn_rs hs, sn_r7]; omega
  have e1 : upd t (nI s).toNatClampNeg (vp_nar .boolean 1) = upd t s 1 := by rw [sn_nar1, nI_clamp (by omega)]
  unfold wpX_commit
  refine sn_skip (fun n x => wX_commit_2 post h w z t n x) s 1 (fun n j hj hv => ?_) ?_
  · have e : ¬ t (nI j).toNatClampNeg = 0 := by rw [nI_clamp (by omega)]; exact hl j hj
    exact br_f (nI_ge (b := 7) (by omega) (by decide)) ⟨vp_in_nI (by omega) (by decide), br_f e (nm_r (nI_1 j) hv)⟩
  · refine br_f (nI_ge (b := 7) hs (by decide)) ⟨vp_in_nI hs (by decide), br_t e0 (sn_rowS hs ?_)⟩
    exact sn_cpX (r1 := sn_r 7) (by decide) (sn_r8 (by omega)) hr hB (fun h' w' p1 p2 => And.intro (vp_in_nI hs (by decide)) (nm_r e1 (hp h' w' p1 p2)))
theorem sn_cmY0 {post : Int32 → SY → Prop} (hl : ∀ i, i < 7 → ¬ U i = 0) (hp : post (-1) (U, H, W)) : wpY_commit post (U, H, W) := by
  unfold wpY_commit
  refine sn_skip (fun n x => wY_commit_2 post U H W n x) 7 1 (fun n j hj hv => ?_) (br_t (nI_le (a := 7) (b := 7) (by decide) (by decide)) hp)
  have e : ¬ U (nI j).toNatClampNeg = 0 := by rw [nI_clamp (by omega)]; exact hl j hj
  exact br_f (nI_ge (b := 7) hj (by decide)) ⟨vp_in_nI (by omega) (by decide), br_f e (nm_r (nI_1 j) hv)⟩
theorem sn_cmY1 {post : Int32 → SY → Prop} {s : Nat} (hs : s < 7) (h0 : U s = 0) (hl : ∀ i, i < s → ¬ U i = 0) (hB : sn_B H) (hp : ∀ H' W' : Nat → Int32, sn_P H H' 7 s 256 → sn_P W W' 7 s 256 → post (nI s) (upd U s 1, H', W')) : wpY_commit post (U, H, W) := by
  have e0 : U (nI s).toNatClampNeg = 0 := by rw [nI_clamp (by omega)]; exact h0
  have e1 : upd U (nI s).toNatClampNeg (vp_nar .boolean 1) = upd U s 1 := by rw [sn_nar1, nI_clamp (by omega)]
  unfold wpY_commit
  refine sn_skip (fun n x => wY_commit_2 post U H W n x) s 1 (fun n j hj hv => ?_) ?_
  · have e : ¬ U (nI j).toNatClampNeg = 0 := by rw [nI_clamp (by omega)]; exact hl j hj
    exact br_f (nI_ge (b := 7) (by omega) (by decide)) ⟨vp_in_nI (by omega) (by decide), br_f e (nm_r (nI_1 j) hv)⟩
  · refine br_f (nI_ge (b := 7) hs (by decide)) ⟨vp_in_nI (by omega) (by decide), br_t e0 ⟨vp_in_nI (by omega) (by decide), nm_r e1 ?_⟩⟩
    exact sn_cpY (r1 := 7) (by decide) (by omega) (by omega) hB (fun H' W' p1 p2 => hp H' W' p1 p2)
/-! restore, drop -/
theorem sn_rsX0 {post : Int32 → SX → Prop} {x : Int32} (hx : sn_no t x) (hp : post (-1) (h, w, z, t)) : wpX_restore post (h, w, z, t) x := by
  unfold wpX_restore
  exact sn_tk0 hx (br_t rfl hp)
theorem sn_rsX1 {post : Int32 → SX → Prop} {s : Nat} (hs : s < 7) (e : ¬ t s = 0) (hB : sn_B h) (hp : ∀ h' w' : Nat → Int32, sn_P h h' (sn_r s) (sn_r 7) 256 → sn_P w w' (sn_r s) (sn_r 7) 256 → post (upd z (sn_r 7) (z (sn_r s)) 0) (h', w', upd z (sn_r 7) (z (sn_r s)), t)) : wpX_restore post (h, w, z, t) (nI s) := by
  have hr : sn_r s ≠ sn_r 7 := by rw [sn_rs hs, sn_r7]; omega
  unfold wpX_restore
  refine sn_tk1 hs e (br_f sn_one (sn_rowS hs ?_))
  exact sn_cpX (r2 := sn_r 7) (sn_r8 (by omega)) (by decide) hr hB (fun h' w' p1 p2 => hp h' w' p1 p2)
theorem sn_rsY0 {post : Int32 → SY → Prop} {x : Int32} (hx : sn_no U x) (hp : post (-1) (U, H, W)) : wpY_restore post (U, H, W) x := by
  unfold wpY_restore
  exact sn_fr1 hx (br_f sn_one hp)
theorem sn_rsY1 {post : Int32 → SY → Prop} {s : Nat} (hs : s < 7) (e : ¬ U s = 0) (hB : sn_B H) (hp : ∀ H' W' : Nat → Int32, sn_P H H' s 7 256 → sn_P W W' s 7 256 → post (nI (sn_c H' (256 * 7) 256)) (U, H', W')) : wpY_restore post (U, H, W) (nI s) := by
  unfold wpY_restore
  refine sn_fr0 hs e (br_t rfl ?_)
  exact sn_cpY (r2 := 7) (by omega) (by decide) (by omega) hB (fun H' W' p1 p2 => sn_cnt (m := 7) (by decide) (hp H' W' p1 p2))
theorem sn_dpX0 {post : Int32 → SX → Prop} {x : Int32} (hx : sn_no t x) (hp : post (-1) (h, w, z, t)) : wpX_drop post (h, w, z, t) x := by
  unfold wpX_drop
  exact sn_tk0 hx (br_t rfl hp)
theorem sn_dpX1 {post : Int32 → SX → Prop} {s : Nat} (hs : s < 7) (e : ¬ t s = 0) (hp : post 0 (h, w, z, upd t s 0)) : wpX_drop post (h, w, z, t) (nI s) := by
  have e1 : upd t (nI s).toNatClampNeg (vp_nar .boolean 0) = upd t s 0 := by rw [sn_nar0, nI_clamp (by omega)]
  unfold wpX_drop
  exact sn_tk1 hs e (br_f sn_one ⟨vp_in_nI hs (by decide), nm_r e1 hp⟩)
theorem sn_dpY0 {post : Int32 → SY → Prop} {x : Int32} (hx : sn_no U x) (hp : post (-1) (U, H, W)) : wpY_drop post (U, H, W) x := by
  unfold wpY_drop
  exact sn_fr1 hx (br_f sn_one hp)
theorem sn_dpY1 {post : Int32 → SY → Prop} {s : Nat} (hs : s < 7) (e : ¬ U s = 0) (hp : post 0 (upd U s 0, H, W)) : wpY_drop post (U, H, W) (nI s) := by
  have e1 : upd U (nI s).toNatClampNeg (vp_nar .boolean 0) = upd U s 0 := by rw [sn_nar0, nI_clamp (by omega)]
  unfold wpY_drop
  exact sn_fr0 hs e (br_t rfl ⟨vp_in_nI (by omega) (by decide), nm_r e1 hp⟩)
end
end
section
theorem pk_least (P : Nat → Prop) (h : ∃ k, P k) : ∃ k, P k ∧ ∀ j, j < k → ¬ P j := by
  obtain ⟨k, hk⟩ := h
  induction k using Nat.strongRecOn with
  | ind k ih =>
    by_cases e : ∃ j, j < k ∧ P j
    · obtain ⟨j, hj, pj⟩ := e
      exact ih j hj pj
    · exact ⟨k, hk, fun j hj pj => e ⟨j, hj, pj⟩⟩
def i_Rel (k : Nat) (u : SX) (v : SY) : Prop := sn_R u.1 u.2.1 u.2.2.1 u.2.2.2 v.1 v.2.1 v.2.2
theorem i_up {k : Nat} {u : SX} {v : SY} (h : i_Rel k u v) : i_Rel (k + 4) u v := h
theorem i_vc0 : wpX_init (fun u => wpY_init (fun v => i_Rel 0 u v)) := by
  unfold wpX_init wpY_init
  exact nm_r (e' := upd (fun _ => 0) 7 1) (congrArg (fun x => upd (fun _ => 0) 7 x) sn_nar1) sn_R0
theorem i_vc_put {k : Nat} {u : SX} {v : SY} (I : i_Rel k u v) (hk : k + 4 ≤ 2048) (v1 : Int32) (v2 : Int32) : wpX_put (fun r u' => wpY_put (fun r' v' => r' = r ∧ i_Rel (k + 4) u' v') v v1 v2) u v1 v2 := by
  obtain ⟨h, w, z, t⟩ := u
  obtain ⟨U, H, W⟩ := v
  have R : sn_R h w z t U H W := I
  obtain ⟨h1, h2, h3, h4, h5, h6, h7, h8⟩ := id R
  obtain ⟨hz, h16⟩ := h3 7 (by decide)
  have hz0 : z 0 = nI (sn_c H (256 * 7) 256) := hz
  rcases sn_key v1 with hx | ⟨j, hj, rfl⟩
  · exact sn_putX1 hx (sn_putY1 hx ⟨rfl, R⟩)
  · have hh : h (256 * 0 + j) = H (256 * 7 + j) := h1 7 j (by decide) hj
    by_cases e : H (256 * 7 + j) = 0
    · by_cases e16 : sn_c H (256 * 7) 256 < 16
      · have eX : z 0 < 16 := by
          rw [hz0]
          exact nI_lt (b := 16) e16 (by decide)
        have ez : z 0 + 1 = nI (sn_c H (256 * 7) 256 + 1) := by rw [hz0, nI_1]
        have er : nI (sn_c (upd H (256 * 7 + j) 1) (256 * 7) 256) = upd z 0 (z 0 + 1) 0 := by
          rw [pk_us, ez, sn_c_set e sn_one 256 hj]
        have R' : sn_R (upd h (256 * 0 + j) 1) (upd w (256 * 0 + j) v2) (upd z 0 (z 0 + 1)) t U (upd H (256 * 7 + j) 1) (upd W (256 * 7 + j) v2) := by
          rw [ez]
          exact sn_Rv (sn_Ra R hj e e16) hj v2
        exact sn_putX3 hj (hh.trans e) eX (sn_putY3 hj e e16 ⟨er, R'⟩)
      · have eX : ¬ z 0 < 16 := by
          rw [hz0]
          exact nI_nlt (b := 16) (by omega) (by omega)
        exact sn_putX4 hj (hh.trans e) eX (sn_putY4 hj e (by omega) ⟨rfl, R⟩)
    · have e1 : H (256 * 7 + j) = 1 := (h6 _).resolve_left e
      have eu : upd H (256 * 7 + j) 1 = H := sn_id e1
      refine sn_putX2 hj (fun c => e (hh.symm.trans c)) (sn_putY2 hj e ?_)
      rw [eu]
      exact ⟨hz0.symm, sn_Rv R hj v2⟩
theorem i_vc_remove {k : Nat} {u : SX} {v : SY} (I : i_Rel k u v) (hk : k + 4 ≤ 2048) (v1 : Int32) : wpX_remove (fun r u' => wpY_remove (fun r' v' => r' = r ∧ i_Rel (k + 4) u' v') v v1) u v1 := by
  obtain ⟨h, w, z, t⟩ := u
  obtain ⟨U, H, W⟩ := v
  have R : sn_R h w z t U H W := I
  obtain ⟨h1, h2, h3, h4, h5, h6, h7, h8⟩ := id R
  obtain ⟨hz, h16⟩ := h3 7 (by decide)
  have hz0 : z 0 = nI (sn_c H (256 * 7) 256) := hz
  rcases sn_key v1 with hx | ⟨j, hj, rfl⟩
  · exact sn_rmX1 hx (sn_rmY1 hx ⟨rfl, R⟩)
  · have hh : h (256 * 0 + j) = H (256 * 7 + j) := h1 7 j (by decide) hj
    refine sn_rmX2 hj (fun e => ?_) (fun e => ?_)
    · exact sn_rmY2 hj (fun _ => ⟨rfl, R⟩) (fun n => absurd (hh.symm.trans e) n)
    · have e' : ¬ H (256 * 7 + j) = 0 := fun c => e (hh.trans c)
      refine sn_rmY2 hj (fun n => absurd n e') (fun _ => ?_)
      have ec := sn_c_clr e' 256 hj
      have ez : z 0 - 1 = nI (sn_c (upd H (256 * 7 + j) 0) (256 * 7) 256) := by rw [hz0, ← ec, nI_pred]
      rw [ez, pk_us]
      exact ⟨rfl, sn_Rr R hj e' ec.symm⟩
theorem i_vc_commit {k : Nat} {u : SX} {v : SY} (I : i_Rel k u v) (hk : k + 4 ≤ 2048) : wpX_commit (fun r u' => wpY_commit (fun r' v' => r' = r ∧ i_Rel (k + 4) u' v') v) u := by
  obtain ⟨h, w, z, t⟩ := u
  obtain ⟨U, H, W⟩ := v
  have R : sn_R h w z t U H W := I
  obtain ⟨h1, h2, h3, h4, h5, h6, h7, h8⟩ := id R
  by_cases hx : ∃ s, s < 7 ∧ t s = 0
  · obtain ⟨s, ⟨hs, e⟩, hl⟩ := pk_least (fun s => s < 7 ∧ t s = 0) hx
    have hlt : ∀ i, i < s → ¬ t i = 0 := fun i hi c => hl i hi ⟨by omega, c⟩
    refine sn_cmX1 hs e hlt h5 (fun h' w' p1 p2 => ?_)
    refine sn_cmY1 hs ((h4 s hs).symm.trans e) (fun i hi c => hlt i hi ((h4 i (by omega)).trans c)) h6 (fun H' W' p3 p4 => ?_)
    exact ⟨rfl, sn_Rt (sn_Rc R (m1 := 7) (m2 := s) (by decide) p1 p2 p3 p4) s (Or.inr rfl)⟩
  · have hlt : ∀ i, i < 7 → ¬ t i = 0 := fun i hi c => hx ⟨i, hi, c⟩
    exact sn_cmX0 hlt (sn_cmY0 (fun i hi c => hlt i hi ((h4 i hi).trans c)) ⟨rfl, R⟩)
theorem i_vc_restore {k : Nat} {u : SX} {v : SY} (I : i_Rel k u v) (hk : k + 4 ≤ 2048) (v1 : Int32) : wpX_restore (fun r u' => wpY_restore (fun r' v' => r' = r ∧ i_Rel (k + 4) u' v') v v1) u v1 := by
  obtain ⟨h, w, z, t⟩ := u
  obtain ⟨U, H, W⟩ := v
  have R : sn_R h w z t U H W := I
  obtain ⟨h1, h2, h3, h4, h5, h6, h7, h8⟩ := id R
  rcases sn_slot t v1 with hx | ⟨s, hs, rfl, e⟩
  · exact sn_rsX0 hx (sn_rsY0 (sn_noU h4 hx) ⟨rfl, R⟩)
  · refine sn_rsX1 hs e h5 (fun h' w' p1 p2 => ?_)
    refine sn_rsY1 hs (fun c => e ((h4 s hs).trans c)) h6 (fun H' W' p3 p4 => ?_)
    have R' := sn_Rc R (m1 := s) (m2 := 7) (by omega) p1 p2 p3 p4
    exact ⟨((R'.2.2.1 7 (by decide)).1).symm, R'⟩
theorem i_vc_drop {k : Nat} {u : SX} {v : SY} (I : i_Rel k u v) (hk : k + 4 ≤ 2048) (v1 : Int32) : wpX_drop (fun r u' => wpY_drop (fun r' v' => r' = r ∧ i_Rel (k + 4) u' v') v v1) u v1 := by
  obtain ⟨h, w, z, t⟩ := u
  obtain ⟨U, H, W⟩ := v
  have R : sn_R h w z t U H W := I
  obtain ⟨h1, h2, h3, h4, h5, h6, h7, h8⟩ := id R
  rcases sn_slot t v1 with hx | ⟨s, hs, rfl, e⟩
  · exact sn_dpX0 hx (sn_dpY0 (sn_noU h4 hx) ⟨rfl, R⟩)
  · exact sn_dpX1 hs e (sn_dpY1 hs (fun c => e ((h4 s hs).trans c)) ⟨rfl, sn_Rt R s (Or.inl rfl)⟩)
theorem i_vc_get {k : Nat} {u : SX} {v : SY} (I : i_Rel k u v) (hk : k + 4 ≤ 2048) (v1 : Int32) (v2 : Int32) : wpX_get (fun r => wpY_get (fun r' => r' = r ∧ i_Rel (k + 4) u v) v v1 v2) u v1 v2 := by
  obtain ⟨h, w, z, t⟩ := u
  obtain ⟨U, H, W⟩ := v
  have R : sn_R h w z t U H W := I
  obtain ⟨h1, h2, h3, h4, h5, h6, h7, h8⟩ := id R
  rcases sn_map (h := h) (w := w) (z := z) (H := H) (W := W) h4 v1 with ⟨hX, hY⟩ | ⟨m, hm, hX, hr, hY⟩
  · unfold wpX_get
    refine hX _ (br_t rfl ?_)
    unfold wpY_get
    exact hY _ (br_t (by decide) ⟨rfl, R⟩)
  · have rm := sn_r8 hm
    have hm0 : ¬ nI m < 0 := nI_pos (by omega)
    unfold wpX_get
    refine hX _ (br_f sn_one (hr _ ?_))
    rcases sn_key v2 with hx | ⟨j, hj, rfl⟩
    · refine sn_rh0 hx (br_t rfl ?_)
      unfold wpY_get
      exact hY _ (br_f hm0 (sn_bad1 hx (br_f sn_one ⟨rfl, R⟩)))
    · have hh : h (256 * sn_r m + j) = H (256 * m + j) := h1 m j hm hj
      have hw : w (256 * sn_r m + j) = W (256 * m + j) := h2 m j hm hj
      refine sn_rh rm hj (fun e => br_t rfl ?_) (fun e => br_f sn_one (sn_cell _ j ⟨sn_xi rm hj, ?_⟩))
      · unfold wpY_get
        refine hY _ (br_f hm0 (sn_bad0 hj (br_t rfl ⟨sn_yi hm hj, ?_⟩)))
        rw [sn_yc hm hj]
        exact br_t (hh.symm.trans e) ⟨rfl, R⟩
      · unfold wpY_get
        refine hY _ (br_f hm0 (sn_bad0 hj (br_t rfl ⟨sn_yi hm hj, ?_⟩)))
        rw [sn_yc hm hj, sn_xc rm hj]
        exact br_f (fun c => e (hh.trans c)) ⟨sn_yi hm hj, hw.symm, R⟩
theorem i_vc_has {k : Nat} {u : SX} {v : SY} (I : i_Rel k u v) (hk : k + 4 ≤ 2048) (v1 : Int32) (v2 : Int32) : wpX_has (fun r => wpY_has (fun r' => r' = r ∧ i_Rel (k + 4) u v) v v1 v2) u v1 v2 := by
  obtain ⟨h, w, z, t⟩ := u
  obtain ⟨U, H, W⟩ := v
  have R : sn_R h w z t U H W := I
  obtain ⟨h1, h2, h3, h4, h5, h6, h7, h8⟩ := id R
  rcases sn_map (h := h) (w := w) (z := z) (H := H) (W := W) h4 v1 with ⟨hX, hY⟩ | ⟨m, hm, hX, hr, hY⟩
  · unfold wpX_has
    refine hX _ (br_t rfl ?_)
    unfold wpY_has
    exact hY _ (br_f (by decide) ⟨rfl, R⟩)
  · have rm := sn_r8 hm
    have hm0 : 0 ≤ nI m := nI_pos' (by omega)
    unfold wpX_has
    refine hX _ (br_f sn_one (hr _ ?_))
    rcases sn_key v2 with hx | ⟨j, hj, rfl⟩
    · refine sn_rh0 hx (br_t rfl ?_)
      unfold wpY_has
      exact hY _ (br_t hm0 (sn_bad1 hx (br_f sn_one ⟨rfl, R⟩)))
    · have hh : h (256 * sn_r m + j) = H (256 * m + j) := h1 m j hm hj
      refine sn_rh rm hj (fun e => br_t rfl ?_) (fun e => br_f sn_one ?_)
      · unfold wpY_has
        refine hY _ (br_t hm0 (sn_bad0 hj (br_t rfl ⟨sn_yi hm hj, ?_⟩)))
        rw [sn_yc hm hj]
        exact br_t (hh.symm.trans e) ⟨rfl, R⟩
      · unfold wpY_has
        refine hY _ (br_t hm0 (sn_bad0 hj (br_t rfl ⟨sn_yi hm hj, ?_⟩)))
        rw [sn_yc hm hj]
        exact br_f (fun c => e (hh.trans c)) ⟨rfl, R⟩
theorem i_vc_size {k : Nat} {u : SX} {v : SY} (I : i_Rel k u v) (hk : k + 4 ≤ 2048) (v1 : Int32) : wpX_size (fun r => wpY_size (fun r' => r' = r ∧ i_Rel (k + 4) u v) v v1) u v1 := by
  obtain ⟨h, w, z, t⟩ := u
  obtain ⟨U, H, W⟩ := v
  have R : sn_R h w z t U H W := I
  obtain ⟨h1, h2, h3, h4, h5, h6, h7, h8⟩ := id R
  rcases sn_map (h := h) (w := w) (z := z) (H := H) (W := W) h4 v1 with ⟨hX, hY⟩ | ⟨m, hm, hX, hr, hY⟩
  · unfold wpX_size
    refine hX _ (br_t rfl ?_)
    unfold wpY_size
    exact hY _ (br_f (by decide) ⟨rfl, R⟩)
  · have rm := sn_r8 hm
    have hm0 : 0 ≤ nI m := nI_pos' (by omega)
    have ez : nI (sn_c H (256 * m) 256) = z (nI (sn_r m)).toNatClampNeg := by
      rw [nI_clamp (by omega)]
      exact ((h3 m hm).1).symm
    unfold wpX_size
    refine hX _ (br_f sn_one (hr _ ⟨vp_in_nI rm (by decide), ?_⟩))
    unfold wpY_size
    exact hY _ (br_t hm0 (sn_cnt hm ⟨ez, R⟩))
theorem i_vc_next {k : Nat} {u : SX} {v : SY} (I : i_Rel k u v) (hk : k + 4 ≤ 2048) (v1 : Int32) (v2 : Int32) : wpX_next (fun r => wpY_next (fun r' => r' = r ∧ i_Rel (k + 4) u v) v v1 v2) u v1 v2 := by
  obtain ⟨h, w, z, t⟩ := u
  obtain ⟨U, H, W⟩ := v
  have R : sn_R h w z t U H W := I
  obtain ⟨h1, h2, h3, h4, h5, h6, h7, h8⟩ := id R
  rcases sn_map (h := h) (w := w) (z := z) (H := H) (W := W) h4 v1 with ⟨hX, hY⟩ | ⟨m, hm, hX, hr, hY⟩
  · unfold wpX_next
    refine hX _ (br_t rfl ?_)
    unfold wpY_next
    exact hY _ (br_f (by decide) ⟨rfl, R⟩)
  · have hm0 : 0 ≤ nI m := nI_pos' (by omega)
    obtain ⟨r, sX, sY⟩ := sn_nx (w := w) (z := z) (t := t) (U := U) (W := W) h1 hm v2
    unfold wpX_next
    refine hX _ (br_f sn_one (hr _ (sX _ ?_)))
    unfold wpY_next
    exact hY _ (br_t hm0 (sY _ ⟨rfl, R⟩))
theorem i_vc_nextChange {k : Nat} {u : SX} {v : SY} (I : i_Rel k u v) (hk : k + 4 ≤ 2048) (v1 : Int32) (v2 : Int32) (v3 : Int32) : wpX_nextChange (fun r => wpY_nextChange (fun r' => r' = r ∧ i_Rel (k + 4) u v) v v1 v2 v3) u v1 v2 v3 := by
  obtain ⟨h, w, z, t⟩ := u
  obtain ⟨U, H, W⟩ := v
  have R : sn_R h w z t U H W := I
  obtain ⟨h1, h2, h3, h4, h5, h6, h7, h8⟩ := id R
  rcases sn_map (h := h) (w := w) (z := z) (H := H) (W := W) h4 v1 with ⟨hX, hY⟩ | ⟨m, hm, hX, hr, hY⟩
  · unfold wpX_nextChange
    refine hX _ (br_t rfl ?_)
    unfold wpY_nextChange
    refine hY _ ?_
    rcases sn_map (h := h) (w := w) (z := z) (H := H) (W := W) h4 v2 with ⟨_, hY2⟩ | ⟨m2, _, _, _, hY2⟩
    · exact hY2 _ (br_t (by decide) ⟨rfl, R⟩)
    · exact hY2 _ (br_t (by decide) ⟨rfl, R⟩)
  · have hm0 : ¬ nI m < 0 := nI_pos (by omega)
    rcases sn_map (h := h) (w := w) (z := z) (H := H) (W := W) h4 v2 with ⟨hX2, hY2⟩ | ⟨m2, hm2, hX2, hr2, hY2⟩
    · unfold wpX_nextChange
      refine hX _ (br_f sn_one (hX2 _ (br_t rfl ?_)))
      unfold wpY_nextChange
      exact hY _ (hY2 _ (br_f hm0 (br_f (by decide) ⟨rfl, R⟩)))
    · have hm20 : 0 ≤ nI m2 := nI_pos' (by omega)
      obtain ⟨r, sX, sY⟩ := sn_nc (z := z) (t := t) (U := U) h1 h2 hm hm2 v3
      unfold wpX_nextChange
      refine hX _ (br_f sn_one (hX2 _ (br_f sn_one (hr _ (hr2 _ (sX _ ?_))))))
      unfold wpY_nextChange
      exact hY _ (hY2 _ (br_f hm0 (br_t hm20 (sY _ ⟨rfl, R⟩))))
theorem i_vc_changes {k : Nat} {u : SX} {v : SY} (I : i_Rel k u v) (hk : k + 4 ≤ 2048) (v1 : Int32) (v2 : Int32) : wpX_changes (fun r => wpY_changes (fun r' => r' = r ∧ i_Rel (k + 4) u v) v v1 v2) u v1 v2 := by
  obtain ⟨h, w, z, t⟩ := u
  obtain ⟨U, H, W⟩ := v
  have R : sn_R h w z t U H W := I
  obtain ⟨h1, h2, h3, h4, h5, h6, h7, h8⟩ := id R
  rcases sn_map (h := h) (w := w) (z := z) (H := H) (W := W) h4 v1 with ⟨hX, hY⟩ | ⟨m, hm, hX, hr, hY⟩
  · unfold wpX_changes
    refine hX _ (br_t rfl ?_)
    unfold wpY_changes
    refine hY _ ?_
    rcases sn_map (h := h) (w := w) (z := z) (H := H) (W := W) h4 v2 with ⟨_, hY2⟩ | ⟨m2, _, _, _, hY2⟩
    · exact hY2 _ (br_t (by decide) ⟨rfl, R⟩)
    · exact hY2 _ (br_t (by decide) ⟨rfl, R⟩)
  · have hm0 : ¬ nI m < 0 := nI_pos (by omega)
    rcases sn_map (h := h) (w := w) (z := z) (H := H) (W := W) h4 v2 with ⟨hX2, hY2⟩ | ⟨m2, hm2, hX2, hr2, hY2⟩
    · unfold wpX_changes
      refine hX _ (br_f sn_one (hX2 _ (br_t rfl ?_)))
      unfold wpY_changes
      exact hY _ (hY2 _ (br_f hm0 (br_f (by decide) ⟨rfl, R⟩)))
    · have hm20 : 0 ≤ nI m2 := nI_pos' (by omega)
      obtain ⟨r, sX, sY⟩ := sn_ch (z := z) (t := t) (U := U) h1 h2 hm hm2 256 0 0 rfl
      unfold wpX_changes
      refine hX _ (br_f sn_one (hX2 _ (br_f sn_one (hr _ (hr2 _ ⟨257, sX _ ?_⟩)))))
      unfold wpY_changes
      exact hY _ (hY2 _ (br_f hm0 (br_t hm20 ⟨257, sY _ ⟨rfl, R⟩⟩)))
end
