theorem pk_us {f : Nat → Int32} {k : Nat} {x : Int32} : upd f k x k = x := if_pos rfl
theorem pk_un {f : Nat → Int32} {k j : Nat} {x : Int32} (h : j ≠ k) : upd f k x j = f j := if_neg h
theorem pk_m1 (n : Nat) : nI (n + 1) + (-1) = nI n := by
  rw [← nI_1, Int32.add_assoc, show (1 : Int32) + (-1) = 0 from rfl, Int32.add_zero]
theorem pk_mul (a b : Nat) : nI a * nI b = nI (a * b) := (Int32.ofNat_mul a b).symm
theorem pk_ix (x : Int32) {n : Nat} (hn : n < 2 ^ 31) : x < 0 ∨ nI n ≤ x ∨ ∃ j : Nat, j < n ∧ x = nI j := by
  by_cases h : x < 0
  · exact Or.inl h
  · obtain ⟨j, hj, rfl⟩ := nI_of h
    by_cases h2 : j < n
    · exact Or.inr (Or.inr ⟨j, h2, rfl⟩)
    · exact Or.inr (Or.inl (nI_le (by omega) hj))
theorem pk_le {x y : Int32} {A B : Prop} (a b : Nat) (f : a ≤ b → A) (g : b < a → B) (hx : x = nI a := by rfl) (hy : y = nI b := by rfl) (ha : a < 2 ^ 31 := by omega) (hb : b < 2 ^ 31 := by omega) : (x ≤ y → A) ∧ (¬ x ≤ y → B) := by
  subst hx hy
  rw [nI_leI ha hb]
  exact ⟨f, fun z => g (by omega)⟩
theorem pk_lt {x y : Int32} {A B : Prop} (a b : Nat) (f : a < b → A) (g : b ≤ a → B) (hx : x = nI a := by rfl) (hy : y = nI b := by rfl) (ha : a < 2 ^ 31 := by omega) (hb : b < 2 ^ 31 := by omega) : (x < y → A) ∧ (¬ x < y → B) := by
  subst hx hy
  rw [nI_ltI ha hb]
  exact ⟨f, fun z => g (by omega)⟩
theorem pk_eq {x y : Int32} {A B : Prop} (a b : Nat) (f : a = b → A) (g : a ≠ b → B) (hx : x = nI a := by rfl) (hy : y = nI b := by rfl) (ha : a < 2 ^ 31 := by omega) (hb : b < 2 ^ 31 := by omega) : (x = y → A) ∧ (¬ x = y → B) := by
  subst hx hy
  rw [nI_eq ha hb]
  exact ⟨f, g⟩
theorem pk_in {x : Int32} (n N : Nat) (h : n < N) (hx : x = nI n := by rfl) (hN : N < 2 ^ 31 := by omega) : vp_in x N := by
  subst hx
  exact vp_in_nI h hN
theorem pk_cl {x : Int32} (n : Nat) (hx : x = nI n := by rfl) (h : n < 2 ^ 31 := by omega) : x.toNatClampNeg = n := by
  subst hx
  exact nI_clamp h
/-- how many of the n cells from b on are not 0 -/
def sn_c (f : Nat → Int32) (b : Nat) : Nat → Nat
  | 0 => 0
  | n + 1 => sn_c f b n + (if f (b + n) = 0 then 0 else 1)
theorem sn_c_s (f : Nat → Int32) (b n : Nat) : sn_c f b (n + 1) = sn_c f b n + (if f (b + n) = 0 then 0 else 1) := rfl
theorem sn_c_t {f : Nat → Int32} {b n : Nat} (h : f (b + n) = 0) : sn_c f b (n + 1) = sn_c f b n := by
  rw [sn_c_s, if_pos h]
  exact Nat.add_zero _
theorem sn_c_f {f : Nat → Int32} {b n : Nat} (h : ¬ f (b + n) = 0) : sn_c f b (n + 1) = sn_c f b n + 1 := by
  rw [sn_c_s, if_neg h]
theorem sn_c_le (f : Nat → Int32) (b : Nat) : ∀ n, sn_c f b n ≤ n := by
  intro n
  induction n with
  | zero => exact Nat.le_refl 0
  | succ n ih =>
    by_cases h : f (b + n) = 0
    · rw [sn_c_t h]; omega
    · rw [sn_c_f h]; omega
theorem sn_c_eq {f g : Nat → Int32} {b c : Nat} : ∀ n, (∀ k, k < n → f (b + k) = g (c + k)) → sn_c f b n = sn_c g c n := by
  intro n
  induction n with
  | zero => intro _; rfl
  | succ n ih =>
    intro h
    rw [sn_c_s, sn_c_s, ih (fun k hk => h k (by omega)), h n (by omega)]
theorem sn_c_set {f : Nat → Int32} {b k : Nat} {x : Int32} (h0 : f (b + k) = 0) (hx : ¬ x = 0) : ∀ n, k < n → sn_c (upd f (b + k) x) b n = sn_c f b n + 1 := by
  intro n
  induction n with
  | zero => intro h; omega
  | succ n ih =>
    intro h
    by_cases e : k = n
    · subst e
      have e1 : sn_c (upd f (b + k) x) b k = sn_c f b k := sn_c_eq k (fun j hj => pk_un (by omega))
      have e2 : ¬ upd f (b + k) x (b + k) = 0 := by rw [pk_us]; exact hx
      rw [sn_c_f e2, sn_c_t h0, e1]
    · rw [sn_c_s, sn_c_s, ih (by omega), pk_un (by omega)]
      omega
theorem sn_c_clr {f : Nat → Int32} {b k : Nat} (h1 : ¬ f (b + k) = 0) : ∀ n, k < n → sn_c (upd f (b + k) 0) b n + 1 = sn_c f b n := by
  intro n
  induction n with
  | zero => intro h; omega
  | succ n ih =>
    intro h
    by_cases e : k = n
    · subst e
      have e1 : sn_c (upd f (b + k) 0) b k = sn_c f b k := sn_c_eq k (fun j hj => pk_un (by omega))
      have e2 : upd f (b + k) 0 (b + k) = 0 := pk_us
      rw [sn_c_t e2, sn_c_f h1, e1]
    · rw [sn_c_s, sn_c_s, ← ih (by omega), pk_un (by omega)]
      omega
theorem sn_c_z {f : Nat → Int32} {b : Nat} : ∀ n, (∀ k, k < n → f (b + k) = 0) → sn_c f b n = 0 := by
  intro n
  induction n with
  | zero => intro _; rfl
  | succ n ih =>
    intro h
    rw [sn_c_t (h n (by omega))]
    exact ih (fun k hk => h k (by omega))
/-- an array of booleans -/
def sn_B (f : Nat → Int32) : Prop := ∀ j, f j = 0 ∨ f j = 1
theorem sn_B0 : sn_B (fun _ => 0) := fun _ => Or.inl rfl
theorem sn_BU {f : Nat → Int32} {k : Nat} {x : Int32} (h : sn_B f) (hx : x = 0 ∨ x = 1) : sn_B (upd f k x) := by
  intro j
  by_cases e : j = k
  · rw [e, pk_us]; exact hx
  · rw [pk_un e]; exact h j
theorem sn_nar0 : vp_nar .boolean 0 = 0 := by rfl
theorem sn_nar1 : vp_nar .boolean 1 = 1 := by rfl
theorem sn_nar {f : Nat → Int32} (h : sn_B f) (j : Nat) : vp_nar .boolean (f j) = f j := by
  rcases h j with e | e
  · rw [e]; exact sn_nar0
  · rw [e]; exact sn_nar1
/-- the component's row of the reference's place m -/
def sn_r (m : Nat) : Nat := if m = 7 then 0 else m + 1
theorem sn_r7 : sn_r 7 = 0 := rfl
theorem sn_rs {s : Nat} (h : s < 7) : sn_r s = s + 1 := if_neg (by omega)
theorem sn_r8 {m : Nat} (h : m < 8) : sn_r m < 8 := by
  unfold sn_r
  split <;> omega
theorem sn_ri {m n : Nat} (h : sn_r m = sn_r n) : m = n := by
  unfold sn_r at h
  split at h <;> split at h <;> omega
theorem sn_ix (r k : Nat) : nI r * 256 + nI k = nI (256 * r + k) := by
  rw [show (256 : Int32) = nI 256 from rfl, pk_mul, nI_add, Nat.mul_comm]
theorem sn_iy (m k : Nat) : 256 * nI m + nI k = nI (256 * m + k) := by
  rw [show (256 : Int32) = nI 256 from rfl, pk_mul, nI_add]
theorem sn_iz (k : Nat) : 1792 + nI k = nI (256 * 7 + k) := by
  rw [show (1792 : Int32) = nI (256 * 7) from rfl, nI_add]
