theorem pk_us {f : Nat → Int32} {k : Nat} {x : Int32} : upd f k x k = x := if_pos rfl
theorem pk_un {f : Nat → Int32} {k j : Nat} {x : Int32} (h : j ≠ k) : upd f k x j = f j := if_neg h
theorem pk_sub {a b : Nat} (h : b ≤ a) : nI a - nI b = nI (a - b) := by
  obtain ⟨c, rfl⟩ : ∃ c, a = c + b := ⟨a - b, by omega⟩
  rw [← nI_add, Int32.add_sub_cancel, Nat.add_sub_cancel]
theorem pk_mul (a b : Nat) : nI a * nI b = nI (a * b) := (Int32.ofNat_mul a b).symm
theorem pk_div {a d : Nat} (ha : a < 2 ^ 31) (h0 : 0 < d) (hd : d < 2 ^ 31) : nI a / nI d = nI (a / d) := by
  apply Int32.toInt_inj.mp
  rw [lg_idiv_nonneg (by rw [nI_toInt ha]; omega) (by rw [nI_toInt hd]; omega), nI_toInt ha, nI_toInt hd, nI_toInt (Nat.lt_of_le_of_lt (Nat.div_le_self a d) ha)]
  first | rfl | exact (Int.natCast_ediv _ _).symm
theorem pk_ix (x : Int32) {n : Nat} (hn : n < 2 ^ 31) : x < 0 ∨ nI n ≤ x ∨ ∃ j : Nat, j < n ∧ x = nI j := by
  by_cases h : x < 0
  · exact Or.inl h
  · obtain ⟨j, hj, rfl⟩ := nI_of h
    by_cases h2 : j < n
    · exact Or.inr (Or.inr ⟨j, h2, rfl⟩)
    · exact Or.inr (Or.inl (nI_le (by omega) hj))
theorem pk_le {x y : Int32} {A B : Prop} (a b : Nat) (f : a ≤ b → A) (g : b < a → B) (hx : x = nI a := by rfl) (hy : y = nI b := by rfl) (ha : a < 2 ^ 31 := by omega) (hb : b < 2 ^ 31 := by omega) : (x ≤ y → A) ∧ (¬ x ≤ y → B) := by
  subst hx hy
  rw [nI_leI ha hb]
  exact ⟨f, fun z => g (by omega)⟩
theorem pk_lt {x y : Int32} {A B : Prop} (a b : Nat) (f : a < b → A) (g : b ≤ a → B) (hx : x = nI a := by rfl) (hy : y = nI b := by rfl) (ha : a < 2 ^ 31 := by omega) (hb : b < 2 ^ 31 := by omega) : (x < y → A) ∧ (¬ x < y → B) := by
  subst hx hy
  rw [nI_ltI ha hb]
  exact ⟨f, fun z => g (by omega)⟩
theorem pk_eq {x y : Int32} {A B : Prop} (a b : Nat) (f : a = b → A) (g : a ≠ b → B) (hx : x = nI a := by rfl) (hy : y = nI b := by rfl) (ha : a < 2 ^ 31 := by omega) (hb : b < 2 ^ 31 := by omega) : (x = y → A) ∧ (¬ x = y → B) := by
  subst hx hy
  rw [nI_eq ha hb]
  exact ⟨f, g⟩
theorem pk_in {x : Int32} (n N : Nat) (h : n < N) (hx : x = nI n := by rfl) (hN : N < 2 ^ 31 := by omega) : vp_in x N := by
  subst hx
  exact vp_in_nI h hN
theorem pk_cl {x : Int32} (n : Nat) (hx : x = nI n := by rfl) (h : n < 2 ^ 31 := by omega) : x.toNatClampNeg = n := by
  subst hx
  exact nI_clamp h
theorem pk_tn {n : Nat} (h : n < 2 ^ 32) : (nI n).toBitVec.toNat = n := Nat.mod_eq_of_lt h
theorem pk_ushr (x s : Int32) (k : Nat) (hs : ((s.toUInt32 &&& Int32.toUInt32 31).toBitVec % 32).toNat = k) : (x.toUInt32 >>> (s.toUInt32 &&& Int32.toUInt32 31)).toInt32.toBitVec.toNat = x.toBitVec.toNat / 2 ^ k := by
  have e : (x.toUInt32 >>> (s.toUInt32 &&& Int32.toUInt32 31)).toInt32.toBitVec = x.toBitVec >>> k := by
    rw [← hs]
    exact UInt32.toBitVec_shiftRight _ _
  rw [e, BitVec.toNat_ushiftRight, Nat.shiftRight_eq_div_pow]
/-- the sum of the n tallies from place b on -/
def qf_S (w : Nat → Nat) (b : Nat) : Nat → Nat
  | 0 => 0
  | n + 1 => qf_S w b n + w (b + n)
/-- the tallies with n at place i -/
def qf_u (w : Nat → Nat) (i n : Nat) : Nat → Nat := fun j => if j = i then n else w j
/-- the array t holds the naturals w -/
def qf_K (w : Nat → Nat) (t : Nat → Int32) : Prop := ∀ j, t j = nI (w j)
/-- a size -/
def qf_M (m : Nat) : Prop := m = 8 ∨ m = 16 ∨ m = 32 ∨ m = 64
/-- each filter's count is the sum of its tallies, at most 63; its size is one of the four -/
def qf_R (w : Nat → Nat) (c s : Nat → Int32) : Prop := ∀ f, f < 2 → c f = nI (qf_S w (256 * f) 256) ∧ qf_S w (256 * f) 256 ≤ 63 ∧ ∃ m, s f = nI m ∧ qf_M m
/-- the same tallies and sizes on both sides -/
def i_Rel (_ : Nat) (u : SX) (v : SY) : Prop := ∃ (t c s : Nat → Int32) (w : Nat → Nat), u = (t, c, s) ∧ v = (t, s) ∧ qf_K w t ∧ qf_R w c s
theorem i_up {k : Nat} {u : SX} {v : SY} (h : i_Rel k u v) : i_Rel (k + 3) u v := h
theorem qf_mk {k : Nat} {t c s : Nat → Int32} (w : Nat → Nat) (K : qf_K w t) (R : qf_R w c s) : i_Rel k (t, c, s) (t, s) := ⟨t, c, s, w, rfl, rfl, K, R⟩
theorem qf_Mb {m : Nat} (h : qf_M m) : 8 ≤ m ∧ m ≤ 64 := by
  rcases h with h | h | h | h <;> omega
theorem qf_Ku {w : Nat → Nat} {t : Nat → Int32} (K : qf_K w t) (i n : Nat) : qf_K (qf_u w i n) (upd t i (nI n)) := by
  intro j
  unfold upd qf_u
  by_cases h : j = i
  · rw [if_pos h, if_pos h]
  · rw [if_neg h, if_neg h]; exact K j
theorem qf_us (w : Nat → Nat) (i n : Nat) : qf_u w i n i = n := if_pos rfl
theorem qf_un {w : Nat → Nat} {i n j : Nat} (h : j ≠ i) : qf_u w i n j = w j := if_neg h
theorem qf_Sc {w z : Nat → Nat} {b : Nat} : ∀ n, (∀ j, j < n → z (b + j) = w (b + j)) → qf_S z b n = qf_S w b n := by
  intro n
  induction n with
  | zero => intro _; rfl
  | succ n ih =>
    intro h
    have e1 := ih (fun j hj => h j (by omega))
    have e2 := h n (by omega)
    show qf_S z b n + z (b + n) = qf_S w b n + w (b + n)
    omega
theorem qf_S0 {z : Nat → Nat} {b : Nat} : ∀ n, (∀ j, j < n → z (b + j) = 0) → qf_S z b n = 0 := by
  intro n
  induction n with
  | zero => intro _; rfl
  | succ n ih =>
    intro h
    have e1 := ih (fun j hj => h j (by omega))
    have e2 := h n (by omega)
    show qf_S z b n + z (b + n) = 0
    omega
theorem qf_Sa {w z : Nat → Nat} {b d : Nat} : ∀ n, (∀ j, j < n → z (b + j) = w (b + j) + w (d + j)) → qf_S z b n = qf_S w b n + qf_S w d n := by
  intro n
  induction n with
  | zero => intro _; rfl
  | succ n ih =>
    intro h
    have e1 := ih (fun j hj => h j (by omega))
    have e2 := h n (by omega)
    show qf_S z b n + z (b + n) = (qf_S w b n + w (b + n)) + (qf_S w d n + w (d + n))
    omega
theorem qf_Sg {w : Nat → Nat} {b p : Nat} : ∀ n, p < n → w (b + p) ≤ qf_S w b n := by
  intro n
  induction n with
  | zero => intro h; omega
  | succ n ih =>
    intro h
    show w (b + p) ≤ qf_S w b n + w (b + n)
    by_cases e : p = n
    · subst e; omega
    · have := ih (by omega); omega
theorem qf_Su {w : Nat → Nat} {b p x : Nat} : ∀ n, p < n → qf_S (qf_u w (b + p) x) b n + w (b + p) = qf_S w b n + x := by
  intro n
  induction n with
  | zero => intro h; omega
  | succ n ih =>
    intro h
    show qf_S (qf_u w (b + p) x) b n + qf_u w (b + p) x (b + n) + w (b + p) = qf_S w b n + w (b + n) + x
    by_cases e : p = n
    · subst e
      rw [qf_us, qf_Sc (z := qf_u w (b + p) x) (w := w) p (fun j hj => qf_un (by omega))]
      omega
    · have h2 := ih (by omega)
      rw [qf_un (i := b + p) (j := b + n) (by omega)]
      omega
/-- a filter's tally becomes x: its sum goes with it, the other's stays -/
theorem qf_Ro {w : Nat → Nat} {f g p x : Nat} (hf : f < 2) (hg : g < 2) (hp : p < 256) (h : g ≠ f) : qf_S (qf_u w (256 * f + p) x) (256 * g) 256 = qf_S w (256 * g) 256 :=
  qf_Sc 256 (fun j hj => qf_un (by omega))
theorem qf_Ru {w : Nat → Nat} {c s : Nat → Int32} {f p x n : Nat} (R : qf_R w c s) (hf : f < 2) (hp : p < 256) (hn : n + w (256 * f + p) = qf_S w (256 * f) 256 + x) (h6 : n ≤ 63) : qf_R (qf_u w (256 * f + p) x) (upd c f (nI n)) s := by
  intro g hg
  by_cases e : g = f
  · subst e
    have h := qf_Su (w := w) (b := 256 * g) (p := p) (x := x) 256 hp
    have h2 : qf_S (qf_u w (256 * g + p) x) (256 * g) 256 = n := by omega
    rw [h2]
    exact ⟨pk_us, h6, (R g hg).2.2⟩
  · rw [pk_un e, qf_Ro hf hg hp e]
    exact R g hg
theorem qf_Rs {w : Nat → Nat} {c s : Nat → Int32} {f m : Nat} (R : qf_R w c s) (hm : qf_M m) : qf_R w c (upd s f (nI m)) := by
  intro g hg
  obtain ⟨a, b, d⟩ := R g hg
  refine ⟨a, b, ?_⟩
  by_cases e : g = f
  · subst e; exact ⟨m, pk_us, hm⟩
  · rw [pk_un e]; exact d
/-- the index of a fingerprint's tally, in both spellings -/
theorem qf_ix (f p : Nat) : nI f * 256 + nI p = nI (256 * f + p) := by
  rw [← nI_add, Nat.mul_comm, ← pk_mul]; rfl
theorem qf_iy (f p : Nat) : 256 * nI f + nI p = nI (256 * f + p) := by
  rw [← nI_add, ← pk_mul]; rfl
theorem qf_in {f p : Nat} (hf : f < 2) (hp : p < 256) : vp_in (nI (256 * f + p)) 512 := vp_in_nI (by omega) (by decide)
theorem qf_i2 {f : Nat} (hf : f < 2) : vp_in (nI f) 2 := vp_in_nI hf (by decide)
theorem qf_cf {f : Nat} (hf : f < 2) : (nI f).toNatClampNeg = f := nI_clamp (by omega)
theorem qf_cp {f p : Nat} (hf : f < 2) (hp : p < 256) : (nI (256 * f + p)).toNatClampNeg = 256 * f + p := nI_clamp (by omega)
/-- the fingerprint, as both sides print it -/
def qf_F (x : Int32) : Int32 := ((x * (-1640531535)).toUInt32 >>> ((24 : Int32).toUInt32 &&& Int32.toUInt32 31)).toInt32
theorem qf_fp (x : Int32) : ∃ p, p < 256 ∧ qf_F x = nI p := by
  unfold qf_F
  generalize x * (-1640531535) = y
  have h := pk_ushr y 24 24 (by decide)
  have hl : y.toBitVec.toNat < 2 ^ 32 := y.toBitVec.isLt
  have hb : y.toBitVec.toNat / 2 ^ 24 < 256 := by omega
  refine ⟨y.toBitVec.toNat / 2 ^ 24, hb, ?_⟩
  apply Int32.toBitVec_inj.mp
  apply BitVec.eq_of_toNat_eq
  rw [h, pk_tn (by omega)]
/-- a filter, or neither side's isFilter answers true -/
theorem qf_f (x : Int32) : (∃ f, f < 2 ∧ x = nI f) ∨ ((∀ post : Int32 → Prop, post 0 → wpX_isFilter post x) ∧ ∀ (post : Int32 → Prop) (o s : Nat → Int32), post 0 → wpY_isFilter post (o, s) x) := by
  rcases pk_ix x (n := 2) (by decide) with h | h | h
  · refine Or.inr ⟨fun post hp => br_t h hp, fun post o s hp => br_f ?_ (br_f ?_ hp)⟩
    · intro e; rw [e] at h; exact absurd h (by decide)
    · intro e; rw [e] at h; exact absurd h (by decide)
  · have h0 : ¬ x < 0 := fun z => absurd (Int32.lt_of_le_of_lt h z) (by decide)
    refine Or.inr ⟨fun post hp => br_f h0 (br_t h hp), fun post o s hp => br_f ?_ (br_f ?_ hp)⟩
    · intro e; rw [e] at h; exact absurd h (by decide)
    · intro e; rw [e] at h; exact absurd h (by decide)
  · exact Or.inl h
theorem qf_xt {f : Nat} (hf : f < 2) {post : Int32 → Prop} (h : post 1) : wpX_isFilter post (nI f) :=
  br_f (nI_pos (by omega)) (br_f (nI_ge (b := 2) hf (by decide)) h)
theorem qf_yt {f : Nat} (hf : f < 2) {post : Int32 → Prop} {o s : Nat → Int32} (h : post 1) : wpY_isFilter post (o, s) (nI f) := by
  rcases Nat.lt_or_ge f 1 with h1 | h1
  · have e : f = 0 := by omega
    subst e; exact br_t rfl h
  · have e : f = 1 := by omega
    subst e; exact br_f (by decide) (br_t rfl h)
theorem qf_xp {post : Int32 → Prop} {x : Int32} {p : Nat} (e : qf_F x = nI p) (h : post (nI p)) : wpX_fingerprint post x := by
  rw [← e] at h; exact h
theorem qf_yp {post : Int32 → Prop} {o s : Nat → Int32} {x : Int32} {p : Nat} (e : qf_F x = nI p) (h : post (nI p)) : wpY_printOf post (o, s) x := by
  rw [← e] at h; exact h
theorem qf_fit {post : Int32 → Prop} (a m : Nat) (ha : a < 2 ^ 31) (h1 : 1 ≤ m) (hm : m < 2 ^ 31) (T : a + 1 ≤ m → post 1) (F : m < a + 1 → post 0) : wpX_fits post (nI a) (nI m) := by
  have e : nI m - 1 = nI (m - 1) := pk_sub (b := 1) h1
  exact pk_lt (m - 1) a (fun h => F (by omega)) (fun h => T (by omega)) e rfl (by omega) ha
