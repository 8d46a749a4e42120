section
theorem pk_us {f : Nat → Int32} {k : Nat} {x : Int32} : upd f k x k = x := if_pos rfl
theorem pk_un {f : Nat → Int32} {k j : Nat} {x : Int32} (h : j ≠ k) : upd f k x j = f j := if_neg h
theorem pk_sub {a b : Nat} (h : b ≤ a) : nI a - nI b = nI (a - b) := by
  obtain ⟨c, rfl⟩ : ∃ c, a = c + b := ⟨a - b, by omega⟩
  rw [← nI_add, Int32.add_sub_cancel, Nat.add_sub_cancel]
theorem pk_mul (a b : Nat) : nI a * nI b = nI (a * b) := (Int32.ofNat_mul a b).symm
theorem pk_div {a d : Nat} (ha : a < 2 ^ 31) (h0 : 0 < d) (hd : d < 2 ^ 31) : nI a / nI d = nI (a / d) := by
  apply Int32.toInt_inj.mp
  rw [lg_idiv_nonneg (by rw [nI_toInt ha]; omega) (by rw [nI_toInt hd]; omega), nI_toInt ha, nI_toInt hd, nI_toInt (Nat.lt_of_le_of_lt (Nat.div_le_self a d) ha)]
  first | rfl | exact (Int.natCast_ediv _ _).symm
theorem pk_ix (x : Int32) {n : Nat} (hn : n < 2 ^ 31) : x < 0 ∨ nI n ≤ x ∨ ∃ j : Nat, j < n ∧ x = nI j := by
  by_cases h : x < 0
  · exact Or.inl h
  · obtain ⟨j, hj, rfl⟩ := nI_of h
    by_cases h2 : j < n
    · exact Or.inr (Or.inr ⟨j, h2, rfl⟩)
    · exact Or.inr (Or.inl (nI_le (by omega) hj))
theorem pk_le {x y : Int32} {A B : Prop} (a b : Nat) (f : a ≤ b → A) (g : b < a → B) (hx : x = nI a := by rfl) (hy : y = nI b := by rfl) (ha : a < 2 ^ 31 := by omega) (hb : b < 2 ^ 31 := by omega) : (x ≤ y → A) ∧ (¬ x ≤ y → B) := by
  subst hx hy
  rw [nI_leI ha hb]
  exact ⟨f, fun z => g (by omega)⟩
theorem pk_lt {x y : Int32} {A B : Prop} (a b : Nat) (f : a < b → A) (g : b ≤ a → B) (hx : x = nI a := by rfl) (hy : y = nI b := by rfl) (ha : a < 2 ^ 31 := by omega) (hb : b < 2 ^ 31 := by omega) : (x < y → A) ∧ (¬ x < y → B) := by
  subst hx hy
  rw [nI_ltI ha hb]
  exact ⟨f, fun z => g (by omega)⟩
theorem pk_eq {x y : Int32} {A B : Prop} (a b : Nat) (f : a = b → A) (g : a ≠ b → B) (hx : x = nI a := by rfl) (hy : y = nI b := by rfl) (ha : a < 2 ^ 31 := by omega) (hb : b < 2 ^ 31 := by omega) : (x = y → A) ∧ (¬ x = y → B) := by
  subst hx hy
  rw [nI_eq ha hb]
  exact ⟨f, g⟩
theorem pk_in {x : Int32} (n N : Nat) (h : n < N) (hx : x = nI n := by rfl) (hN : N < 2 ^ 31 := by omega) : vp_in x N := by
  subst hx
  exact vp_in_nI h hN
theorem pk_cl {x : Int32} (n : Nat) (hx : x = nI n := by rfl) (h : n < 2 ^ 31 := by omega) : x.toNatClampNeg = n := by
  subst hx
  exact nI_clamp h
theorem pk_tn {n : Nat} (h : n < 2 ^ 32) : (nI n).toBitVec.toNat = n := Nat.mod_eq_of_lt h
theorem pk_ushr (x s : Int32) (k : Nat) (hs : ((s.toUInt32 &&& Int32.toUInt32 31).toBitVec % 32).toNat = k) : (x.toUInt32 >>> (s.toUInt32 &&& Int32.toUInt32 31)).toInt32.toBitVec.toNat = x.toBitVec.toNat / 2 ^ k := by
  have e : (x.toUInt32 >>> (s.toUInt32 &&& Int32.toUInt32 31)).toInt32.toBitVec = x.toBitVec >>> k := by
    rw [← hs]
    exact UInt32.toBitVec_shiftRight _ _
  rw [e, BitVec.toNat_ushiftRight, Nat.shiftRight_eq_div_pow]
/-- the sum of the n tallies from place b on -/
def qf_S (w : Nat → Nat) (b : Nat) : Nat → Nat
  | 0 => 0
  | n + 1 => qf_S w b n + w (b + n)
/-- the tallies with n at place i -/
def qf_u (w : Nat → Nat) (i n : Nat) : Nat → Nat := fun j => if j = i then n else w j
/-- the array t holds the naturals w -/
def qf_K (w : Nat → Nat) (t : Nat → Int32) : Prop := ∀ j, t j = nI (w j)
/-- a size -/
def qf_M (m : Nat) : Prop := m = 8 ∨ m = 16 ∨ m = 32 ∨ m = 64
/-- each filter's count is the sum of its tallies, at most 63; its size is one of the four -/
def qf_R (w : Nat → Nat) (c s : Nat → Int32) : Prop := ∀ f, f < 2 → c f = nI (qf_S w (256 * f) 256) ∧ qf_S w (256 * f) 256 ≤ 63 ∧ ∃ m, s f = nI m ∧ qf_M m
/-- the same tallies and sizes on both sides -/
def i_Rel (_ : Nat) (u : SX) (v : SY) : Prop := ∃ (t c s : Nat → Int32) (w : Nat → Nat), u = (t, c, s) ∧ v = (t, s) ∧ qf_K w t ∧ qf_R w c s
theorem i_up {k : Nat} {u : SX} {v : SY} (h : i_Rel k u v) : i_Rel (k + 3) u v := h
theorem qf_mk {k : Nat} {t c s : Nat → Int32} (w : Nat → Nat) (K : qf_K w t) (R : qf_R w c s) : i_Rel k (t, c, s) (t, s) := ⟨t, c, s, w, rfl, rfl, K, R⟩
theorem qf_Mb {m : Nat} (h : qf_M m) : 8 ≤ m ∧ m ≤ 64 := by
  rcases h with h | h | h | h <;> omega
theorem qf_Ku {w : Nat → Nat} {t : Nat → Int32} (K : qf_K w t) (i n : Nat) : qf_K (qf_u w i n) (upd t i (nI n)) := by
  intro j
  unfold upd qf_u
  by_cases h : j = i
  · rw [if_pos h, if_pos h]
  · rw [if_neg h, if_neg h]; exact K j
theorem qf_us (w : Nat → Nat) (i n : Nat) : qf_u w i n i = n := if_pos rfl
theorem qf_un {w : Nat → Nat} {i n j : Nat} (h : j ≠ i) : qf_u w i n j = w j := if_neg h
theorem qf_Sc {w z : Nat → Nat} {b : Nat} : ∀ n, (∀ j, j < n → z (b + j) = w (b + j)) → qf_S z b n = qf_S w b n := by
  intro n
  induction n with
  | zero => intro _; rfl
  | succ n ih =>
    intro h
    have e1 := ih (fun j hj => h j (by omega))
    have e2 := h n (by omega)
    show qf_S z b n + z (b + n) = qf_S w b n + w (b + n)
    omega
theorem qf_S0 {z : Nat → Nat} {b : Nat} : ∀ n, (∀ j, j < n → z (b + j) = 0) → qf_S z b n = 0 := by
  intro n
  induction n with
  | zero => intro _; rfl
  | succ n ih =>
    intro h
    have e1 := ih (fun j hj => h j (by omega))
    have e2 := h n (by omega)
    show qf_S z b n + z (b + n) = 0
    omega
theorem qf_Sa {w z : Nat → Nat} {b d : Nat} : ∀ n, (∀ j, j < n → z (b + j) = w (b + j) + w (d + j)) → qf_S z b n = qf_S w b n + qf_S w d n := by
  intro n
  induction n with
  | zero => intro _; rfl
  | succ n ih =>
    intro h
    have e1 := ih (fun j hj => h j (by omega))
    have e2 := h n (by omega)
    show qf_S z b n + z (b + n) = (qf_S w b n + w (b + n)) + (qf_S w d n + w (d + n))
    omega
theorem qf_Sg {w : Nat → Nat} {b p : Nat} : ∀ n, p < n → w (b + p) ≤ qf_S w b n := by
  intro n
  induction n with
  | zero => intro h; omega
  | succ n ih =>
    intro h
    show w (b + p) ≤ qf_S w b n + w (b + n)
    by_cases e : p = n
    · subst e; omega
    · have := ih (by omega); omega
theorem qf_Su {w : Nat → Nat} {b p x : Nat} : ∀ n, p < n → qf_S (qf_u w (b + p) x) b n + w (b + p) = qf_S w b n + x := by
  intro n
  induction n with
  | zero => intro h; omega
  | succ n ih =>
    intro h
    show qf_S (qf_u w (b + p) x) b n + qf_u w (b + p) x (b + n) + w (b + p) = qf_S w b n + w (b + n) + x
    by_cases e : p = n
    · subst e
      rw [qf_us, qf_Sc (z := qf_u w (b + p) x) (w := w) p (fun j hj => qf_un (by omega))]
      omega
    · have h2 := ih (by omega)
      rw [qf_un (i := b + p) (j := b + n) (by omega)]
      omega
/-- a filter's tally becomes x: its sum goes with it, the other's stays -/
theorem qf_Ro {w : Nat → Nat} {f g p x : Nat} (hf : f < 2) (hg : g < 2) (hp : p < 256) (h : g ≠ f) : qf_S (qf_u w (256 * f + p) x) (256 * g) 256 = qf_S w (256 * g) 256 :=
  qf_Sc 256 (fun j hj => qf_un (by omega))
theorem qf_Ru {w : Nat → Nat} {c s : Nat → Int32} {f p x n : Nat} (R : qf_R w c s) (hf : f < 2) (hp : p < 256) (hn : n + w (256 * f + p) = qf_S w (256 * f) 256 + x) (h6 : n ≤ 63) : qf_R (qf_u w (256 * f + p) x) (upd c f (nI n)) s := by
  intro g hg
  by_cases e : g = f
  · subst e
    have h := qf_Su (w := w) (b := 256 * g) (p := p) (x := x) 256 hp
    have h2 : qf_S (qf_u w (256 * g + p) x) (256 * g) 256 = n := by omega
    rw [h2]
    exact ⟨pk_us, h6, (R g hg).2.2⟩
  · rw [pk_un e, qf_Ro hf hg hp e]
    exact R g hg
theorem qf_Rs {w : Nat → Nat} {c s : Nat → Int32} {f m : Nat} (R : qf_R w c s) (hm : qf_M m) : qf_R w c (upd s f (nI m)) := by
  intro g hg
  obtain ⟨a, b, d⟩ := R g hg
  refine ⟨a, b, ?_⟩
  by_cases e : g = f
  · subst e; exact ⟨m, pk_us, hm⟩
  · rw [pk_un e]; exact d
/-- the index of a fingerprint's tally, in both spellings -/
theorem qf_ix (f p : Nat) : nI f * 256 + nI p = nI (256 * f + p) := by
  rw [← nI_add, Nat.mul_comm, ← pk_mul]; rfl
theorem qf_iy (f p : Nat) : 256 * nI f + nI p = nI (256 * f + p) := by
  rw [← nI_add, ← pk_mul]; rfl
theorem qf_in {f p : Nat} (hf : f < 2) (hp : p < 256) : vp_in (nI (256 * f + p)) 512 := vp_in_nI (by omega) (by decide)
theorem qf_i2 {f : Nat} (hf : f < 2) : vp_in (nI f) 2 := vp_in_nI hf (by decide)
theorem qf_cf {f : Nat} (hf : f < 2) : (nI f).toNatClampNeg = f := nI_clamp (by omega)
theorem qf_cp {f p : Nat} (hf : f < 2) (hp : p < 256) : (nI (256 * f + p)).toNatClampNeg = 256 * f + p := nI_clamp (by omega)
/-- the fingerprint, as both sides print it -/
def qf_F (x : Int32) : Int32 := ((x * (-1640531535)).toUInt32 >>> ((24 : Int32).toUInt32 &&& Int32.toUInt32 31)).toInt32
theorem qf_fp (x : Int32) : ∃ p, p < 256 ∧ qf_F x = nI p := by
  unfold qf_F
  generalize x * (-1640531535) = y
  have h := pk_ushr y 24 24 (by decide)
  have hl : y.toBitVec.toNat < 2 ^ 32 := y.toBitVec.isLt
  have hb : y.toBitVec.toNat / 2 ^ 24 < 256 := by omega
  refine ⟨y.toBitVec.toNat / 2 ^ 24, hb, ?_⟩
  apply Int32.toBitVec_inj.mp
  apply BitVec.eq_of_toNat_eq
  rw [h, pk_tn (by omega)]
/-- a filter, or neither side's isFilter answers true -/
theorem qf_f (x : Int32) : (∃ f, f < 2 ∧ x = nI f) ∨ ((∀ post : Int32 → Prop, post 0 → wpX_isFilter post x) ∧ ∀ (post : Int32 → Prop) (o s : Nat → Int32), post 0 → wpY_isFilter post (o, s) x) := by
  rcases pk_ix x (n := 2) (by decide) with h | h | h
  · refine Or.inr ⟨fun post hp => br_t h hp, fun post o s hp => br_f ?_ (br_f ?_ hp)⟩
    · intro e; rw [e] at h; exact absurd h (by decide)
    · intro e; rw [e] at h; exact absurd h (by decide)
  · have h0 : ¬ x < 0 := fun z => absurd (Int32.lt_of_le_of_lt h z) (by decide)
    refine Or.inr ⟨fun post hp => br_f h0 (br_t h hp), fun post o s hp => br_f ?_ (br_f ?_ hp)⟩
    · intro e; rw [e] at h; exact absurd h (by decide)
    · intro e; rw [e] at h; exact absurd h (by decide)
  · exact Or.inl h
theorem qf_xt {f : Nat} (hf : f < 2) {post : Int32 → Prop} (h : post 1) : wpX_isFilter post (nI f) :=
  br_f (nI_pos (by omega)) (br_f (nI_ge (b := 2) hf (by decide)) h)
theorem qf_yt {f : Nat} (hf : f < 2) {post : Int32 → Prop} {o s : Nat → Int32} (h : post 1) : wpY_isFilter post (o, s) (nI f) := by
  rcases Nat.lt_or_ge f 1 with h1 | h1
  · have e : f = 0 := by omega
    subst e; exact br_t rfl h
  · have e : f = 1 := by omega
    subst e; exact br_f (by decide) (br_t rfl h)
theorem qf_xp {post : Int32 → Prop} {x : Int32} {p : Nat} (e : qf_F x = nI p) (h : post (nI p)) : wpX_fingerprint post x := by
  rw [← e] at h; exact h
theorem qf_yp {post : Int32 → Prop} {o s : Nat → Int32} {x : Int32} {p : Nat} (e : qf_F x = nI p) (h : post (nI p)) : wpY_printOf post (o, s) x := by
  rw [← e] at h; exact h
theorem qf_fit {post : Int32 → Prop} (a m : Nat) (ha : a < 2 ^ 31) (h1 : 1 ≤ m) (hm : m < 2 ^ 31) (T : a + 1 ≤ m → post 1) (F : m < a + 1 → post 0) : wpX_fits post (nI a) (nI m) := by
  have e : nI m - 1 = nI (m - 1) := pk_sub (b := 1) h1
  exact pk_lt (m - 1) a (fun h => F (by omega)) (fun h => T (by omega)) e rfl (by omega) ha
end
section
/-- Y's count is the sum -/
theorem qf_cl {post : Int32 → Prop} {w : Nat → Nat} {t s : Nat → Int32} {f : Nat} (hf : f < 2) (K : qf_K w t) (h : post (nI (qf_S w (256 * f) 256))) : ∀ d j, j + d = 256 → wY_count_14 post (nI f) t s (d + 1) (nI (qf_S w (256 * f) j)) (nI j) := by
  intro d
  induction d with
  | zero =>
    intro j hj
    have e : j = 256 := by omega
    subst e
    exact br_t (nI_le (a := 256) (b := 256) (by omega) (by omega)) h
  | succ d ih =>
    intro j hj
    refine br_f (nI_ge (b := 256) (by omega) (by omega)) ⟨?_, nm_r ?_ (nm_r (nI_1 j) (ih (j + 1) (by omega)))⟩
    · rw [qf_iy]; exact qf_in hf (by omega)
    · rw [qf_iy, qf_cp hf (by omega), K, nI_add]; rfl
theorem qf_yc {post : Int32 → Prop} {w : Nat → Nat} {t s : Nat → Int32} {f : Nat} (hf : f < 2) (K : qf_K w t) (h : post (nI (qf_S w (256 * f) 256))) : wpY_count post (t, s) (nI f) := by
  unfold wpY_count; dsimp only
  exact qf_yt hf (br_f (by decide) ⟨256 + 1, qf_cl hf K h 256 0 rfl⟩)
/-- print: the two loops over one array, k not negative -/
theorem qf_pl (t c s : Nat → Int32) {f : Nat} {k : Int32} (hf : f < 2) (hk : ¬ k < 0) : ∀ d j x, j + d = 256 → ∃ r : Int32, (∀ post : Int32 → Prop, post r → wX_print_21 post (nI f) k t c s (d + 1) x (nI j)) ∧ (∀ post : Int32 → Prop, post r → wY_print_15 post (nI f) k t s (d + 1) x (nI j)) := by
  intro d
  induction d with
  | zero =>
    intro j x hj
    have e : j = 256 := by omega
    subst e
    have h := nI_le (a := 256) (b := 256) (by omega) (by omega)
    exact ⟨-3, fun _ hp => br_t h hp, fun _ hp => br_t h hp⟩
  | succ d ih =>
    intro j x hj
    have h : ¬ (256 : Int32) ≤ nI j := nI_ge (b := 256) (by omega) (by omega)
    have i1 : vp_in (nI f * 256 + nI j) 512 := by rw [qf_ix]; exact qf_in hf (by omega)
    have i2 : vp_in (256 * nI f + nI j) 512 := by rw [qf_iy]; exact qf_in hf (by omega)
    have e1 : x + t (nI f * 256 + nI j).toNatClampNeg = x + t (256 * f + j) := by rw [qf_ix, qf_cp hf (by omega)]
    have e2 : x + t (256 * nI f + nI j).toNatClampNeg = x + t (256 * f + j) := by rw [qf_iy, qf_cp hf (by omega)]
    by_cases z : x + t (256 * f + j) ≤ k
    · obtain ⟨r, hX, hY⟩ := ih (j + 1) (x + t (256 * f + j)) (by omega)
      exact ⟨r, fun post hp => br_f h ⟨i1, nm_r e1 (br_t z (nm_r (nI_1 j) (hX post hp)))⟩, fun post hp => br_f h ⟨i2, nm_r e2 (br_f hk (br_t z (nm_r (nI_1 j) (hY post hp))))⟩⟩
    · exact ⟨nI j, fun post hp => br_f h ⟨i1, nm_r e1 (br_f z hp)⟩, fun post hp => br_f h ⟨i2, nm_r e2 (br_f hk (br_f z hp))⟩⟩
/-- print: Y's loop, k negative -/
theorem qf_pn {post : Int32 → Prop} (t s : Nat → Int32) {f : Nat} {k : Int32} (hf : f < 2) (hk : k < 0) (h3 : post (-3)) : ∀ d j x, j + d = 256 → wY_print_15 post (nI f) k t s (d + 1) x (nI j) := by
  intro d
  induction d with
  | zero =>
    intro j x hj
    have e : j = 256 := by omega
    subst e
    exact br_t (nI_le (a := 256) (b := 256) (by omega) (by omega)) h3
  | succ d ih =>
    intro j x hj
    refine br_f (nI_ge (b := 256) (by omega) (by omega)) ⟨?_, nm_e (br_t hk (nm_r (nI_1 j) (ih (j + 1) _ (by omega))))⟩
    rw [qf_iy]; exact qf_in hf (by omega)
/-- pour: Y's size loop where there is room -/
theorem qf_gy {post : Int32 → SY → Prop} {t s : Nat → Int32} {f p m : Nat} (hf : f < 2) (hp : p ≤ 63) (em : s f = nI m) (hm : qf_M m) (hr : p + 1 ≤ m) (h : ∃ n, wY_pour_72 post (nI f) (nI p) n 0 t s) : ∀ d j, j + d = 3 → wY_pour_33 post (nI f) (nI p) (d + 1) (nI j) t s := by
  have hb := qf_Mb hm
  intro d
  induction d with
  | zero =>
    intro j hj
    have e : j = 3 := by omega
    subst e
    exact br_t (nI_le (a := 3) (b := 3) (by omega) (by omega)) h
  | succ d ih =>
    intro j hj
    refine br_f (nI_ge (b := 3) (by omega) (by omega)) ⟨qf_i2 hf, br_t ?_ (nm_r (nI_1 j) (ih (j + 1) (by omega)))⟩
    rw [qf_cf hf, em, nI_1]
    exact nI_le hr (by omega)
/-- pour: the two size loops -/
theorem qf_gl {f p : Nat} (hf : f < 2) (hp : p ≤ 63) : ∀ d j m (s : Nat → Int32), j + d = 3 → s f = nI m → qf_M m → ∃ s' : Nat → Int32, (∃ m', s' f = nI m' ∧ qf_M m') ∧ (∀ g, g ≠ f → s' g = s g) ∧ (∀ (post : SX → Prop) (t c : Nat → Int32), post (t, c, s') → wX_growToFit_2 post (nI f) (nI p) (d + 1) (nI j) t c s) ∧ (∀ (post : Int32 → SY → Prop) (t : Nat → Int32), (∃ n, wY_pour_72 post (nI f) (nI p) n 0 t s') → wY_pour_33 post (nI f) (nI p) (d + 1) (nI j) t s) := by
  intro d
  induction d with
  | zero =>
    intro j m s hj em hm
    have e : j = 3 := by omega
    subst e
    have h := nI_le (a := 3) (b := 3) (by omega) (by omega)
    exact ⟨s, ⟨m, em, hm⟩, fun _ _ => rfl, fun post t c hp => br_t h hp, fun post t hp => br_t h hp⟩
  | succ d ih =>
    intro j m s hj em hm
    have hb := qf_Mb hm
    have h : ¬ (3 : Int32) ≤ nI j := nI_ge (b := 3) (by omega) (by omega)
    by_cases z : p + 1 ≤ m
    · refine ⟨s, ⟨m, em, hm⟩, fun _ _ => rfl, fun post t c hq => br_f h ⟨qf_i2 hf, ?_⟩, fun post t hq => qf_gy hf hp em hm z hq (d + 1) j hj⟩
      rw [qf_cf hf, em]
      exact qf_fit p m (by omega) (by omega) (by omega) (fun _ => br_f (by decide) hq) (fun y => absurd z (by omega))
    · have hm2 : qf_M (2 * m) := by
        rcases hm with q | q | q | q <;> subst q
        · exact Or.inr (Or.inl rfl)
        · exact Or.inr (Or.inr (Or.inl rfl))
        · exact Or.inr (Or.inr (Or.inr rfl))
        · omega
      obtain ⟨s', g1, g2, gX, gY⟩ := ih (j + 1) (2 * m) (upd s f (nI (2 * m))) (by omega) pk_us hm2
      have e1 : nI m * 2 = nI (2 * m) := by rw [Nat.mul_comm]; exact pk_mul m 2
      have e2 : 2 * nI m = nI (2 * m) := pk_mul 2 m
      refine ⟨s', g1, fun g hg => (g2 g hg).trans (pk_un hg), fun post t c hq => br_f h ⟨qf_i2 hf, ?_⟩, fun post t hq => br_f h ⟨qf_i2 hf, br_f ?_ ⟨qf_i2 hf, qf_i2 hf, nm_r (e' := upd s f (nI (2 * m))) ?_ (nm_r (nI_1 j) (gY post t hq))⟩⟩⟩
      · rw [qf_cf hf, em]
        exact qf_fit p m (by omega) (by omega) (by omega) (fun y => absurd y z) (fun _ => br_t rfl ⟨qf_i2 hf, qf_i2 hf, nm_r (e' := upd s f (nI (2 * m))) (by rw [e1]) (nm_r (nI_1 j) (gX post t c hq))⟩)
      · rw [qf_cf hf, em, nI_1]
        exact nI_ge (by omega) (by omega)
      · rw [qf_cf hf, em, e2]
theorem qf_other {f : Nat} (hf : f < 2) : (1 : Int32) - nI f = nI (1 - f) := pk_sub (a := 1) (by omega)
/-- pour: the two tally loops -/
theorem qf_al {f : Nat} (hf : f < 2) : ∀ d j (t : Nat → Int32) (w : Nat → Nat), j + d = 256 → qf_K w t → ∃ (t' : Nat → Int32) (z : Nat → Nat), qf_K z t' ∧ (∀ i, ¬ (256 * f + j ≤ i ∧ i < 256 * f + 256) → z i = w i) ∧ (∀ i, j ≤ i → i < 256 → z (256 * f + i) = w (256 * f + i) + w (256 * (1 - f) + i)) ∧ (∀ (post : SX → Prop) (c s : Nat → Int32), post (t', c, s) → wX_addTalliesOfOther_6 post (nI f) (nI (1 - f)) (d + 1) (nI j) t c s) ∧ (∀ (post : Int32 → SY → Prop) (x : Int32) (s : Nat → Int32), post x (t', s) → wY_pour_72 post (nI f) x (d + 1) (nI j) t s) := by
  intro d
  induction d with
  | zero =>
    intro j t w hj K
    have e : j = 256 := by omega
    subst e
    have h := nI_le (a := 256) (b := 256) (by omega) (by omega)
    exact ⟨t, w, K, fun _ _ => rfl, fun i h1 h2 => absurd h1 (by omega), fun post c s hp => br_t h hp, fun post x s hp => br_t h hp⟩
  | succ d ih =>
    intro j t w hj K
    have h : ¬ (256 : Int32) ≤ nI j := nI_ge (b := 256) (by omega) (by omega)
    have hj2 : j < 256 := by omega
    have hg : 1 - f < 2 := by omega
    obtain ⟨t', z, K', h1, h2, hX, hY⟩ := ih (j + 1) _ _ (by omega) (qf_Ku K (256 * f + j) (w (256 * f + j) + w (256 * (1 - f) + j)))
    refine ⟨t', z, K', fun i hi => ?_, fun i i1 i2 => ?_, fun post c s hp => ?_, fun post x s hp => ?_⟩
    · rw [h1 i (by omega), qf_un (by omega)]
    · by_cases e : i = j
      · subst e
        rw [h1 _ (by omega), qf_us]
      · rw [h2 i (by omega) i2, qf_un (by omega), qf_un (by omega)]
    · refine br_f h ⟨?_, ?_, ?_, nm_r ?_ (nm_r (nI_1 j) (hX post c s hp))⟩
      · rw [qf_ix]; exact qf_in hf hj2
      · rw [qf_ix]; exact qf_in hg hj2
      · rw [qf_ix]; exact qf_in hf hj2
      · rw [qf_ix, qf_ix, qf_cp hf hj2, qf_cp hg hj2, K, K, nI_add]
    · refine br_f h ⟨?_, ?_, ?_, nm_r ?_ (nm_r (nI_1 j) (hY post x s hp))⟩
      · rw [qf_iy]; exact qf_in hf hj2
      · rw [qf_other hf, qf_iy]; exact qf_in hg hj2
      · rw [qf_iy]; exact qf_in hf hj2
      · rw [qf_other hf, qf_iy, qf_iy, qf_cp hf hj2, qf_cp hg hj2, K, K, nI_add]
/-- clear: the two loops -/
theorem qf_dl {f : Nat} (hf : f < 2) : ∀ d j (t : Nat → Int32) (w : Nat → Nat), j + d = 256 → qf_K w t → ∃ (t' : Nat → Int32) (z : Nat → Nat), qf_K z t' ∧ (∀ i, ¬ (256 * f + j ≤ i ∧ i < 256 * f + 256) → z i = w i) ∧ (∀ i, j ≤ i → i < 256 → z (256 * f + i) = 0) ∧ (∀ (post : Int32 → SX → Prop) (x : Int32) (c s : Nat → Int32), post x (t', upd c f 0, s) → wX_clear_18 post (nI f) x (d + 1) (nI j) t c s) ∧ (∀ (post : Int32 → SY → Prop) (x : Int32) (s : Nat → Int32), post x (t', s) → wY_clear_18 post (nI f) x (d + 1) (nI j) t s) := by
  intro d
  induction d with
  | zero =>
    intro j t w hj K
    have e : j = 256 := by omega
    subst e
    have h := nI_le (a := 256) (b := 256) (by omega) (by omega)
    exact ⟨t, w, K, fun _ _ => rfl, fun i h1 h2 => absurd h1 (by omega), fun post x c s hp => br_t h ⟨qf_i2 hf, nm_r (e' := upd c f 0) (by rw [qf_cf hf]) hp⟩, fun post x s hp => br_t h hp⟩
  | succ d ih =>
    intro j t w hj K
    have h : ¬ (256 : Int32) ≤ nI j := nI_ge (b := 256) (by omega) (by omega)
    have hj2 : j < 256 := by omega
    obtain ⟨t', z, K', h1, h2, hX, hY⟩ := ih (j + 1) _ _ (by omega) (qf_Ku K (256 * f + j) 0)
    refine ⟨t', z, K', fun i hi => ?_, fun i i1 i2 => ?_, fun post x c s hp => ?_, fun post x s hp => ?_⟩
    · rw [h1 i (by omega), qf_un (by omega)]
    · by_cases e : i = j
      · subst e
        rw [h1 _ (by omega), qf_us]
      · exact h2 i (by omega) i2
    · refine br_f h ⟨?_, nm_r ?_ (nm_r (nI_1 j) (hX post x c s hp))⟩
      · rw [qf_ix]; exact qf_in hf hj2
      · rw [qf_ix, qf_cp hf hj2, nI_0]
    · refine br_f h ⟨?_, nm_r ?_ (nm_r (nI_1 j) (hY post x s hp))⟩
      · rw [qf_iy]; exact qf_in hf hj2
      · rw [qf_iy, qf_cp hf hj2, nI_0]
end
section
theorem i_vc0 : wpX_init (fun u => wpY_init (fun v => i_Rel 0 u v)) := by
  unfold wpX_init
  refine nm_e (nm_e ?_)
  unfold wpY_init
  refine nm_e (nm_e ?_)
  refine qf_mk (fun _ => 0) (fun _ => rfl) ?_
  intro f hf
  have e : qf_S (fun _ => 0) (256 * f) 256 = 0 := qf_S0 256 (fun _ _ => rfl)
  rw [e]
  refine ⟨rfl, by omega, 8, ?_, Or.inl rfl⟩
  rcases Nat.lt_or_ge f 1 with h1 | h1
  · have e : f = 0 := by omega
    subst e; rfl
  · have e : f = 1 := by omega
    subst e; rfl
theorem i_vc_add {k : Nat} {u : SX} {v : SY} (I : i_Rel k u v) (hk : k + 3 ≤ 1536) (v1 : Int32) (v2 : Int32) : wpX_add (fun r u' => wpY_add (fun r' v' => r' = r ∧ i_Rel (k + 3) u' v') v v1 v2) u v1 v2 := by
  have J := i_up I
  obtain ⟨t, c, s, w, rfl, rfl, K, R⟩ := I
  rcases qf_f v1 with ⟨f, hf, rfl⟩ | ⟨hX, hY⟩
  · obtain ⟨ec, hc, m, em, hm⟩ := R f hf
    obtain ⟨p, hp, ep⟩ := qf_fp v2
    have hb := qf_Mb hm
    have e1 : nI m - 1 = nI (m - 1) := pk_sub (b := 1) (by omega)
    unfold wpX_add; dsimp only
    refine qf_xt hf (br_f (by decide) ⟨qf_i2 hf, qf_i2 hf, ?_⟩)
    rw [qf_cf hf, ec, em, nI_1 (qf_S w (256 * f) 256)]
    refine qf_fit (qf_S w (256 * f) 256 + 1) m (by omega) (by omega) (by omega) (fun h => br_f (by decide) ?_) (fun h => br_t rfl ?_)
    · refine qf_xp ep (nm_r (qf_ix f p) ⟨qf_in hf hp, qf_in hf hp, nm_r (e' := upd t (256 * f + p) (nI (w (256 * f + p) + 1))) ?_ ⟨qf_i2 hf, qf_i2 hf, nm_e ⟨qf_in hf hp, ?_⟩⟩⟩)
      · rw [qf_cp hf hp, K, nI_1]
      · unfold wpY_add; dsimp only
        refine qf_yt hf (br_f (by decide) (qf_yc hf K ⟨qf_i2 hf, ?_⟩))
        rw [qf_cf hf, em, e1]
        refine br_t (nI_lt (by omega) (by omega)) ?_
        refine qf_yp ep (nm_r (qf_iy f p) ⟨qf_in hf hp, qf_in hf hp, nm_r (e' := upd t (256 * f + p) (nI (w (256 * f + p) + 1))) ?_ ⟨qf_in hf hp, rfl, ?_⟩⟩)
        · rw [qf_cp hf hp, K, nI_1]
        · exact qf_mk _ (qf_Ku K _ _) (qf_Ru R hf hp (by omega) (by omega))
    · unfold wpY_add; dsimp only
      refine qf_yt hf (br_f (by decide) (qf_yc hf K ⟨qf_i2 hf, ?_⟩))
      rw [qf_cf hf, em, e1]
      exact br_f (nI_nlt (by omega) (by omega)) ⟨rfl, J⟩
  · unfold wpX_add wpY_add; dsimp only
    exact hX _ (br_t rfl (hY _ _ _ (br_t rfl ⟨rfl, J⟩)))
theorem i_vc_remove {k : Nat} {u : SX} {v : SY} (I : i_Rel k u v) (hk : k + 3 ≤ 1536) (v1 : Int32) (v2 : Int32) : wpX_remove (fun r u' => wpY_remove (fun r' v' => r' = r ∧ i_Rel (k + 3) u' v') v v1 v2) u v1 v2 := by
  have J := i_up I
  obtain ⟨t, c, s, w, rfl, rfl, K, R⟩ := I
  rcases qf_f v1 with ⟨f, hf, rfl⟩ | ⟨hX, hY⟩
  · obtain ⟨ec, hc, m, em, hm⟩ := R f hf
    obtain ⟨p, hp, ep⟩ := qf_fp v2
    have hg := qf_Sg (w := w) (b := 256 * f) (p := p) 256 hp
    unfold wpX_remove; dsimp only
    refine qf_xt hf (br_f (by decide) (qf_xp ep (nm_r (qf_ix f p) ⟨qf_in hf hp, ?_⟩)))
    rw [qf_cp hf hp, K]
    refine pk_eq (w (256 * f + p)) 0 (fun h => ?_) (fun h => ?_)
    · unfold wpY_remove; dsimp only
      refine qf_yt hf (br_f (by decide) (qf_yp ep (nm_r (qf_iy f p) ⟨qf_in hf hp, ?_⟩)))
      rw [qf_cp hf hp, K, h]
      exact br_t rfl ⟨rfl, J⟩
    · have e1 : nI (w (256 * f + p)) - 1 = nI (w (256 * f + p) - 1) := pk_sub (b := 1) (by omega)
      have e2 : nI (qf_S w (256 * f) 256) - 1 = nI (qf_S w (256 * f) 256 - 1) := pk_sub (b := 1) (by omega)
      refine ⟨qf_in hf hp, qf_in hf hp, nm_r (e' := upd t (256 * f + p) (nI (w (256 * f + p) - 1))) (by rw [e1]) ⟨qf_i2 hf, qf_i2 hf, nm_r (e' := upd c f (nI (qf_S w (256 * f) 256 - 1))) (by rw [qf_cf hf, ec, e2]) ⟨qf_in hf hp, ?_⟩⟩⟩
      unfold wpY_remove; dsimp only
      refine qf_yt hf (br_f (by decide) (qf_yp ep (nm_r (qf_iy f p) ⟨qf_in hf hp, ?_⟩)))
      rw [qf_cp hf hp, K]
      refine br_f (nI_ne0 (by omega) (by omega)) ⟨qf_in hf hp, qf_in hf hp, nm_r (e' := upd t (256 * f + p) (nI (w (256 * f + p) - 1))) (by rw [e1]) ⟨qf_in hf hp, rfl, ?_⟩⟩
      exact qf_mk _ (qf_Ku K _ _) (qf_Ru R hf hp (by omega) (by omega))
  · unfold wpX_remove wpY_remove; dsimp only
    exact hX _ (br_t rfl (hY _ _ _ (br_t rfl ⟨rfl, J⟩)))
theorem i_vc_maybe {k : Nat} {u : SX} {v : SY} (I : i_Rel k u v) (hk : k + 3 ≤ 1536) (v1 : Int32) (v2 : Int32) : wpX_maybe (fun r => wpY_maybe (fun r' => r' = r ∧ i_Rel (k + 3) u v) v v1 v2) u v1 v2 := by
  have J := i_up I
  obtain ⟨t, c, s, w, rfl, rfl, K, R⟩ := I
  rcases qf_f v1 with ⟨f, hf, rfl⟩ | ⟨hX, hY⟩
  · obtain ⟨p, hp, ep⟩ := qf_fp v2
    have hy : ∀ r : Int32, ((t (256 * f + p) ≤ 0 → (0 : Int32) = r) ∧ (¬ t (256 * f + p) ≤ 0 → (1 : Int32) = r)) → wpY_maybe (fun r' => r' = r ∧ i_Rel (k + 3) (t, c, s) (t, s)) (t, s) (nI f) v2 := by
      intro r hr
      unfold wpY_maybe; dsimp only
      refine qf_yt hf (br_f (by decide) (qf_yp ep (nm_r (qf_iy f p) ⟨qf_in hf hp, ?_⟩)))
      rw [qf_cp hf hp]
      exact br_c (fun h => ⟨hr.1 h, J⟩) (fun h => ⟨hr.2 h, J⟩)
    unfold wpX_maybe; dsimp only
    refine qf_xt hf (br_f (by decide) (qf_xp ep ?_))
    rw [qf_ix, qf_cp hf hp]
    exact ⟨qf_in hf hp, br_c (fun h => hy 0 (br_t h rfl)) (fun h => hy 1 (br_f h rfl))⟩
  · unfold wpX_maybe wpY_maybe; dsimp only
    exact hX _ (br_t rfl (hY _ _ _ (br_t rfl ⟨rfl, J⟩)))
theorem i_vc_times {k : Nat} {u : SX} {v : SY} (I : i_Rel k u v) (hk : k + 3 ≤ 1536) (v1 : Int32) (v2 : Int32) : wpX_times (fun r => wpY_times (fun r' => r' = r ∧ i_Rel (k + 3) u v) v v1 v2) u v1 v2 := by
  have J := i_up I
  obtain ⟨t, c, s, w, rfl, rfl, K, R⟩ := I
  rcases qf_f v1 with ⟨f, hf, rfl⟩ | ⟨hX, hY⟩
  · unfold wpX_times wpY_times; dsimp only
    refine qf_xt hf (br_f (by decide) ?_)
    rcases pk_ix v2 (n := 256) (by decide) with h | h | ⟨p, hp, rfl⟩
    · exact br_t h (qf_yt hf (br_f (by decide) (br_t h ⟨rfl, J⟩)))
    · have h0 : ¬ v2 < 0 := fun z => absurd (Int32.lt_of_le_of_lt h z) (by decide)
      have h1 : ¬ v2 < 256 := Int32.not_lt.mpr h
      have h2 : (255 : Int32) < v2 := Int32.lt_of_lt_of_le (by decide) h
      exact br_f h0 (br_f h1 (qf_yt hf (br_f (by decide) (br_f h0 (br_t h2 ⟨rfl, J⟩)))))
    · have h0 : ¬ nI p < 0 := nI_pos (by omega)
      have h1 : nI p < 256 := nI_lt (b := 256) hp (by omega)
      have h2 : ¬ (255 : Int32) < nI p := nI_nlt (a := 255) (by omega) (by omega)
      refine br_f h0 (br_t h1 ⟨by rw [qf_ix]; exact qf_in hf hp, qf_yt hf (br_f (by decide) (br_f h0 (br_f h2 ⟨by rw [qf_iy]; exact qf_in hf hp, ?_, J⟩)))⟩)
      rw [qf_ix, qf_iy]
  · unfold wpX_times wpY_times; dsimp only
    exact hX _ (br_t rfl (hY _ _ _ (br_t rfl ⟨rfl, J⟩)))
theorem i_vc_count {k : Nat} {u : SX} {v : SY} (I : i_Rel k u v) (hk : k + 3 ≤ 1536) (v1 : Int32) : wpX_count (fun r => wpY_count (fun r' => r' = r ∧ i_Rel (k + 3) u v) v v1) u v1 := by
  have J := i_up I
  obtain ⟨t, c, s, w, rfl, rfl, K, R⟩ := I
  rcases qf_f v1 with ⟨f, hf, rfl⟩ | ⟨hX, hY⟩
  · unfold wpX_count; dsimp only
    refine qf_xt hf (br_f (by decide) ⟨qf_i2 hf, qf_yc hf K ⟨?_, J⟩⟩)
    rw [qf_cf hf, (R f hf).1]
  · unfold wpX_count wpY_count; dsimp only
    exact hX _ (br_t rfl (hY _ _ _ (br_t rfl ⟨rfl, J⟩)))
theorem i_vc_size {k : Nat} {u : SX} {v : SY} (I : i_Rel k u v) (hk : k + 3 ≤ 1536) (v1 : Int32) : wpX_size (fun r => wpY_size (fun r' => r' = r ∧ i_Rel (k + 3) u v) v v1) u v1 := by
  have J := i_up I
  obtain ⟨t, c, s, w, rfl, rfl, K, R⟩ := I
  unfold wpX_size wpY_size; dsimp only
  rcases qf_f v1 with ⟨f, hf, rfl⟩ | ⟨hX, hY⟩
  · exact qf_xt hf (br_f (by decide) ⟨qf_i2 hf, qf_yt hf (br_f (by decide) ⟨qf_i2 hf, rfl, J⟩)⟩)
  · exact hX _ (br_t rfl (hY _ _ _ (br_t rfl ⟨rfl, J⟩)))
theorem i_vc_print {k : Nat} {u : SX} {v : SY} (I : i_Rel k u v) (hk : k + 3 ≤ 1536) (v1 : Int32) (v2 : Int32) : wpX_print (fun r => wpY_print (fun r' => r' = r ∧ i_Rel (k + 3) u v) v v1 v2) u v1 v2 := by
  have J := i_up I
  obtain ⟨t, c, s, w, rfl, rfl, K, R⟩ := I
  unfold wpX_print wpY_print; dsimp only
  rcases qf_f v1 with ⟨f, hf, rfl⟩ | ⟨hX, hY⟩
  · refine qf_xt hf (br_f (by decide) ?_)
    by_cases h : 0 ≤ v2
    · obtain ⟨r, hX, hY⟩ := qf_pl t c s hf (Int32.not_lt.mpr h) 256 0 0 rfl
      exact br_t h ⟨256 + 1, hX _ (qf_yt hf (br_f (by decide) ⟨256 + 1, hY _ ⟨rfl, J⟩⟩))⟩
    · exact br_f h (qf_yt hf (br_f (by decide) ⟨256 + 1, qf_pn t s hf (Int32.not_le.mp h) ⟨rfl, J⟩ 256 0 0 rfl⟩))
  · exact hX _ (br_t rfl (hY _ _ _ (br_t rfl ⟨rfl, J⟩)))
theorem i_vc_grow {k : Nat} {u : SX} {v : SY} (I : i_Rel k u v) (hk : k + 3 ≤ 1536) (v1 : Int32) : wpX_grow (fun r u' => wpY_grow (fun r' v' => r' = r ∧ i_Rel (k + 3) u' v') v v1) u v1 := by
  have J := i_up I
  obtain ⟨t, c, s, w, rfl, rfl, K, R⟩ := I
  unfold wpX_grow wpY_grow; dsimp only
  rcases qf_f v1 with ⟨f, hf, rfl⟩ | ⟨hX, hY⟩
  · obtain ⟨ec, hc, m, em, hm⟩ := R f hf
    have e1 : nI m * 2 = nI (2 * m) := by rw [Nat.mul_comm]; exact pk_mul m 2
    have e2 : 2 * nI m = nI (2 * m) := pk_mul 2 m
    rw [qf_cf hf, em, e1, e2]
    refine qf_xt hf (br_f (by decide) ⟨qf_i2 hf, ?_⟩)
    by_cases h : m = 64
    · subst h
      exact br_t rfl (qf_yt hf (br_f (by decide) ⟨qf_i2 hf, br_t rfl ⟨rfl, J⟩⟩))
    · have h6 : ¬ nI m = 64 := by
        have hb := qf_Mb hm
        intro z; exact h ((nI_eq (b := 64) (by omega) (by omega)).mp z)
      have hm2 : qf_M (2 * m) := by
        rcases hm with q | q | q | q <;> subst q
        · exact Or.inr (Or.inl rfl)
        · exact Or.inr (Or.inr (Or.inl rfl))
        · exact Or.inr (Or.inr (Or.inr rfl))
        · omega
      exact br_f h6 ⟨qf_i2 hf, qf_i2 hf, nm_e ⟨qf_i2 hf, qf_yt hf (br_f (by decide) ⟨qf_i2 hf, br_f h6 ⟨qf_i2 hf, qf_i2 hf, nm_e ⟨qf_i2 hf, rfl, qf_mk w K (qf_Rs R hm2)⟩⟩⟩)⟩⟩
  · exact hX _ (br_t rfl (hY _ _ _ (br_t rfl ⟨rfl, J⟩)))
theorem i_vc_shrink {k : Nat} {u : SX} {v : SY} (I : i_Rel k u v) (hk : k + 3 ≤ 1536) (v1 : Int32) : wpX_shrink (fun r u' => wpY_shrink (fun r' v' => r' = r ∧ i_Rel (k + 3) u' v') v v1) u v1 := by
  have J := i_up I
  obtain ⟨t, c, s, w, rfl, rfl, K, R⟩ := I
  unfold wpX_shrink wpY_shrink; dsimp only
  rcases qf_f v1 with ⟨f, hf, rfl⟩ | ⟨hX, hY⟩
  · obtain ⟨ec, hc, m, em, hm⟩ := R f hf
    have hb := qf_Mb hm
    have e1 : nI m / 2 = nI (m / 2) := pk_div (d := 2) (by omega) (by omega) (by omega)
    have e2 : nI (m / 2) - 1 = nI (m / 2 - 1) := pk_sub (b := 1) (by omega)
    have n2 : ¬ (2 : Int32) = 0 := by decide
    rw [qf_cf hf, em, e1, e2, ec]
    refine qf_xt hf (br_f (by decide) ⟨qf_i2 hf, ?_⟩)
    by_cases h : m = 8
    · subst h
      exact br_t rfl (qf_yt hf (br_f (by decide) ⟨qf_i2 hf, br_t rfl ⟨rfl, J⟩⟩))
    · have h6 : ¬ nI m = 8 := by
        intro z; exact h ((nI_eq (b := 8) (by omega) (by omega)).mp z)
      have hm2 : qf_M (m / 2) := by
        rcases hm with q | q | q | q <;> subst q
        · omega
        · exact Or.inl rfl
        · exact Or.inr (Or.inl rfl)
        · exact Or.inr (Or.inr (Or.inl rfl))
      refine br_f h6 ⟨qf_i2 hf, qf_i2 hf, n2, qf_fit (qf_S w (256 * f) 256) (m / 2) (by omega) (by omega) (by omega) (fun z => br_f (by decide) ?_) (fun z => br_t rfl ?_)⟩
      · exact ⟨qf_i2 hf, n2, qf_i2 hf, nm_e ⟨qf_i2 hf, qf_yt hf (br_f (by decide) ⟨qf_i2 hf, br_f h6 (qf_yc hf K ⟨qf_i2 hf, n2, br_t (nI_le (by omega) (by omega)) ⟨qf_i2 hf, n2, qf_i2 hf, nm_e ⟨qf_i2 hf, rfl, qf_mk w K (qf_Rs R hm2)⟩⟩⟩)⟩)⟩⟩
      · exact qf_yt hf (br_f (by decide) ⟨qf_i2 hf, br_f h6 (qf_yc hf K ⟨qf_i2 hf, n2, br_f (nI_ge (by omega) (by omega)) ⟨rfl, J⟩⟩)⟩)
  · exact hX _ (br_t rfl (hY _ _ _ (br_t rfl ⟨rfl, J⟩)))
theorem i_vc_pour {k : Nat} {u : SX} {v : SY} (I : i_Rel k u v) (hk : k + 3 ≤ 1536) (v1 : Int32) : wpX_pour (fun r u' => wpY_pour (fun r' v' => r' = r ∧ i_Rel (k + 3) u' v') v v1) u v1 := by
  have J := i_up I
  obtain ⟨t, c, s, w, rfl, rfl, K, R⟩ := I
  rcases qf_f v1 with ⟨f, hf, rfl⟩ | ⟨hX, hY⟩
  · obtain ⟨ec, hc, m, em, hm⟩ := R f hf
    obtain ⟨ec0, hc0, -⟩ := R 0 (by omega)
    obtain ⟨ec1, hc1, -⟩ := R 1 (by omega)
    have hy : ∀ (r : Int32) (u' : SX), ((nI (qf_S w (256 * 0) 256 + qf_S w (256 * 1) 256) ≤ 63 → ∃ n, wY_pour_33 (fun r' v' => r' = r ∧ i_Rel (k + 3) u' v') (nI f) (nI (qf_S w (256 * 0) 256 + qf_S w (256 * 1) 256)) n 0 t s) ∧ (¬ nI (qf_S w (256 * 0) 256 + qf_S w (256 * 1) 256) ≤ 63 → (-2 : Int32) = r ∧ i_Rel (k + 3) u' (t, s))) → wpY_pour (fun r' v' => r' = r ∧ i_Rel (k + 3) u' v') (t, s) (nI f) := by
      intro r u' h
      unfold wpY_pour; dsimp only
      exact qf_yt hf (br_f (by decide) (qf_yc (f := 0) (by omega) K (qf_yc (f := 1) (by omega) K (nm_r (nI_add _ _) h))))
    generalize ea : qf_S w (256 * 0) 256 + qf_S w (256 * 1) 256 = a at hy
    have hsum : qf_S w (256 * f) 256 + qf_S w (256 * (1 - f)) 256 = a := by
      rcases Nat.lt_or_ge f 1 with h1 | h1
      · have e : f = 0 := by omega
        subst e; exact ea
      · have e : f = 1 := by omega
        subst e; rw [Nat.add_comm]; exact ea
    unfold wpX_pour; dsimp only
    refine qf_xt hf (br_f (by decide) (nm_r (e' := nI a) (by rw [ec0, ec1, nI_add, ea]) (qf_fit a 64 (by omega) (by omega) (by omega) (fun z => br_f (by decide) ?_) (fun z => br_t rfl ?_))))
    · have ha : a ≤ 63 := by omega
      obtain ⟨s', g1, g2, gX, gY⟩ := qf_gl hf ha 3 0 m s rfl em hm
      obtain ⟨t', z', K', h1, h2, aX, aY⟩ := qf_al hf 256 0 t w rfl K
      have R' : qf_R z' (upd c f (nI a)) s' := by
        intro g hg
        by_cases e : g = f
        · subst e
          have e3 := qf_Sa (w := w) (z := z') (b := 256 * g) (d := 256 * (1 - g)) 256 (fun j hj => h2 j (by omega) hj)
          rw [e3, hsum]
          exact ⟨pk_us, ha, g1⟩
        · have e3 := qf_Sc (w := w) (z := z') (b := 256 * g) 256 (fun j hj => h1 _ (by omega))
          rw [e3, pk_un e, g2 g e]
          exact R g hg
      unfold wpX_growToFit; dsimp only
      refine ⟨3 + 1, gX _ t c ?_⟩
      dsimp only
      unfold wpX_addTalliesOfOther; dsimp only
      refine nm_r (qf_other hf) ⟨256 + 1, aX _ c s' ?_⟩
      dsimp only
      refine ⟨qf_i2 hf, nm_r (e' := upd c f (nI a)) (by rw [qf_cf hf]) ?_⟩
      refine hy _ _ (br_t (nI_le (b := 63) ha (by omega)) ⟨3 + 1, gY _ t ⟨256 + 1, aY _ _ s' ⟨rfl, qf_mk z' K' R'⟩⟩⟩)
    · exact hy _ _ (br_f (nI_ge (b := a) (a := 63) (by omega) (by omega)) ⟨rfl, J⟩)
  · unfold wpX_pour wpY_pour; dsimp only
    exact hX _ (br_t rfl (hY _ _ _ (br_t rfl ⟨rfl, J⟩)))
theorem i_vc_clear {k : Nat} {u : SX} {v : SY} (I : i_Rel k u v) (hk : k + 3 ≤ 1536) (v1 : Int32) : wpX_clear (fun r u' => wpY_clear (fun r' v' => r' = r ∧ i_Rel (k + 3) u' v') v v1) u v1 := by
  have J := i_up I
  obtain ⟨t, c, s, w, rfl, rfl, K, R⟩ := I
  rcases qf_f v1 with ⟨f, hf, rfl⟩ | ⟨hX, hY⟩
  · obtain ⟨ec, hc, m, em, hm⟩ := R f hf
    obtain ⟨t', z', K', h1, h2, dX, dY⟩ := qf_dl hf 256 0 t w rfl K
    have R' : qf_R z' (upd c f 0) s := by
      intro g hg
      by_cases e : g = f
      · subst e
        have e3 := qf_S0 (z := z') (b := 256 * g) 256 (fun j hj => h2 j (by omega) hj)
        rw [e3]
        exact ⟨pk_us, by omega, (R g hg).2.2⟩
      · have e3 := qf_Sc (w := w) (z := z') (b := 256 * g) 256 (fun j hj => h1 _ (by omega))
        rw [e3, pk_un e]
        exact R g hg
    unfold wpX_clear; dsimp only
    refine qf_xt hf (br_f (by decide) ⟨qf_i2 hf, nm_r (e' := nI (qf_S w (256 * f) 256)) (by rw [qf_cf hf, ec]) ⟨256 + 1, dX _ _ c s ?_⟩⟩)
    unfold wpY_clear; dsimp only
    exact qf_yt hf (br_f (by decide) (qf_yc hf K ⟨256 + 1, dY _ _ s ⟨rfl, qf_mk z' K' R'⟩⟩))
  · unfold wpX_clear wpY_clear; dsimp only
    exact hX _ (br_t rfl (hY _ _ _ (br_t rfl ⟨rfl, J⟩)))
theorem i_vc_printOf {k : Nat} {u : SX} {v : SY} (I : i_Rel k u v) (hk : k + 3 ≤ 1536) (v1 : Int32) : wpX_printOf (fun r => wpY_printOf (fun r' => r' = r ∧ i_Rel (k + 3) u v) v v1) u v1 := by
  have J := i_up I
  obtain ⟨t, c, s, w, rfl, rfl, K, R⟩ := I
  unfold wpX_printOf wpY_printOf wpX_fingerprint; dsimp only
  exact ⟨rfl, J⟩
end
