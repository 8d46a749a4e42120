/-- Y's count is the sum -/
theorem qf_cl {post : Int32 → Prop} {w : Nat → Nat} {t s : Nat → Int32} {f : Nat} (hf : f < 2) (K : qf_K w t) (h : post (nI (qf_S w (256 * f) 256))) : ∀ d j, j + d = 256 → wY_count_14 post (nI f) t s (d + 1) (nI (qf_S w (256 * f) j)) (nI j) := by
  intro d
  induction d with
  | zero =>
    intro j hj
    have e : j = 256 := by omega
    subst e
    exact br_t (nI_le (a := 256) (b := 256) (by omega) (by omega)) h
  | succ d ih =>
    intro j hj
    refine br_f (nI_ge (b := 256) (by omega) (by omega)) ⟨?_, nm_r ?_ (nm_r (nI_1 j) (ih (j + 1) (by omega)))⟩
    · rw [qf_iy]; exact qf_in hf (by omega)
    · rw [qf_iy, qf_cp hf (by omega), K, nI_add]; rfl
theorem qf_yc {post : Int32 → Prop} {w : Nat → Nat} {t s : Nat → Int32} {f : Nat} (hf : f < 2) (K : qf_K w t) (h : post (nI (qf_S w (256 * f) 256))) : wpY_count post (t, s) (nI f) := by
  unfold wpY_count; dsimp only
  exact qf_yt hf (br_f (by decide) ⟨256 + 1, qf_cl hf K h 256 0 rfl⟩)
/-- print: the two loops over one array, k not negative -/
theorem qf_pl (t c s : Nat → Int32) {f : Nat} {k : Int32} (hf : f < 2) (hk : ¬ k < 0) : ∀ d j x, j + d = 256 → ∃ r : Int32, (∀ post : Int32 → Prop, post r → wX_print_21 post (nI f) k t c s (d + 1) x (nI j)) ∧ (∀ post : Int32 → Prop, post r → wY_print_15 post (nI f) k t s (d + 1) x (nI j)) := by
  intro d
  induction d with
  | zero =>
    intro j x hj
    have e : j = 256 := by omega
    subst e
    have h := nI_le (a := 256) (b := 256) (by omega) (by omega)
    exact ⟨-3, fun _ hp => br_t h hp, fun _ hp => br_t h hp⟩
  | succ d ih =>
    intro j x hj
    have h : ¬ (256 : Int32) ≤ nI j := nI_ge (b := 256) (by omega) (by omega)
    have i1 : vp_in (nI f * 256 + nI j) 512 := by rw [qf_ix]; exact qf_in hf (by omega)
    have i2 : vp_in (256 * nI f + nI j) 512 := by rw [qf_iy]; exact qf_in hf (by omega)
    have e1 : x + t (nI f * 256 + nI j).toNatClampNeg = x + t (256 * f + j) := by rw [qf_ix, qf_cp hf (by omega)]
    have e2 : x + t (256 * nI f + nI j).toNatClampNeg = x + t (256 * f + j) := by rw [qf_iy, qf_cp hf (by omega)]
    by_cases z : x + t (256 * f + j) ≤ k
    · obtain ⟨r, hX, hY⟩ := ih (j + 1) (x + t (256 * f + j)) (by omega)
      exact ⟨r, fun post hp => br_f h ⟨i1, nm_r e1 (br_t z (nm_r (nI_1 j) (hX post hp)))⟩, fun post hp => br_f h ⟨i2, nm_r e2 (br_f hk (br_t z (nm_r (nI_1 j) (hY post hp))))⟩⟩
    · exact ⟨nI j, fun post hp => br_f h ⟨i1, nm_r e1 (br_f z hp)⟩, fun post hp => br_f h ⟨i2, nm_r e2 (br_f hk (br_f z hp))⟩⟩
/-- print: Y's loop, k negative -/
theorem qf_pn {post : Int32 → Prop} (t s : Nat → Int32) {f : Nat} {k : Int32} (hf : f < 2) (hk : k < 0) (h3 : post (-3)) : ∀ d j x, j + d = 256 → wY_print_15 post (nI f) k t s (d + 1) x (nI j) := by
  intro d
  induction d with
  | zero =>
    intro j x hj
    have e : j = 256 := by omega
    subst e
    exact br_t (nI_le (a := 256) (b := 256) (by omega) (by omega)) h3
  | succ d ih =>
    intro j x hj
    refine br_f (nI_ge (b := 256) (by omega) (by omega)) ⟨?_, nm_e (br_t hk (nm_r (nI_1 j) (ih (j + 1) _ (by omega))))⟩
    rw [qf_iy]; exact qf_in hf (by omega)
/-- pour: Y's size loop where there is room -/
theorem qf_gy {post : Int32 → SY → Prop} {t s : Nat → Int32} {f p m : Nat} (hf : f < 2) (hp : p ≤ 63) (em : s f = nI m) (hm : qf_M m) (hr : p + 1 ≤ m) (h : ∃ n, wY_pour_72 post (nI f) (nI p) n 0 t s) : ∀ d j, j + d = 3 → wY_pour_33 post (nI f) (nI p) (d + 1) (nI j) t s := by
  have hb := qf_Mb hm
  intro d
  induction d with
  | zero =>
    intro j hj
    have e : j = 3 := by omega
    subst e
    exact br_t (nI_le (a := 3) (b := 3) (by omega) (by omega)) h
  | succ d ih =>
    intro j hj
    refine br_f (nI_ge (b := 3) (by omega) (by omega)) ⟨qf_i2 hf, br_t ?_ (nm_r (nI_1 j) (ih (j + 1) (by omega)))⟩
    rw [qf_cf hf, em, nI_1]
    exact nI_le hr (by omega)
/-- pour: the two size loops -/
theorem qf_gl {f p : Nat} (hf : f < 2) (hp : p ≤ 63) : ∀ d j m (s : Nat → Int32), j + d = 3 → s f = nI m → qf_M m → ∃ s' : Nat → Int32, (∃ m', s' f = nI m' ∧ qf_M m') ∧ (∀ g, g ≠ f → s' g = s g) ∧ (∀ (post : SX → Prop) (t c : Nat → Int32), post (t, c, s') → wX_growToFit_2 post (nI f) (nI p) (d + 1) (nI j) t c s) ∧ (∀ (post : Int32 → SY → Prop) (t : Nat → Int32), (∃ n, wY_pour_72 post (nI f) (nI p) n 0 t s') → wY_pour_33 post (nI f) (nI p) (d + 1) (nI j) t s) := by
  intro d
  induction d with
  | zero =>
    intro j m s hj em hm
    have e : j = 3 := by omega
    subst e
    have h := nI_le (a := 3) (b := 3) (by omega) (by omega)
    exact ⟨s, ⟨m, em, hm⟩, fun _ _ => rfl, fun post t c hp => br_t h hp, fun post t hp => br_t h hp⟩
  | succ d ih =>
    intro j m s hj em hm
    have hb := qf_Mb hm
    have h : ¬ (3 : Int32) ≤ nI j := nI_ge (b := 3) (by omega) (by omega)
    by_cases z : p + 1 ≤ m
    · refine ⟨s, ⟨m, em, hm⟩, fun _ _ => rfl, fun post t c hq => br_f h ⟨qf_i2 hf, ?_⟩, fun post t hq => qf_gy hf hp em hm z hq (d + 1) j hj⟩
      rw [qf_cf hf, em]
      exact qf_fit p m (by omega) (by omega) (by omega) (fun _ => br_f (by decide) hq) (fun y => absurd z (by omega))
    · have hm2 : qf_M (2 * m) := by
        rcases hm with q | q | q | q <;> subst q
        · exact Or.inr (Or.inl rfl)
        · exact Or.inr (Or.inr (Or.inl rfl))
        · exact Or.inr (Or.inr (Or.inr rfl))
        · omega
      obtain ⟨s', g1, g2, gX, gY⟩ := ih (j + 1) (2 * m) (upd s f (nI (2 * m))) (by omega) pk_us hm2
      have e1 : nI m * 2 = nI (2 * m) := by rw [Nat.mul_comm]; exact pk_mul m 2
      have e2 : 2 * nI m = nI (2 * m) := pk_mul 2 m
      refine ⟨s', g1, fun g hg => (g2 g hg).trans (pk_un hg), fun post t c hq => br_f h ⟨qf_i2 hf, ?_⟩, fun post t hq => br_f h ⟨qf_i2 hf, br_f ?_ ⟨qf_i2 hf, qf_i2 hf, nm_r (e' := upd s f (nI (2 * m))) ?_ (nm_r (nI_1 j) (gY post t hq))⟩⟩⟩
      · rw [qf_cf hf, em]
        exact qf_fit p m (by omega) (by omega) (by omega) (fun y => absurd y z) (fun _ => br_t rfl ⟨qf_i2 hf, qf_i2 hf, nm_r (e' := upd s f (nI (2 * m))) (by rw [e1]) (nm_r (nI_1 j) (gX post t c hq))⟩)
      · rw [qf_cf hf, em, nI_1]
        exact nI_ge (by omega) (by omega)
      · rw [qf_cf hf, em, e2]
theorem qf_other {f : Nat} (hf : f < 2) : (1 : Int32) - nI f = nI (1 - f) := pk_sub (a := 1) (by omega)
/-- pour: the two tally loops -/
theorem qf_al {f : Nat} (hf : f < 2) : ∀ d j (t : Nat → Int32) (w : Nat → Nat), j + d = 256 → qf_K w t → ∃ (t' : Nat → Int32) (z : Nat → Nat), qf_K z t' ∧ (∀ i, ¬ (256 * f + j ≤ i ∧ i < 256 * f + 256) → z i = w i) ∧ (∀ i, j ≤ i → i < 256 → z (256 * f + i) = w (256 * f + i) + w (256 * (1 - f) + i)) ∧ (∀ (post : SX → Prop) (c s : Nat → Int32), post (t', c, s) → wX_addTalliesOfOther_6 post (nI f) (nI (1 - f)) (d + 1) (nI j) t c s) ∧ (∀ (post : Int32 → SY → Prop) (x : Int32) (s : Nat → Int32), post x (t', s) → wY_pour_72 post (nI f) x (d + 1) (nI j) t s) := by
  intro d
  induction d with
  | zero =>
    intro j t w hj K
    have e : j = 256 := by omega
    subst e
    have h := nI_le (a := 256) (b := 256) (by omega) (by omega)
    exact ⟨t, w, K, fun _ _ => rfl, fun i h1 h2 => absurd h1 (by omega), fun post c s hp => br_t h hp, fun post x s hp => br_t h hp⟩
  | succ d ih =>
    intro j t w hj K
    have h : ¬ (256 : Int32) ≤ nI j := nI_ge (b := 256) (by omega) (by omega)
    have hj2 : j < 256 := by omega
    have hg : 1 - f < 2 := by omega
    obtain ⟨t', z, K', h1, h2, hX, hY⟩ := ih (j + 1) _ _ (by omega) (qf_Ku K (256 * f + j) (w (256 * f + j) + w (256 * (1 - f) + j)))
    refine ⟨t', z, K', fun i hi => ?_, fun i i1 i2 => ?_, fun post c s hp => ?_, fun post x s hp => ?_⟩
    · rw [h1 i (by omega), qf_un (by omega)]
    · by_cases e : i = j
      · subst e
        rw [h1 _ (by omega), qf_us]
      · rw [h2 i (by omega) i2, qf_un (by omega), qf_un (by omega)]
    · refine br_f h ⟨?_, ?_, ?_, nm_r ?_ (nm_r (nI_1 j) (hX post c s hp))⟩
      · rw [qf_ix]; exact qf_in hf hj2
      · rw [qf_ix]; exact qf_in hg hj2
      · rw [qf_ix]; exact qf_in hf hj2
      · rw [qf_ix, qf_ix, qf_cp hf hj2, qf_cp hg hj2, K, K, nI_add]
    · refine br_f h ⟨?_, ?_, ?_, nm_r ?_ (nm_r (nI_1 j) (hY post x s hp))⟩
      · rw [qf_iy]; exact qf_in hf hj2
      · rw [qf_other hf, qf_iy]; exact qf_in hg hj2
      · rw [qf_iy]; exact qf_in hf hj2
      · rw [qf_other hf, qf_iy, qf_iy, qf_cp hf hj2, qf_cp hg hj2, K, K, nI_add]
/-- clear: the two loops -/
theorem qf_dl {f : Nat} (hf : f < 2) : ∀ d j (t : Nat → Int32) (w : Nat → Nat), j + d = 256 → qf_K w t → ∃ (t' : Nat → Int32) (z : Nat → Nat), qf_K z t' ∧ (∀ i, ¬ (256 * f + j ≤ i ∧ i < 256 * f + 256) → z i = w i) ∧ (∀ i, j ≤ i → i < 256 → z (256 * f + i) = 0) ∧ (∀ (post : Int32 → SX → Prop) (x : Int32) (c s : Nat → Int32), post x (t', upd c f 0, s) → wX_clear_18 post (nI f) x (d + 1) (nI j) t c s) ∧ (∀ (post : Int32 → SY → Prop) (x : Int32) (s : Nat → Int32), post x (t', s) → wY_clear_18 post (nI f) x (d + 1) (nI j) t s) := by
  intro d
  induction d with
  | zero =>
    intro j t w hj K
    have e : j = 256 := by omega
    subst e
    have h := nI_le (a := 256) (b := 256) (by omega) (by omega)
    exact ⟨t, w, K, fun _ _ => rfl, fun i h1 h2 => absurd h1 (by omega), fun post x c s hp => br_t h ⟨qf_i2 hf, nm_r (e' := upd c f 0) (by rw [qf_cf hf]) hp⟩, fun post x s hp => br_t h hp⟩
  | succ d ih =>
    intro j t w hj K
    have h : ¬ (256 : Int32) ≤ nI j := nI_ge (b := 256) (by omega) (by omega)
    have hj2 : j < 256 := by omega
    obtain ⟨t', z, K', h1, h2, hX, hY⟩ := ih (j + 1) _ _ (by omega) (qf_Ku K (256 * f + j) 0)
    refine ⟨t', z, K', fun i hi => ?_, fun i i1 i2 => ?_, fun post x c s hp => ?_, fun post x s hp => ?_⟩
    · rw [h1 i (by omega), qf_un (by omega)]
    · by_cases e : i = j
      · subst e
        rw [h1 _ (by omega), qf_us]
      · exact h2 i (by omega) i2
    · refine br_f h ⟨?_, nm_r ?_ (nm_r (nI_1 j) (hX post x c s hp))⟩
      · rw [qf_ix]; exact qf_in hf hj2
      · rw [qf_ix, qf_cp hf hj2, nI_0]
    · refine br_f h ⟨?_, nm_r ?_ (nm_r (nI_1 j) (hY post x s hp))⟩
      · rw [qf_iy]; exact qf_in hf hj2
      · rw [qf_iy, qf_cp hf hj2, nI_0]
