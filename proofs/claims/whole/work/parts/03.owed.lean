theorem i_vc0 : wpX_init (fun u => wpY_init (fun v => i_Rel 0 u v)) := by
  unfold wpX_init
  refine nm_e (nm_e ?_)
  unfold wpY_init
  refine nm_e (nm_e ?_)
  refine qf_mk (fun _ => 0) (fun _ => rfl) ?_
  intro f hf
  have e : qf_S (fun _ => 0) (256 * f) 256 = 0 := qf_S0 256 (fun _ _ => rfl)
  rw [e]
  refine ⟨rfl, by omega, 8, ?_, Or.inl rfl⟩
  rcases Nat.lt_or_ge f 1 with h1 | h1
  · have e : f = 0 := by omega
    subst e; rfl
  · have e : f = 1 := by omega
    subst e; rfl
theorem i_vc_add {k : Nat} {u : SX} {v : SY} (I : i_Rel k u v) (hk : k + 3 ≤ 1536) (v1 : Int32) (v2 : Int32) : wpX_add (fun r u' => wpY_add (fun r' v' => r' = r ∧ i_Rel (k + 3) u' v') v v1 v2) u v1 v2 := by
  have J := i_up I
  obtain ⟨t, c, s, w, rfl, rfl, K, R⟩ := I
  rcases qf_f v1 with ⟨f, hf, rfl⟩ | ⟨hX, hY⟩
  · obtain ⟨ec, hc, m, em, hm⟩ := R f hf
    obtain ⟨p, hp, ep⟩ := qf_fp v2
    have hb := qf_Mb hm
    have e1 : nI m - 1 = nI (m - 1) := pk_sub (b := 1) (by omega)
    unfold wpX_add; dsimp only
    refine qf_xt hf (br_f (by decide) ⟨qf_i2 hf, qf_i2 hf, ?_⟩)
    rw [qf_cf hf, ec, em, nI_1 (qf_S w (256 * f) 256)]
    refine qf_fit (qf_S w (256 * f) 256 + 1) m (by omega) (by omega) (by omega) (fun h => br_f (by decide) ?_) (fun h => br_t rfl ?_)
    · refine qf_xp ep (nm_r (qf_ix f p) ⟨qf_in hf hp, qf_in hf hp, nm_r (e' := upd t (256 * f + p) (nI (w (256 * f + p) + 1))) ?_ ⟨qf_i2 hf, qf_i2 hf, nm_e ⟨qf_in hf hp, ?_⟩⟩⟩)
      · rw [qf_cp hf hp, K, nI_1]
      · unfold wpY_add; dsimp only
        refine qf_yt hf (br_f (by decide) (qf_yc hf K ⟨qf_i2 hf, ?_⟩))
        rw [qf_cf hf, em, e1]
        refine br_t (nI_lt (by omega) (by omega)) ?_
        refine qf_yp ep (nm_r (qf_iy f p) ⟨qf_in hf hp, qf_in hf hp, nm_r (e' := upd t (256 * f + p) (nI (w (256 * f + p) + 1))) ?_ ⟨qf_in hf hp, rfl, ?_⟩⟩)
        · rw [qf_cp hf hp, K, nI_1]
        · exact qf_mk _ (qf_Ku K _ _) (qf_Ru R hf hp (by omega) (by omega))
    · unfold wpY_add; dsimp only
      refine qf_yt hf (br_f (by decide) (qf_yc hf K ⟨qf_i2 hf, ?_⟩))
      rw [qf_cf hf, em, e1]
      exact br_f (nI_nlt (by omega) (by omega)) ⟨rfl, J⟩
  · unfold wpX_add wpY_add; dsimp only
    exact hX _ (br_t rfl (hY _ _ _ (br_t rfl ⟨rfl, J⟩)))
theorem i_vc_remove {k : Nat} {u : SX} {v : SY} (I : i_Rel k u v) (hk : k + 3 ≤ 1536) (v1 : Int32) (v2 : Int32) : wpX_remove (fun r u' => wpY_remove (fun r' v' => r' = r ∧ i_Rel (k + 3) u' v') v v1 v2) u v1 v2 := by
  have J := i_up I
  obtain ⟨t, c, s, w, rfl, rfl, K, R⟩ := I
  rcases qf_f v1 with ⟨f, hf, rfl⟩ | ⟨hX, hY⟩
  · obtain ⟨ec, hc, m, em, hm⟩ := R f hf
    obtain ⟨p, hp, ep⟩ := qf_fp v2
    have hg := qf_Sg (w := w) (b := 256 * f) (p := p) 256 hp
    unfold wpX_remove; dsimp only
    refine qf_xt hf (br_f (by decide) (qf_xp ep (nm_r (qf_ix f p) ⟨qf_in hf hp, ?_⟩)))
    rw [qf_cp hf hp, K]
    refine pk_eq (w (256 * f + p)) 0 (fun h => ?_) (fun h => ?_)
    · unfold wpY_remove; dsimp only
      refine qf_yt hf (br_f (by decide) (qf_yp ep (nm_r (qf_iy f p) ⟨qf_in hf hp, ?_⟩)))
      rw [qf_cp hf hp, K, h]
      exact br_t rfl ⟨rfl, J⟩
    · have e1 : nI (w (256 * f + p)) - 1 = nI (w (256 * f + p) - 1) := pk_sub (b := 1) (by omega)
      have e2 : nI (qf_S w (256 * f) 256) - 1 = nI (qf_S w (256 * f) 256 - 1) := pk_sub (b := 1) (by omega)
      refine ⟨qf_in hf hp, qf_in hf hp, nm_r (e' := upd t (256 * f + p) (nI (w (256 * f + p) - 1))) (by rw [e1]) ⟨qf_i2 hf, qf_i2 hf, nm_r (e' := upd c f (nI (qf_S w (256 * f) 256 - 1))) (by rw [qf_cf hf, ec, e2]) ⟨qf_in hf hp, ?_⟩⟩⟩
      unfold wpY_remove; dsimp only
      refine qf_yt hf (br_f (by decide) (qf_yp ep (nm_r (qf_iy f p) ⟨qf_in hf hp, ?_⟩)))
      rw [qf_cp hf hp, K]
      refine br_f (nI_ne0 (by omega) (by omega)) ⟨qf_in hf hp, qf_in hf hp, nm_r (e' := upd t (256 * f + p) (nI (w (256 * f + p) - 1))) (by rw [e1]) ⟨qf_in hf hp, rfl, ?_⟩⟩
      exact qf_mk _ (qf_Ku K _ _) (qf_Ru R hf hp (by omega) (by omega))
  · unfold wpX_remove wpY_remove; dsimp only
    exact hX _ (br_t rfl (hY _ _ _ (br_t rfl ⟨rfl, J⟩)))
theorem i_vc_maybe {k : Nat} {u : SX} {v : SY} (I : i_Rel k u v) (hk : k + 3 ≤ 1536) (v1 : Int32) (v2 : Int32) : wpX_maybe (fun r => wpY_maybe (fun r' => r' = r ∧ i_Rel (k + 3) u v) v v1 v2) u v1 v2 := by
  have J := i_up I
  obtain ⟨t, c, s, w, rfl, rfl, K, R⟩ := I
  rcases qf_f v1 with ⟨f, hf, rfl⟩ | ⟨hX, hY⟩
  · obtain ⟨p, hp, ep⟩ := qf_fp v2
    have hy : ∀ r : Int32, ((t (256 * f + p) ≤ 0 → (0 : Int32) = r) ∧ (¬ t (256 * f + p) ≤ 0 → (1 : Int32) = r)) → wpY_maybe (fun r' => r' = r ∧ i_Rel (k + 3) (t, c, s) (t, s)) (t, s) (nI f) v2 := by
      intro r hr
      unfold wpY_maybe; dsimp only
      refine qf_yt hf (br_f (by decide) (qf_yp ep (nm_r (qf_iy f p) ⟨qf_in hf hp, ?_⟩)))
      rw [qf_cp hf hp]
      exact br_c (fun h => ⟨hr.1 h, J⟩) (fun h => ⟨hr.2 h, J⟩)
    unfold wpX_maybe; dsimp only
    refine qf_xt hf (br_f (by decide) (qf_xp ep ?_))
    rw [qf_ix, qf_cp hf hp]
    exact ⟨qf_in hf hp, br_c (fun h => hy 0 (br_t h rfl)) (fun h => hy 1 (br_f h rfl))⟩
  · unfold wpX_maybe wpY_maybe; dsimp only
    exact hX _ (br_t rfl (hY _ _ _ (br_t rfl ⟨rfl, J⟩)))
theorem i_vc_times {k : Nat} {u : SX} {v : SY} (I : i_Rel k u v) (hk : k + 3 ≤ 1536) (v1 : Int32) (v2 : Int32) : wpX_times (fun r => wpY_times (fun r' => r' = r ∧ i_Rel (k + 3) u v) v v1 v2) u v1 v2 := by
  have J := i_up I
  obtain ⟨t, c, s, w, rfl, rfl, K, R⟩ := I
  rcases qf_f v1 with ⟨f, hf, rfl⟩ | ⟨hX, hY⟩
  · unfold wpX_times wpY_times; dsimp only
    refine qf_xt hf (br_f (by decide) ?_)
    rcases pk_ix v2 (n := 256) (by decide) with h | h | ⟨p, hp, rfl⟩
    · exact br_t h (qf_yt hf (br_f (by decide) (br_t h ⟨rfl, J⟩)))
    · have h0 : ¬ v2 < 0 := fun z => absurd (Int32.lt_of_le_of_lt h z) (by decide)
      have h1 : ¬ v2 < 256 := Int32.not_lt.mpr h
      have h2 : (255 : Int32) < v2 := Int32.lt_of_lt_of_le (by decide) h
      exact br_f h0 (br_f h1 (qf_yt hf (br_f (by decide) (br_f h0 (br_t h2 ⟨rfl, J⟩)))))
    · have h0 : ¬ nI p < 0 := nI_pos (by omega)
      have h1 : nI p < 256 := nI_lt (b := 256) hp (by omega)
      have h2 : ¬ (255 : Int32) < nI p := nI_nlt (a := 255) (by omega) (by omega)
      refine br_f h0 (br_t h1 ⟨by rw [qf_ix]; exact qf_in hf hp, qf_yt hf (br_f (by decide) (br_f h0 (br_f h2 ⟨by rw [qf_iy]; exact qf_in hf hp, ?_, J⟩)))⟩)
      rw [qf_ix, qf_iy]
  · unfold wpX_times wpY_times; dsimp only
    exact hX _ (br_t rfl (hY _ _ _ (br_t rfl ⟨rfl, J⟩)))
theorem i_vc_count {k : Nat} {u : SX} {v : SY} (I : i_Rel k u v) (hk : k + 3 ≤ 1536) (v1 : Int32) : wpX_count (fun r => wpY_count (fun r' => r' = r ∧ i_Rel (k + 3) u v) v v1) u v1 := by
  have J := i_up I
  obtain ⟨t, c, s, w, rfl, rfl, K, R⟩ := I
  rcases qf_f v1 with ⟨f, hf, rfl⟩ | ⟨hX, hY⟩
  · unfold wpX_count; dsimp only
    refine qf_xt hf (br_f (by decide) ⟨qf_i2 hf, qf_yc hf K ⟨?_, J⟩⟩)
    rw [qf_cf hf, (R f hf).1]
  · unfold wpX_count wpY_count; dsimp only
    exact hX _ (br_t rfl (hY _ _ _ (br_t rfl ⟨rfl, J⟩)))
theorem i_vc_size {k : Nat} {u : SX} {v : SY} (I : i_Rel k u v) (hk : k + 3 ≤ 1536) (v1 : Int32) : wpX_size (fun r => wpY_size (fun r' => r' = r ∧ i_Rel (k + 3) u v) v v1) u v1 := by
  have J := i_up I
  obtain ⟨t, c, s, w, rfl, rfl, K, R⟩ := I
  unfold wpX_size wpY_size; dsimp only
  rcases qf_f v1 with ⟨f, hf, rfl⟩ | ⟨hX, hY⟩
  · exact qf_xt hf (br_f (by decide) ⟨qf_i2 hf, qf_yt hf (br_f (by decide) ⟨qf_i2 hf, rfl, J⟩)⟩)
  · exact hX _ (br_t rfl (hY _ _ _ (br_t rfl ⟨rfl, J⟩)))
theorem i_vc_print {k : Nat} {u : SX} {v : SY} (I : i_Rel k u v) (hk : k + 3 ≤ 1536) (v1 : Int32) (v2 : Int32) : wpX_print (fun r => wpY_print (fun r' => r' = r ∧ i_Rel (k + 3) u v) v v1 v2) u v1 v2 := by
  have J := i_up I
  obtain ⟨t, c, s, w, rfl, rfl, K, R⟩ := I
  unfold wpX_print wpY_print; dsimp only
  rcases qf_f v1 with ⟨f, hf, rfl⟩ | ⟨hX, hY⟩
  · refine qf_xt hf (br_f (by decide) ?_)
    by_cases h : 0 ≤ v2
    · obtain ⟨r, hX, hY⟩ := qf_pl t c s hf (Int32.not_lt.mpr h) 256 0 0 rfl
      exact br_t h ⟨256 + 1, hX _ (qf_yt hf (br_f (by decide) ⟨256 + 1, hY _ ⟨rfl, J⟩⟩))⟩
    · exact br_f h (qf_yt hf (br_f (by decide) ⟨256 + 1, qf_pn t s hf (Int32.not_le.mp h) ⟨rfl, J⟩ 256 0 0 rfl⟩))
  · exact hX _ (br_t rfl (hY _ _ _ (br_t rfl ⟨rfl, J⟩)))
theorem i_vc_grow {k : Nat} {u : SX} {v : SY} (I : i_Rel k u v) (hk : k + 3 ≤ 1536) (v1 : Int32) : wpX_grow (fun r u' => wpY_grow (fun r' v' => r' = r ∧ i_Rel (k + 3) u' v') v v1) u v1 := by
  have J := i_up I
  obtain ⟨t, c, s, w, rfl, rfl, K, R⟩ := I
  unfold wpX_grow wpY_grow; dsimp only
  rcases qf_f v1 with ⟨f, hf, rfl⟩ | ⟨hX, hY⟩
  · obtain ⟨ec, hc, m, em, hm⟩ := R f hf
    have e1 : nI m * 2 = nI (2 * m) := by rw [Nat.mul_comm]; exact pk_mul m 2
    have e2 : 2 * nI m = nI (2 * m) := pk_mul 2 m
    rw [qf_cf hf, em, e1, e2]
    refine qf_xt hf (br_f (by decide) ⟨qf_i2 hf, ?_⟩)
    by_cases h : m = 64
    · subst h
      exact br_t rfl (qf_yt hf (br_f (by decide) ⟨qf_i2 hf, br_t rfl ⟨rfl, J⟩⟩))
    · have h6 : ¬ nI m = 64 := by
        have hb := qf_Mb hm
        intro z; exact h ((nI_eq (b := 64) (by omega) (by omega)).mp z)
      have hm2 : qf_M (2 * m) := by
        rcases hm with q | q | q | q <;> subst q
        · exact Or.inr (Or.inl rfl)
        · exact Or.inr (Or.inr (Or.inl rfl))
        · exact Or.inr (Or.inr (Or.inr rfl))
        · omega
      exact br_f h6 ⟨qf_i2 hf, qf_i2 hf, nm_e ⟨qf_i2 hf, qf_yt hf (br_f (by decide) ⟨qf_i2 hf, br_f h6 ⟨qf_i2 hf, qf_i2 hf, nm_e ⟨qf_i2 hf, rfl, qf_mk w K (qf_Rs R hm2)⟩⟩⟩)⟩⟩
  · exact hX _ (br_t rfl (hY _ _ _ (br_t rfl ⟨rfl, J⟩)))
theorem i_vc_shrink {k : Nat} {u : SX} {v : SY} (I : i_Rel k u v) (hk : k + 3 ≤ 1536) (v1 : Int32) : wpX_shrink (fun r u' => wpY_shrink (fun r' v' => r' = r ∧ i_Rel (k + 3) u' v') v v1) u v1 := by
  have J := i_up I
  obtain ⟨t, c, s, w, rfl, rfl, K, R⟩ := I
  unfold wpX_shrink wpY_shrink; dsimp only
  rcases qf_f v1 with ⟨f, hf, rfl⟩ | ⟨hX, hY⟩
  · obtain ⟨ec, hc, m, em, hm⟩ := R f hf
    have hb := qf_Mb hm
    have e1 : nI m / 2 = nI (m / 2) := pk_div (d := 2) (by omega) (by omega) (by omega)
    have e2 : nI (m / 2) - 1 = nI (m / 2 - 1) := pk_sub (b := 1) (by omega)
    have n2 : ¬ (2 : Int32) = 0 := by decide
    rw [qf_cf hf, em, e1, e2, ec]
    refine qf_xt hf (br_f (by decide) ⟨qf_i2 hf, ?_⟩)
    by_cases h : m = 8
    · subst h
      exact br_t rfl (qf_yt hf (br_f (by decide) ⟨qf_i2 hf, br_t rfl ⟨rfl, J⟩⟩))
    · have h6 : ¬ nI m = 8 := by
        intro z; exact h ((nI_eq (b := 8) (by omega) (by omega)).mp z)
      have hm2 : qf_M (m / 2) := by
        rcases hm with q | q | q | q <;> subst q
        · omega
        · exact Or.inl rfl
        · exact Or.inr (Or.inl rfl)
        · exact Or.inr (Or.inr (Or.inl rfl))
      refine br_f h6 ⟨qf_i2 hf, qf_i2 hf, n2, qf_fit (qf_S w (256 * f) 256) (m / 2) (by omega) (by omega) (by omega) (fun z => br_f (by decide) ?_) (fun z => br_t rfl ?_)⟩
      · exact ⟨qf_i2 hf, n2, qf_i2 hf, nm_e ⟨qf_i2 hf, qf_yt hf (br_f (by decide) ⟨qf_i2 hf, br_f h6 (qf_yc hf K ⟨qf_i2 hf, n2, br_t (nI_le (by omega) (by omega)) ⟨qf_i2 hf, n2, qf_i2 hf, nm_e ⟨qf_i2 hf, rfl, qf_mk w K (qf_Rs R hm2)⟩⟩⟩)⟩)⟩⟩
      · exact qf_yt hf (br_f (by decide) ⟨qf_i2 hf, br_f h6 (qf_yc hf K ⟨qf_i2 hf, n2, br_f (nI_ge (by omega) (by omega)) ⟨rfl, J⟩⟩)⟩)
  · exact hX _ (br_t rfl (hY _ _ _ (br_t rfl ⟨rfl, J⟩)))
theorem i_vc_pour {k : Nat} {u : SX} {v : SY} (I : i_Rel k u v) (hk : k + 3 ≤ 1536) (v1 : Int32) : wpX_pour (fun r u' => wpY_pour (fun r' v' => r' = r ∧ i_Rel (k + 3) u' v') v v1) u v1 := by
  have J := i_up I
  obtain ⟨t, c, s, w, rfl, rfl, K, R⟩ := I
  rcases qf_f v1 with ⟨f, hf, rfl⟩ | ⟨hX, hY⟩
  · obtain ⟨ec, hc, m, em, hm⟩ := R f hf
    obtain ⟨ec0, hc0, -⟩ := R 0 (by omega)
    obtain ⟨ec1, hc1, -⟩ := R 1 (by omega)
    have hy : ∀ (r : Int32) (u' : SX), ((nI (qf_S w (256 * 0) 256 + qf_S w (256 * 1) 256) ≤ 63 → ∃ n, wY_pour_33 (fun r' v' => r' = r ∧ i_Rel (k + 3) u' v') (nI f) (nI (qf_S w (256 * 0) 256 + qf_S w (256 * 1) 256)) n 0 t s) ∧ (¬ nI (qf_S w (256 * 0) 256 + qf_S w (256 * 1) 256) ≤ 63 → (-2 : Int32) = r ∧ i_Rel (k + 3) u' (t, s))) → wpY_pour (fun r' v' => r' = r ∧ i_Rel (k + 3) u' v') (t, s) (nI f) := by
      intro r u' h
      unfold wpY_pour; dsimp only
      exact qf_yt hf (br_f (by decide) (qf_yc (f := 0) (by omega) K (qf_yc (f := 1) (by omega) K (nm_r (nI_add _ _) h))))
    generalize ea : qf_S w (256 * 0) 256 + qf_S w (256 * 1) 256 = a at hy
    have hsum : qf_S w (256 * f) 256 + qf_S w (256 * (1 - f)) 256 = a := by
      rcases Nat.lt_or_ge f 1 with h1 | h1
      · have e : f = 0 := by omega
        subst e; exact ea
      · have e : f = 1 := by omega
        subst e; rw [Nat.add_comm]; exact ea
    unfold wpX_pour; dsimp only
    refine qf_xt hf (br_f (by decide) (nm_r (e' := nI a) (by rw [ec0, ec1, nI_add, ea]) (qf_fit a 64 (by omega) (by omega) (by omega) (fun z => br_f (by decide) ?_) (fun z => br_t rfl ?_))))
    · have ha : a ≤ 63 := by omega
      obtain ⟨s', g1, g2, gX, gY⟩ := qf_gl hf ha 3 0 m s rfl em hm
      obtain ⟨t', z', K', h1, h2, aX, aY⟩ := qf_al hf 256 0 t w rfl K
      have R' : qf_R z' (upd c f (nI a)) s' := by
        intro g hg
        by_cases e : g = f
        · subst e
          have e3 := qf_Sa (w := w) (z := z') (b := 256 * g) (d := 256 * (1 - g)) 256 (fun j hj => h2 j (by omega) hj)
          rw [e3, hsum]
          exact ⟨pk_us, ha, g1⟩
        · have e3 := qf_Sc (w := w) (z := z') (b := 256 * g) 256 (fun j hj => h1 _ (by omega))
          rw [e3, pk_un e, g2 g e]
          exact R g hg
      unfold wpX_growToFit; dsimp only
      refine ⟨3 + 1, gX _ t c ?_⟩
      dsimp only
      unfold wpX_addTalliesOfOther; dsimp only
      refine nm_r (qf_other hf) ⟨256 + 1, aX _ c s' ?_⟩
      dsimp only
      refine ⟨qf_i2 hf, nm_r (e' := upd c f (nI a)) (by rw [qf_cf hf]) ?_⟩
      refine hy _ _ (br_t (nI_le (b := 63) ha (by omega)) ⟨3 + 1, gY _ t ⟨256 + 1, aY _ _ s' ⟨rfl, qf_mk z' K' R'⟩⟩⟩)
    · exact hy _ _ (br_f (nI_ge (b := a) (a := 63) (by omega) (by omega)) ⟨rfl, J⟩)
  · unfold wpX_pour wpY_pour; dsimp only
    exact hX _ (br_t rfl (hY _ _ _ (br_t rfl ⟨rfl, J⟩)))
theorem i_vc_clear {k : Nat} {u : SX} {v : SY} (I : i_Rel k u v) (hk : k + 3 ≤ 1536) (v1 : Int32) : wpX_clear (fun r u' => wpY_clear (fun r' v' => r' = r ∧ i_Rel (k + 3) u' v') v v1) u v1 := by
  have J := i_up I
  obtain ⟨t, c, s, w, rfl, rfl, K, R⟩ := I
  rcases qf_f v1 with ⟨f, hf, rfl⟩ | ⟨hX, hY⟩
  · obtain ⟨ec, hc, m, em, hm⟩ := R f hf
    obtain ⟨t', z', K', h1, h2, dX, dY⟩ := qf_dl hf 256 0 t w rfl K
    have R' : qf_R z' (upd c f 0) s := by
      intro g hg
      by_cases e : g = f
      · subst e
        have e3 := qf_S0 (z := z') (b := 256 * g) 256 (fun j hj => h2 j (by omega) hj)
        rw [e3]
        exact ⟨pk_us, by omega, (R g hg).2.2⟩
      · have e3 := qf_Sc (w := w) (z := z') (b := 256 * g) 256 (fun j hj => h1 _ (by omega))
        rw [e3, pk_un e]
        exact R g hg
    unfold wpX_clear; dsimp only
    refine qf_xt hf (br_f (by decide) ⟨qf_i2 hf, nm_r (e' := nI (qf_S w (256 * f) 256)) (by rw [qf_cf hf, ec]) ⟨256 + 1, dX _ _ c s ?_⟩⟩)
    unfold wpY_clear; dsimp only
    exact qf_yt hf (br_f (by decide) (qf_yc hf K ⟨256 + 1, dY _ _ s ⟨rfl, qf_mk z' K' R'⟩⟩))
  · unfold wpX_clear wpY_clear; dsimp only
    exact hX _ (br_t rfl (hY _ _ _ (br_t rfl ⟨rfl, J⟩)))
theorem i_vc_printOf {k : Nat} {u : SX} {v : SY} (I : i_Rel k u v) (hk : k + 3 ≤ 1536) (v1 : Int32) : wpX_printOf (fun r => wpY_printOf (fun r' => r' = r ∧ i_Rel (k + 3) u v) v v1) u v1 := by
  have J := i_up I
  obtain ⟨t, c, s, w, rfl, rfl, K, R⟩ := I
  unfold wpX_printOf wpY_printOf wpX_fingerprint; dsimp only
  exact ⟨rfl, J⟩
