/-! the other owed statements -/
section
variable {nl nt cl se vd lk rc vy : Int32} {op ar ln en so lv lw ed pa re fp fc dp hd hc hy cy fp' fc' dp' : Nat → Int32}
theorem ly_cyc {post : Int32 → Prop} {l : Nat} (h8 : l < 8) (h1 : ¬ re (l * 8 + l) = 0) (h0 : ∀ j, j < l → re (j * 8 + j) = 0) (hp : post (nI l)) : ∀ (r n k : Nat), k + r = l → r < n → wY_cycleLock_19 post nl nt cl se vd rc op ar ln en so ed re lv hd hc fp fc dp n (nI k) := by
  intro r
  induction r with
  | zero =>
    intro n k hk hn
    obtain ⟨n, rfl⟩ : ∃ m, n = m + 1 := ⟨n - 1, by omega⟩
    have e : k = l := by omega
    subst e
    have c1 : (nI (k * 8 + k)).toNatClampNeg = k * 8 + k := nI_clamp (by omega)
    refine pk_le 8 k (fun h => absurd h (by omega)) (fun _ => ?_)
    rw [ll_cel k k, c1]
    exact And.intro (vp_in_nI (by omega) (by decide)) (br_f h1 hp)
  | succ r ih =>
    intro n k hk hn
    obtain ⟨n, rfl⟩ : ∃ m, n = m + 1 := ⟨n - 1, by omega⟩
    have c1 : (nI (k * 8 + k)).toNatClampNeg = k * 8 + k := nI_clamp (by omega)
    refine pk_le 8 k (fun h => absurd h (by omega)) (fun _ => ?_)
    rw [ll_cel k k, c1]
    exact And.intro (vp_in_nI (by omega) (by decide)) (br_t (h0 k (by omega)) (nm_r (nI_1 k) (ih n (k + 1) (by omega) (by omega))))
end
theorem i_vc_check {k : Nat} {u : SX} {v : SY} (I : i_Rel k u v) (hk : k + 4 ≤ 2050) : wpX_check (fun r u' => wpY_check (fun r' v' => r' = r ∧ i_Rel (k + 4) u' v') v) u := by
  have I0 := I
  obtain ⟨L, T, cl, se, vd, lk, vy, op, ar, ln, en, so, lv, ed, pa, fp, fc, dp, hd, hc, re, lw, hy, cy, rfl, rfl, hL2, hL, hT1, hT, C, hen, B, M⟩ := I
  rcases M with ⟨rfl, rfl, rfl, hlv, hlw, hdp⟩ | ⟨rfl, rfl, M⟩
  · obtain ⟨so', fp', fc', dp', hd', hc', hy', cy', ed', S', B', hso, cX, cY⟩ := lm_checks (cl := cl) (se := 1) (vd := -1) (lk := -1) (vy := vy) (lv := lv) (lw := lw) (pa := pa) (re := re) hL hT C hen T 0 so fp fc dp hd hc hy cy ed (by omega) (ll_TS0 hT hdp) B (fun s hs => absurd hs (by omega))
    obtain ⟨fp2, fc2, dp2, S2, rX, rY⟩ := lm_restart hL hT C hen S'
    refine br_t rfl ⟨T + 1, cX _ (T + 1) (by omega) (fun n => ?_)⟩
    refine pk_le T T (fun _ => ?_) (fun h => absurd h (by omega))
    by_cases lg : ∃ s, s < T ∧ so' s = nI 513
    · refine lx_verL hT hso lg ?_
      refine rX _ _ _ _ _ _ _ _ _ _ _ ?_
      refine br_t rfl ⟨T + 1, cY _ (T + 1) (by omega) (fun n => ?_)⟩
      refine pk_le T T (fun _ => ?_) (fun h => absurd h (by omega))
      refine ly_verL hT hso lg ?_
      unfold wY_check_362
      refine rY _ _ _ _ _ _ _ _ _ _ _ ?_
      refine ⟨rfl, L, T, _, _, _, _, _, _, _, _, _, _, _, _, _, _, _, _, _, _, _, _, _, _, rfl, rfl, hL2, hL, hT1, hT, C, hen, ?_, Or.inr ⟨rfl, rfl, S2, ll_LKf hL, fun z => absurd z (by decide), Or.inr ⟨by decide, rfl⟩⟩⟩
      refine ⟨fun j => ?_, fun a b ha hb h => ?_⟩
      · by_cases x : j < 64
        · rw [ll_fl_t x]; exact Or.inl rfl
        · rw [ll_fl_f (by omega)]; exact B'.1 j
      · rw [ll_fl_t (by omega)] at h
        exact absurd rfl h
    · have hs : ∀ s, s < T → ∃ m, m ≤ 512 ∧ so' s = nI m := by
        intro s hs
        obtain ⟨m, hm, e⟩ := hso s hs
        have x : m ≠ 513 := fun x => lg ⟨s, hs, by rw [e, x]⟩
        exact ⟨m, by omega, e⟩
      refine lx_verN hL2 hL hT hs B' hlv (fun pa' l hl hP hlo => ?_) (fun pa' lv' lev' hac q1 q2 => ?_)
      · refine rX _ _ _ _ _ _ _ _ _ _ _ ?_
        refine br_t rfl ⟨T + 1, cY _ (T + 1) (by omega) (fun n => ?_)⟩
        refine pk_le T T (fun _ => ?_) (fun h => absurd h (by omega))
        refine ly_verN hL hT hs B' hlw (fun re' J _ => ?_) (fun re' lv' lev' hac _ _ => absurd hP (hac l))
        unfold wY_check_362
        refine rY _ _ _ _ _ _ _ _ _ _ _ ?_
        refine ⟨rfl, L, T, _, _, _, _, _, _, _, _, _, _, _, _, _, _, _, _, _, _, _, _, _, _, rfl, rfl, hL2, hL, hT1, hT, C, hen, B', Or.inr ⟨rfl, rfl, S2, ll_LKf hL, fun z => absurd z (by decide), Or.inl ⟨rfl, l, hl, rfl, (J l l (by omega) (by omega)).mpr hP, fun j hj => ?_⟩⟩⟩
        by_cases x : re' (j * 8 + j) = 0
        · exact x
        · exact absurd ((J j j (by omega) (by omega)).mp x) (hlo j hj)
      · refine rX _ _ _ _ _ _ _ _ _ _ _ ?_
        refine br_t rfl ⟨T + 1, cY _ (T + 1) (by omega) (fun n => ?_)⟩
        refine pk_le T T (fun _ => ?_) (fun h => absurd h (by omega))
        refine ly_verN hL hT hs B' hlw (fun re' J hc => ?_) (fun re' lw' lev2 _ q3 q4 => ?_)
        · obtain ⟨l, hl⟩ := hc
          exact absurd hl (hac l)
        · unfold wY_check_362
          refine rY _ _ _ _ _ _ _ _ _ _ _ ?_
          refine ⟨rfl, L, T, _, _, _, _, _, _, _, _, _, _, _, _, _, _, _, _, _, _, _, _, _, _, rfl, rfl, hL2, hL, hT1, hT, C, hen, B', Or.inr ⟨rfl, rfl, S2, ll_LKf hL, fun _ l hl => ?_, Or.inr ⟨by decide, rfl⟩⟩⟩
          rw [q1 l (by omega), q3 l (by omega), gr_uniq (ll_Edom B') hac q4 q2 (by omega) (by omega) l]
  · exact br_f ll_1n0 (br_f ll_1n0 ⟨rfl, I0⟩)
theorem i_vc_restart {k : Nat} {u : SX} {v : SY} (I : i_Rel k u v) (hk : k + 4 ≤ 2050) : wpX_restart (fun r u' => wpY_restart (fun r' v' => r' = r ∧ i_Rel (k + 4) u' v') v) u := by
  have I0 := I
  obtain ⟨L, T, cl, se, vd, lk, vy, op, ar, ln, en, so, lv, ed, pa, fp, fc, dp, hd, hc, re, lw, hy, cy, rfl, rfl, hL2, hL, hT1, hT, C, hen, B, M⟩ := I
  rcases M with ⟨rfl, M⟩ | ⟨rfl, rfl, S, K, M1, M2⟩
  · exact br_t rfl (br_t rfl ⟨rfl, I0⟩)
  · obtain ⟨fp2, fc2, dp2, S2, rX, rY⟩ := lm_restart hL hT C hen S
    refine br_f ll_1n0 ?_
    refine rX _ _ _ _ _ _ _ _ _ _ _ ?_
    refine br_f ll_1n0 ?_
    refine rY _ _ _ _ _ _ _ _ _ _ _ ?_
    exact ⟨rfl, L, T, _, _, _, _, _, _, _, _, _, _, _, _, _, _, _, _, _, _, _, _, _, _, rfl, rfl, hL2, hL, hT1, hT, C, hen, B, Or.inr ⟨rfl, rfl, S2, ll_LKf hL, M1, M2⟩⟩
theorem i_vc_step {k : Nat} {u : SX} {v : SY} (I : i_Rel k u v) (hk : k + 4 ≤ 2050) (v1 : Int32) : wpX_step (fun r u' => wpY_step (fun r' v' => r' = r ∧ i_Rel (k + 4) u' v') v v1) u v1 := by
  have I0 := I
  obtain ⟨L, T, cl, se, vd, lk, vy, op, ar, ln, en, so, lv, ed, pa, fp, fc, dp, hd, hc, re, lw, hy, cy, rfl, rfl, hL2, hL, hT1, hT, C, hen, B, M⟩ := I
  rcases M with ⟨rfl, M⟩ | ⟨rfl, rfl, S, K, M1, M2⟩
  · exact br_t rfl (br_t rfl ⟨rfl, I0⟩)
  · obtain ⟨r, fp', fc', dp', hd', hc', hy', cy', S', K', sX, sY⟩ := lm_step hL hT C S K v1
    refine sX _ ?_
    refine sY _ ?_
    exact ⟨rfl, L, T, _, _, _, _, _, _, _, _, _, _, _, _, _, _, _, _, _, _, _, _, _, _, rfl, rfl, hL2, hL, hT1, hT, C, hen, B, Or.inr ⟨rfl, rfl, S', K', M1, M2⟩⟩
theorem i_vc_run {k : Nat} {u : SX} {v : SY} (I : i_Rel k u v) (hk : k + 4 ≤ 2050) (v1 : Int32) (v2 : Int32) : wpX_run (fun r u' => wpY_run (fun r' v' => r' = r ∧ i_Rel (k + 4) u' v') v v1 v2) u v1 v2 := by
  have I0 := I
  obtain ⟨L, T, cl, se, vd, lk, vy, op, ar, ln, en, so, lv, ed, pa, fp, fc, dp, hd, hc, re, lw, hy, cy, rfl, rfl, hL2, hL, hT1, hT, C, hen, B, M⟩ := I
  rcases M with ⟨rfl, M⟩ | ⟨rfl, rfl, S, K, M1, M2⟩
  · exact br_t rfl (br_t rfl ⟨rfl, I0⟩)
  · obtain ⟨N, _, hN, cN⟩ := ll_clamp v2 0 1024 (by omega) (by decide)
    have cNX : ∀ post : Int32 → Prop, post (nI N) → wpX_clamp post v2 0 1024 := fun post hp => cN post hp
    obtain ⟨c', fp', fc', dp', hd', hc', hy', cy', S', K', sX, sY⟩ := lm_run (v := v1) hL hT1 hT hN C N 0 0 fp fc dp hd hc hy cy (by omega) S K
    refine br_f ll_1n0 ?_
    refine cNX _ ?_
    refine ⟨N + 1, sX _ (N + 1) (by omega) ?_⟩
    refine br_f ll_1n0 ?_
    refine cN (fun z => ∃ n, wY_run_38 _ v1 z n 0 0 (nI L) (nI T) cl 1 vy 0 op ar ln en so ed re lw hy cy fp fc dp) ?_
    refine ⟨N + 1, sY _ (N + 1) (by omega) ?_⟩
    exact ⟨rfl, L, T, _, _, _, _, _, _, _, _, _, _, _, _, _, _, _, _, _, _, _, _, _, _, rfl, rfl, hL2, hL, hT1, hT, C, hen, B, Or.inr ⟨rfl, rfl, S', K', M1, M2⟩⟩
theorem i_vc_order {k : Nat} {u : SX} {v : SY} (I : i_Rel k u v) (hk : k + 4 ≤ 2050) (v1 : Int32) (v2 : Int32) : wpX_order (fun r => wpY_order (fun r' => r' = r ∧ i_Rel (k + 4) u v) v v1 v2) u v1 v2 := by
  have I0 := I
  obtain ⟨L, T, cl, se, vd, lk, vy, op, ar, ln, en, so, lv, ed, pa, fp, fc, dp, hd, hc, re, lw, hy, cy, rfl, rfl, hL2, hL, hT1, hT, C, hen, B, M⟩ := I
  rcases M with ⟨rfl, M⟩ | ⟨rfl, rfl, M⟩
  · exact br_t rfl (br_t rfl ⟨rfl, I0⟩)
  · rcases pk_ix v1 (n := L) (by omega) with h1 | h1 | ⟨a, ha, rfl⟩
    · exact br_f ll_1n0 (lx_lock0 (Or.inl h1) (br_t rfl (br_f ll_1n0 (br_t h1 ⟨rfl, I0⟩))))
    · exact br_f ll_1n0 (lx_lock0 (Or.inr h1) (br_t rfl (br_f ll_1n0 (br_f (ll_ge0 (by omega) h1) (br_t h1 ⟨rfl, I0⟩)))))
    · have q1 : ¬ nI a < 0 := nI_pos (by omega)
      have q2 : ¬ nI L ≤ nI a := nI_ge ha (by omega)
      rcases pk_ix v2 (n := L) (by omega) with h2 | h2 | ⟨b, hb, rfl⟩
      · exact br_f ll_1n0 (lx_lock1 ha hL (br_f ll_1n0 (lx_lock0 (Or.inl h2) (br_t rfl (br_f ll_1n0 (br_f q1 (br_f q2 (br_t h2 ⟨rfl, I0⟩))))))))
      · exact br_f ll_1n0 (lx_lock1 ha hL (br_f ll_1n0 (lx_lock0 (Or.inr h2) (br_t rfl (br_f ll_1n0 (br_f q1 (br_f q2 (br_f (ll_ge0 (by omega) h2) (br_f (ll_gel h2) ⟨rfl, I0⟩)))))))))
      · have c1 : (nI (a * 8 + b)).toNatClampNeg = a * 8 + b := nI_clamp (by omega)
        have hi : vp_in (nI (a * 8 + b)) 64 := vp_in_nI (by omega) (by decide)
        have hY : ∀ post : Int32 → Prop, post (ed (a * 8 + b)) → wpY_order post (nI L, nI T, cl, 1, vy, 0, op, ar, ln, en, so, ed, re, lw, hy, cy, fp, fc, dp) (nI a) (nI b) := by
          intro post hp
          refine br_f ll_1n0 (br_f q1 (br_f q2 (br_f (nI_pos (by omega)) (br_t (nI_lt hb (by omega)) ?_))))
          rw [ll_cel a b, c1]
          exact ⟨hi, ll_bnn (B.1 _), hp⟩
        refine br_f ll_1n0 (lx_lock1 ha hL (br_f ll_1n0 (lx_lock1 hb hL (br_f ll_1n0 ?_))))
        rw [ll_cel a b, c1]
        refine ⟨hi, br_c (fun z => hY _ ⟨z, I0⟩) (fun z => hY _ ⟨?_, I0⟩)⟩
        exact (B.1 (a * 8 + b)).resolve_left z
theorem i_vc_level {k : Nat} {u : SX} {v : SY} (I : i_Rel k u v) (hk : k + 4 ≤ 2050) (v1 : Int32) : wpX_level (fun r => wpY_level (fun r' => r' = r ∧ i_Rel (k + 4) u v) v v1) u v1 := by
  have I0 := I
  obtain ⟨L, T, cl, se, vd, lk, vy, op, ar, ln, en, so, lv, ed, pa, fp, fc, dp, hd, hc, re, lw, hy, cy, rfl, rfl, hL2, hL, hT1, hT, C, hen, B, M⟩ := I
  rcases M with ⟨rfl, rfl, rfl, M⟩ | ⟨rfl, rfl, M0, M1, M2, M3⟩
  · exact br_f (by decide) (br_t rfl ⟨rfl, I0⟩)
  · by_cases hv : vy = 0
    · rcases pk_ix v1 (n := L) (by omega) with h1 | h1 | ⟨a, ha, rfl⟩
      · exact br_t hv (lx_lock0 (Or.inl h1) (br_t rfl (br_f ll_1n0 (br_t hv (br_t h1 ⟨rfl, I0⟩)))))
      · exact br_t hv (lx_lock0 (Or.inr h1) (br_t rfl (br_f ll_1n0 (br_t hv (br_f (ll_ge0 (by omega) h1) (br_f (ll_gel h1) ⟨rfl, I0⟩))))))
      · have c1 : (nI a).toNatClampNeg = a := nI_clamp (by omega)
        have hi : vp_in (nI a) 8 := vp_in_nI (by omega) (by decide)
        refine br_t hv (lx_lock1 ha hL (br_f ll_1n0 ⟨hi, br_f ll_1n0 (br_t hv (br_f (nI_pos (by omega)) (br_t (nI_lt ha (by omega)) ⟨hi, ?_, I0⟩)))⟩))
        rw [c1]
        exact M2 hv a ha
    · exact br_f hv (br_f ll_1n0 (br_f hv ⟨rfl, I0⟩))
theorem i_vc_cycleLock {k : Nat} {u : SX} {v : SY} (I : i_Rel k u v) (hk : k + 4 ≤ 2050) : wpX_cycleLock (fun r => wpY_cycleLock (fun r' => r' = r ∧ i_Rel (k + 4) u v) v) u := by
  have I0 := I
  obtain ⟨L, T, cl, se, vd, lk, vy, op, ar, ln, en, so, lv, ed, pa, fp, fc, dp, hd, hc, re, lw, hy, cy, rfl, rfl, hL2, hL, hT1, hT, C, hen, B, M⟩ := I
  rcases M with ⟨rfl, rfl, rfl, M⟩ | ⟨rfl, rfl, M0, M1, M2, M3⟩
  · have hY : ∀ post : Int32 → Prop, post (-1) → wpY_cycleLock post (nI L, nI T, cl, 0, vy, 0, op, ar, ln, en, so, ed, re, lw, hy, cy, fp, fc, dp) := fun post hp => br_t rfl hp
    exact hY (fun r' => r' = -1 ∧ i_Rel (k + 4) (nI L, nI T, cl, 0, -1, -1, op, ar, ln, en, so, lv, ed, pa, fp, fc, dp, hd, hc) (nI L, nI T, cl, 0, vy, 0, op, ar, ln, en, so, ed, re, lw, hy, cy, fp, fc, dp)) ⟨rfl, I0⟩
  · have hY : ∀ post : Int32 → Prop, post lk → wpY_cycleLock post (nI L, nI T, cl, 1, vy, 0, op, ar, ln, en, so, ed, re, lw, hy, cy, fp, fc, dp) := by
      intro post hp
      rcases M3 with ⟨hv, l, hl, rfl, h1, h0⟩ | ⟨hv, rfl⟩
      · exact br_f ll_1n0 (br_t hv ⟨l + 1, ly_cyc (by omega) h1 h0 hp l (l + 1) 0 (by omega) (by omega)⟩)
      · exact br_f ll_1n0 (br_f hv hp)
    exact hY (fun r' => r' = lk ∧ i_Rel (k + 4) (nI L, nI T, cl, 1, vy, lk, op, ar, ln, en, so, lv, ed, pa, fp, fc, dp, hd, hc) (nI L, nI T, cl, 1, vy, 0, op, ar, ln, en, so, ed, re, lw, hy, cy, fp, fc, dp)) ⟨rfl, I0⟩
theorem i_vc_soloLength {k : Nat} {u : SX} {v : SY} (I : i_Rel k u v) (hk : k + 4 ≤ 2050) (v1 : Int32) : wpX_soloLength (fun r => wpY_soloLength (fun r' => r' = r ∧ i_Rel (k + 4) u v) v v1) u v1 := by
  have I0 := I
  obtain ⟨L, T, cl, se, vd, lk, vy, op, ar, ln, en, so, lv, ed, pa, fp, fc, dp, hd, hc, re, lw, hy, cy, rfl, rfl, hL2, hL, hT1, hT, C, hen, B, M⟩ := I
  rcases M with ⟨rfl, M⟩ | ⟨rfl, rfl, M⟩
  · exact br_t rfl (br_t rfl ⟨rfl, I0⟩)
  · rcases pk_ix v1 (n := T) (by omega) with h1 | h1 | ⟨a, ha, rfl⟩
    · exact br_f ll_1n0 (lx_thr0 (Or.inl h1) (br_t rfl (br_f ll_1n0 (br_t h1 ⟨rfl, I0⟩))))
    · exact br_f ll_1n0 (lx_thr0 (Or.inr h1) (br_t rfl (br_f ll_1n0 (br_f (ll_ge0 (by omega) h1) (br_f (ll_gel h1) ⟨rfl, I0⟩)))))
    · have hi : vp_in (nI a) 4 := vp_in_nI (by omega) (by decide)
      exact br_f ll_1n0 (lx_thr1 ha hT (br_f ll_1n0 ⟨hi, br_f ll_1n0 (br_f (nI_pos (by omega)) (br_t (nI_lt ha (by omega)) ⟨hi, rfl, I0⟩))⟩))
theorem i_vc_holder {k : Nat} {u : SX} {v : SY} (I : i_Rel k u v) (hk : k + 4 ≤ 2050) (v1 : Int32) : wpX_holder (fun r => wpY_holder (fun r' => r' = r ∧ i_Rel (k + 4) u v) v v1) u v1 := by
  have I0 := I
  obtain ⟨L, T, cl, se, vd, lk, vy, op, ar, ln, en, so, lv, ed, pa, fp, fc, dp, hd, hc, re, lw, hy, cy, rfl, rfl, hL2, hL, hT1, hT, C, hen, B, M⟩ := I
  rcases M with ⟨rfl, M⟩ | ⟨rfl, rfl, S, K, M⟩
  · exact br_t rfl (br_t rfl ⟨rfl, I0⟩)
  · rcases pk_ix v1 (n := L) (by omega) with h1 | h1 | ⟨a, ha, rfl⟩
    · exact br_f ll_1n0 (lx_lock0 (Or.inl h1) (br_t rfl (br_f ll_1n0 (br_t h1 ⟨rfl, I0⟩))))
    · exact br_f ll_1n0 (lx_lock0 (Or.inr h1) (br_t rfl (br_f ll_1n0 (br_f (ll_ge0 (by omega) h1) (br_f (ll_gel h1) ⟨rfl, I0⟩)))))
    · have c1 : (nI a).toNatClampNeg = a := nI_clamp (by omega)
      have hi : vp_in (nI a) 8 := vp_in_nI (by omega) (by decide)
      refine br_f ll_1n0 (lx_lock1 ha hL (br_f ll_1n0 ⟨hi, br_f ll_1n0 (br_f (nI_pos (by omega)) (br_t (nI_lt ha (by omega)) ⟨hi, ?_, I0⟩))⟩))
      rw [c1]
      exact (K.1 a ha).1
theorem i_vc_holdCount {k : Nat} {u : SX} {v : SY} (I : i_Rel k u v) (hk : k + 4 ≤ 2050) (v1 : Int32) : wpX_holdCount (fun r => wpY_holdCount (fun r' => r' = r ∧ i_Rel (k + 4) u v) v v1) u v1 := by
  have I0 := I
  obtain ⟨L, T, cl, se, vd, lk, vy, op, ar, ln, en, so, lv, ed, pa, fp, fc, dp, hd, hc, re, lw, hy, cy, rfl, rfl, hL2, hL, hT1, hT, C, hen, B, M⟩ := I
  rcases M with ⟨rfl, M⟩ | ⟨rfl, rfl, S, K, M⟩
  · exact br_t rfl (br_t rfl ⟨rfl, I0⟩)
  · rcases pk_ix v1 (n := L) (by omega) with h1 | h1 | ⟨a, ha, rfl⟩
    · exact br_f ll_1n0 (lx_lock0 (Or.inl h1) (br_t rfl (br_f ll_1n0 (br_t h1 ⟨rfl, I0⟩))))
    · exact br_f ll_1n0 (lx_lock0 (Or.inr h1) (br_t rfl (br_f ll_1n0 (br_f (ll_ge0 (by omega) h1) (br_f (ll_gel h1) ⟨rfl, I0⟩)))))
    · have c1 : (nI a).toNatClampNeg = a := nI_clamp (by omega)
      have hi : vp_in (nI a) 8 := vp_in_nI (by omega) (by decide)
      refine br_f ll_1n0 (lx_lock1 ha hL (br_f ll_1n0 ⟨hi, br_f ll_1n0 (br_f (nI_pos (by omega)) (br_t (nI_lt ha (by omega)) ⟨hi, ?_, I0⟩))⟩))
      rw [c1]
      exact (K.1 a ha).2.1
theorem i_vc_frameProc {k : Nat} {u : SX} {v : SY} (I : i_Rel k u v) (hk : k + 4 ≤ 2050) (v1 : Int32) : wpX_frameProc (fun r => wpY_frameProc (fun r' => r' = r ∧ i_Rel (k + 4) u v) v v1) u v1 := by
  have I0 := I
  obtain ⟨L, T, cl, se, vd, lk, vy, op, ar, ln, en, so, lv, ed, pa, fp, fc, dp, hd, hc, re, lw, hy, cy, rfl, rfl, hL2, hL, hT1, hT, C, hen, B, M⟩ := I
  unfold wpX_frameProc
  rcases M with ⟨rfl, M⟩ | ⟨rfl, rfl, S, K, M⟩
  · exact lx_runU (br_t rfl (br_t rfl ⟨rfl, I0⟩))
  · rcases pk_ix v1 (n := T) (by omega) with h1 | h1 | ⟨t, ht, rfl⟩
    · exact lx_run0 (Or.inl h1) (br_t rfl (br_f ll_1n0 (br_t h1 ⟨rfl, I0⟩)))
    · exact lx_run0 (Or.inr h1) (br_t rfl (br_f ll_1n0 (br_f (ll_ge0 (by omega) h1) (br_t h1 ⟨rfl, I0⟩))))
    · obtain ⟨d, hd8, hdp, hF, hsd⟩ := S.1 t ht
      have c1 : (nI t).toNatClampNeg = t := nI_clamp (by omega)
      have hi : vp_in (nI t) 4 := vp_in_nI (by omega) (by decide)
      have q1 : ¬ nI t < 0 := nI_pos (by omega)
      have q2 : ¬ nI T ≤ nI t := nI_ge ht (by omega)
      cases d with
      | zero =>
        refine lx_run1 ht hT hdp (by omega) (fun _ => br_t rfl ?_) (fun z => absurd rfl z)
        exact br_f ll_1n0 (br_f q1 (br_f q2 ⟨hi, pk_lt 0 0 (fun h => absurd h (by omega)) (fun _ => ⟨rfl, I0⟩) rfl (by rw [c1]; exact hdp)⟩))
      | succ e =>
        have c2 : (nI (t * 8 + e)).toNatClampNeg = t * 8 + e := nI_clamp (by omega)
        have hj : vp_in (nI (t * 8 + e)) 32 := vp_in_nI (by omega) (by decide)
        refine lx_run1 ht hT hdp (by omega) (fun z => absurd z (by omega)) (fun _ => br_f ll_1n0 ?_)
        refine lx_top (by omega) hdp ⟨hj, ?_⟩
        refine br_f ll_1n0 (br_f q1 (br_f q2 ⟨hi, pk_lt 0 (e + 1) (fun _ => ?_) (fun h => absurd h (by omega)) rfl (by rw [c1]; exact hdp)⟩))
        rw [c1, hdp, ll_top]
        exact ⟨hi, hj, rfl, I0⟩
theorem i_vc_framePc {k : Nat} {u : SX} {v : SY} (I : i_Rel k u v) (hk : k + 4 ≤ 2050) (v1 : Int32) : wpX_framePc (fun r => wpY_framePc (fun r' => r' = r ∧ i_Rel (k + 4) u v) v v1) u v1 := by
  have I0 := I
  obtain ⟨L, T, cl, se, vd, lk, vy, op, ar, ln, en, so, lv, ed, pa, fp, fc, dp, hd, hc, re, lw, hy, cy, rfl, rfl, hL2, hL, hT1, hT, C, hen, B, M⟩ := I
  unfold wpX_framePc
  rcases M with ⟨rfl, M⟩ | ⟨rfl, rfl, S, K, M⟩
  · exact lx_runU (br_t rfl (br_t rfl ⟨rfl, I0⟩))
  · rcases pk_ix v1 (n := T) (by omega) with h1 | h1 | ⟨t, ht, rfl⟩
    · exact lx_run0 (Or.inl h1) (br_t rfl (br_f ll_1n0 (br_t h1 ⟨rfl, I0⟩)))
    · exact lx_run0 (Or.inr h1) (br_t rfl (br_f ll_1n0 (br_f (ll_ge0 (by omega) h1) (br_t h1 ⟨rfl, I0⟩))))
    · obtain ⟨d, hd8, hdp, hF, hsd⟩ := S.1 t ht
      have c1 : (nI t).toNatClampNeg = t := nI_clamp (by omega)
      have hi : vp_in (nI t) 4 := vp_in_nI (by omega) (by decide)
      have q1 : ¬ nI t < 0 := nI_pos (by omega)
      have q2 : ¬ nI T ≤ nI t := nI_ge ht (by omega)
      cases d with
      | zero =>
        refine lx_run1 ht hT hdp (by omega) (fun _ => br_t rfl ?_) (fun z => absurd rfl z)
        exact br_f ll_1n0 (br_f q1 (br_f q2 ⟨hi, pk_lt 0 0 (fun h => absurd h (by omega)) (fun _ => ⟨rfl, I0⟩) rfl (by rw [c1]; exact hdp)⟩))
      | succ e =>
        have c2 : (nI (t * 8 + e)).toNatClampNeg = t * 8 + e := nI_clamp (by omega)
        have hj : vp_in (nI (t * 8 + e)) 32 := vp_in_nI (by omega) (by decide)
        refine lx_run1 ht hT hdp (by omega) (fun z => absurd z (by omega)) (fun _ => br_f ll_1n0 ?_)
        refine lx_top (by omega) hdp ⟨hj, ?_⟩
        refine br_f ll_1n0 (br_f q1 (br_f q2 ⟨hi, pk_lt 0 (e + 1) (fun _ => ?_) (fun h => absurd h (by omega)) rfl (by rw [c1]; exact hdp)⟩))
        rw [c1, hdp, ll_top]
        exact ⟨hi, hj, rfl, I0⟩
theorem i_vc_waitsFor {k : Nat} {u : SX} {v : SY} (I : i_Rel k u v) (hk : k + 4 ≤ 2050) (v1 : Int32) : wpX_waitsFor (fun r => wpY_waitsFor (fun r' => r' = r ∧ i_Rel (k + 4) u v) v v1) u v1 := by
  have I0 := I
  obtain ⟨L, T, cl, se, vd, lk, vy, op, ar, ln, en, so, lv, ed, pa, fp, fc, dp, hd, hc, re, lw, hy, cy, rfl, rfl, hL2, hL, hT1, hT, C, hen, B, M⟩ := I
  rcases M with ⟨rfl, M⟩ | ⟨rfl, rfl, S, K, M⟩
  · exact lx_waitU (br_t rfl ⟨rfl, I0⟩)
  · obtain ⟨w, _, _, _, wX, wY⟩ := lm_wait hL hT C S K v1
    exact wX _ (br_f ll_1n0 (wY _ ⟨rfl, I0⟩))
theorem i_vc_deadlocked {k : Nat} {u : SX} {v : SY} (I : i_Rel k u v) (hk : k + 4 ≤ 2050) : wpX_deadlocked (fun r => wpY_deadlocked (fun r' => r' = r ∧ i_Rel (k + 4) u v) v) u := by
  have I0 := I
  obtain ⟨L, T, cl, se, vd, lk, vy, op, ar, ln, en, so, lv, ed, pa, fp, fc, dp, hd, hc, re, lw, hy, cy, rfl, rfl, hL2, hL, hT1, hT, C, hen, B, M⟩ := I
  rcases M with ⟨rfl, M⟩ | ⟨rfl, rfl, S, K, M⟩
  · exact ⟨T + 1, lx_deadU hT1 hT (br_t rfl ⟨rfl, I0⟩) T (T + 1) 0 (by omega) (by omega)⟩
  · obtain ⟨b, dX, dY⟩ := lm_dead hL hT C S K T 0 (by omega)
    exact ⟨T + 1, dX _ (T + 1) (by omega) (br_f ll_1n0 ⟨T + 1, dY _ (T + 1) (by omega) ⟨rfl, I0⟩⟩)⟩
