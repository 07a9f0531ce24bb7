/-! the law -/
section
variable {nl nt cl se vd lk : Int32} {op ar ln en so lv ed pa fp fc dp hd hc fp' fc' dp' hd' hc' : Nat → Int32}
theorem tl_cell {post : Int32 → Prop} {N j : Nat} {xs : Nat → Int32} {x : Int32} (hN : N ≤ 260) (hx : x = nI j) (hj : j < 2 ^ 31) (h : ∀ v, post v) : wpL_cell post N xs () x := by
  subst hx
  exact pk_le N j (fun _ => h 0) (fun hlt => And.intro (vp_in_nI hlt (by omega)) (h _))
theorem tl_in2 {post : St2 → Prop} {mc ms kc ks : Nat} (hp : post (nl, nt, cl, se, vd, lk, op, ar, ln, ll_cp 4 nI en, so, lv, ed, pa, fp, fc, dp, hd, hc)) : ∀ (r n k : Nat), k + r = 4 → r < n → wX_init_148 post mc ms kc ks nl nt cl se vd lk n (nI k) op ar ln (ll_cp k nI en) so lv ed pa fp fc dp hd hc := by
  intro r
  induction r with
  | zero =>
    intro n k hk hn
    obtain ⟨n, rfl⟩ : ∃ m, n = m + 1 := ⟨n - 1, by omega⟩
    have e : k = 4 := by omega
    subst e
    exact pk_le 4 4 (fun _ => hp) (fun h => absurd h (by omega))
  | succ r ih =>
    intro n k hk hn
    obtain ⟨n, rfl⟩ : ∃ m, n = m + 1 := ⟨n - 1, by omega⟩
    have c1 : (nI k).toNatClampNeg = k := nI_clamp (by omega)
    have q := ih n (k + 1) (by omega) (by omega)
    exact pk_le 4 k (fun h => absurd h (by omega)) (fun _ => And.intro (vp_in_nI (by omega) (by decide)) (nm_r (e' := ll_cp (k + 1) nI en) (by rw [c1, ll_cp_s]) (nm_r (nI_1 k) q)))
theorem tl_cl {post : Int32 → Prop} {a b j : Nat} (h1 : a ≤ j) (h2 : j ≤ b) (hb : b < 2 ^ 31) (hp : post (nI j)) : wpX_clamp post () (nI j) (nI a) (nI b) :=
  br_t (nI_le h1 (by omega)) (br_t (nI_le h2 hb) hp)
theorem tl_init {post : St2 → Prop} {L T : Nat} (hL2 : 2 ≤ L) (hL : L ≤ 8) (hT1 : 1 ≤ T) (hT : T ≤ 4) (hp : ∀ u, tk_U L T u → post u) : wpX_init post 13 364 (0, 0, 0, 0, 0, 0) (nI L) (nI T) := by
  refine And.intro (by decide) (And.intro (by decide) (And.intro (by decide) (And.intro (by decide) (And.intro (by decide) (And.intro (by decide) (And.intro (by decide) (And.intro (by decide) (And.intro (by decide) (And.intro (by decide) (And.intro (by decide) (And.intro (by decide) (And.intro (by decide) (And.intro (by decide) (And.intro (by decide) (And.intro (by decide) (And.intro (by decide) (And.intro (by decide) (And.intro (by decide) (And.intro (by decide) (And.intro (by decide) (And.intro (by decide) (And.intro (by decide) (And.intro (by decide) (And.intro (by decide) (And.intro (by decide) (?_))))))))))))))))))))))))))
  refine tl_cl (a := 2) (b := 8) hL2 hL (by decide) ?_
  refine tl_cl (a := 1) (b := 4) hT1 hT (by decide) ?_
  refine ⟨5, ?_⟩
  refine ek_v (P := fun z => wX_init_148 _ 13 364 13 364 (nI L) (nI T) 0 0 (-1) (-1) 5 0 (fun _ => 0) (fun _ => 0) (fun _ => 0) z (fun _ => 0) (fun _ => 0) (fun _ => 0) (fun _ => 0) (fun _ => 0) (fun _ => 0) (fun _ => 0) (fun _ => 0) (fun _ => 0)) (ll_cp_0 nI (fun _ => 0)).symm ?_
  refine tl_in2 ?_ 4 5 0 (by omega) (by omega)
  refine hp _ ⟨0, _, _, _, _, _, _, _, _, _, _, _, _, _, rfl, ?_, ?_, ?_, fun _ _ => rfl, fun _ _ => rfl⟩
  · exact fun p _ => ⟨0, by omega, rfl, fun i hi => absurd hi (by omega)⟩
  · exact fun t ht => ⟨t, by omega, ll_cp_t ht⟩
  · exact ⟨ll_B0, fun a b _ _ h => absurd rfl h⟩
end
theorem tg_emit {post : Int32 → St2 → Prop} {L T : Nat} {u : St2} (hL : L ≤ 8) (U : tk_U L T u) (v1 v2 v3 : Int32) (hp : ∀ r u', tk_U L T u' → post r u') : wpX_emit post u v1 v2 v3 := by
  have U0 := U
  obtain ⟨cl, op, ar, ln, en, so, lv, ed, pa, fp, fc, dp, hd, hc, rfl, C, hen, B, hlv, hdp⟩ := U
  rcases pk_ix v1 (n := 8) (by decide) with h1 | h1 | ⟨p, hp8, rfl⟩
  · exact br_t rfl (br_t h1 (br_t rfl (hp _ _ U0)))
  · exact br_t rfl (br_f (ll_ge0 (by decide) h1) (br_t h1 (br_t rfl (hp _ _ U0))))
  · have q1 : ¬ nI p < 0 := nI_pos (by omega)
    have q2 : ¬ 8 ≤ nI p := nI_ge (b := 8) hp8 (by decide)
    by_cases h2 : v2 < 0
    · exact br_t rfl (br_f q1 (br_f q2 (br_f ll_1n0 (br_t h2 (hp _ _ U0)))))
    · by_cases h3 : v2 ≤ 3
      · obtain ⟨n, hn8, hl, _⟩ := C p hp8
        have go : ∀ a, (v2 = 0 ∨ (v2 = 1 ∧ ∃ b, b < L ∧ a = nI b) ∨ (v2 = 2 ∧ ∃ b, b < L ∧ a = nI b) ∨ (v2 = 3 ∧ ∃ b, p < b ∧ b < 8 ∧ a = nI b)) → ((v2 = 0 ∧ a = 0) ∨ (¬ v2 = 0 ∧ a = v3)) → (∀ post' : Int32 → Prop, post' 1 → wpX_argumentFits post' (nI L, nI T, cl, 0, -1, -1, op, ar, ln, en, so, lv, ed, pa, fp, fc, dp, hd, hc) (nI p) v2 v3) → wpX_emit post (nI L, nI T, cl, 0, -1, -1, op, ar, ln, en, so, lv, ed, pa, fp, fc, dp, hd, hc) (nI p) v2 v3 := by
          intro a hok hoa hfit
          refine lx_em (a := a) hp8 hl hn8 h2 h3 hfit hoa (fun _ => hp _ _ U0) (fun z1 _ => hp _ _ ?_)
          exact ⟨_, _, _, _, _, _, _, _, _, _, _, _, _, _, rfl, ll_CIu C hp8 hl z1 hok, hen, B, hlv, hdp⟩
        have no : (∀ post' : Int32 → Prop, post' 0 → wpX_argumentFits post' (nI L, nI T, cl, 0, -1, -1, op, ar, ln, en, so, lv, ed, pa, fp, fc, dp, hd, hc) (nI p) v2 v3) → wpX_emit post (nI L, nI T, cl, 0, -1, -1, op, ar, ln, en, so, lv, ed, pa, fp, fc, dp, hd, hc) (nI p) v2 v3 := by
          intro hfit
          refine br_t rfl (br_f q1 (br_f q2 (br_f ll_1n0 (br_f h2 (br_t h3 ?_)))))
          exact hfit _ (br_t rfl (hp _ _ U0))
        rcases ll_o4 h2 h3 with rfl | rfl | rfl | rfl
        · exact go 0 (Or.inl rfl) (Or.inl ⟨rfl, rfl⟩) (fun post' hp => br_t rfl hp)
        · rcases pk_ix v3 (n := L) (by omega) with g | g | ⟨b, hb, rfl⟩
          · exact no (fun post' hp => br_f (by decide) (br_f (by decide) (lx_lock0 (Or.inl g) ⟨rfl, hp⟩)))
          · exact no (fun post' hp => br_f (by decide) (br_f (by decide) (lx_lock0 (Or.inr g) ⟨rfl, hp⟩)))
          · exact go (nI b) (Or.inr (Or.inl ⟨rfl, b, hb, rfl⟩)) (Or.inr ⟨by decide, rfl⟩) (fun post' hp => br_f (by decide) (br_f (by decide) (lx_lock1 hb hL ⟨rfl, hp⟩)))
        · rcases pk_ix v3 (n := L) (by omega) with g | g | ⟨b, hb, rfl⟩
          · exact no (fun post' hp => br_f (by decide) (br_f (by decide) (lx_lock0 (Or.inl g) ⟨rfl, hp⟩)))
          · exact no (fun post' hp => br_f (by decide) (br_f (by decide) (lx_lock0 (Or.inr g) ⟨rfl, hp⟩)))
          · exact go (nI b) (Or.inr (Or.inr (Or.inl ⟨rfl, b, hb, rfl⟩))) (Or.inr ⟨by decide, rfl⟩) (fun post' hp => br_f (by decide) (br_f (by decide) (lx_lock1 hb hL ⟨rfl, hp⟩)))
        · by_cases g : v3 ≤ nI p
          · exact no (fun post' hp => br_f (by decide) (br_t rfl (br_t g hp)))
          · by_cases g8 : 8 ≤ v3
            · exact no (fun post' hp => br_f (by decide) (br_t rfl (br_f g (br_t g8 hp))))
            · have g0 : ¬ v3 < 0 := fun q => g (Int32.le_of_lt (Int32.lt_of_lt_of_le q (nI_pos' (by omega))))
              obtain ⟨b, hb, rfl⟩ := ll_ix (n := 8) g0 g8 (by decide)
              have hpb : p < b := by
                rw [nI_leI (by omega) (by omega)] at g
                omega
              exact go (nI b) (Or.inr (Or.inr (Or.inr ⟨rfl, b, hpb, hb, rfl⟩))) (Or.inr ⟨by decide, rfl⟩) (fun post' hp => br_f (by decide) (br_t rfl (br_f g (br_f g8 hp))))
      · exact br_t rfl (br_f q1 (br_f q2 (br_f ll_1n0 (br_f h2 (br_f h3 (hp _ _ U0))))))
theorem tg_setEntry {post : Int32 → St2 → Prop} {L T : Nat} {u : St2} (hT : T ≤ 4) (U : tk_U L T u) (v1 v2 : Int32) (hp : ∀ r u', tk_U L T u' → post r u') : wpX_setEntry post u v1 v2 := by
  have U0 := U
  obtain ⟨cl, op, ar, ln, en, so, lv, ed, pa, fp, fc, dp, hd, hc, rfl, C, hen, B, hlv, hdp⟩ := U
  rcases pk_ix v1 (n := T) (by omega) with h1 | h1 | ⟨t, ht, rfl⟩
  · exact br_t rfl (lx_thr0 (Or.inl h1) (br_t rfl (hp _ _ U0)))
  · exact br_t rfl (lx_thr0 (Or.inr h1) (br_t rfl (hp _ _ U0)))
  · rcases pk_ix v2 (n := 8) (by decide) with h2 | h2 | ⟨p, hp8, rfl⟩
    · exact br_t rfl (lx_thr1 ht hT (br_f ll_1n0 (br_t h2 (br_t rfl (hp _ _ U0)))))
    · exact br_t rfl (lx_thr1 ht hT (br_f ll_1n0 (br_f (ll_ge0 (by decide) h2) (br_t h2 (br_t rfl (hp _ _ U0))))))
    · have c1 : (nI t).toNatClampNeg = t := nI_clamp (by omega)
      refine br_t rfl (lx_thr1 ht hT (br_f ll_1n0 (br_f (nI_pos (by omega)) (br_f (nI_ge (b := 8) hp8 (by decide)) (br_f ll_1n0 ⟨vp_in_nI (by omega) (by decide), nm_r (e' := upd en t (nI p)) (by rw [c1]) (hp _ _ ?_)⟩)))))
      refine ⟨_, _, _, _, _, _, _, _, _, _, _, _, _, _, rfl, C, fun s hs => ?_, B, hlv, hdp⟩
      by_cases e : s = t
      · rw [e, pk_us]
        exact ⟨p, hp8, rfl⟩
      · rw [pk_un e]
        exact hen s hs
section
variable {nl nt cl se vd lk : Int32} {op ar ln en so lv ed pa fp fc dp hd hc fp' fc' dp' hd' hc' : Nat → Int32}
theorem tl_415 {post : Int32 → Prop} {N L T o : Nat} {xs : Nat → Int32} {x5 : Int32} {kc ks : Nat} {J : Int32 → Int32 → Int32 → Int32 → Int32 → Int32 → Int32 → Int32 → (Nat → Int32) → (Nat → Int32) → (Nat → Int32) → (Nat → Int32) → (Nat → Int32) → (Nat → Int32) → (Nat → Int32) → (Nat → Int32) → (Nat → Int32) → (Nat → Int32) → (Nat → Int32) → (Nat → Int32) → (Nat → Int32) → Prop} (hL : L ≤ 8) (hT : T ≤ 4) (G : tk_G L T (nl, nt, cl, se, vd, lk, op, ar, ln, en, so, lv, ed, pa, fp, fc, dp, hd, hc)) (hJ : J x5 (nI (o + 1)) nl nt cl se vd lk op ar ln en so lv ed pa fp fc dp hd hc) : wL_law_415 post N xs J (nI T) x5 (nI o) kc ks nl nt cl se vd lk op ar ln en so lv ed pa fp fc dp hd hc := by
  refine nm_r (nI_1 o) ?_
  exact tg_calm hL hT G (br_f ll_1n0 hJ)
theorem tl_401 {post : Int32 → Prop} {N L T o p : Nat} {xs : Nat → Int32} {x10 : Int32} {kc ks : Nat} {J : Int32 → Int32 → Int32 → Int32 → Int32 → Int32 → Int32 → Int32 → (Nat → Int32) → (Nat → Int32) → (Nat → Int32) → (Nat → Int32) → (Nat → Int32) → (Nat → Int32) → (Nat → Int32) → (Nat → Int32) → (Nat → Int32) → (Nat → Int32) → (Nat → Int32) → (Nat → Int32) → (Nat → Int32) → Prop} (hL : L ≤ 8) (hT : T ≤ 4) (G : tk_G L T (nl, nt, cl, se, vd, lk, op, ar, ln, en, so, lv, ed, pa, fp, fc, dp, hd, hc)) (hJ : ∀ nl nt cl se vd lk op ar ln en so lv ed pa fp fc dp hd hc, tk_G L T (nl, nt, cl, se, vd, lk, op, ar, ln, en, so, lv, ed, pa, fp, fc, dp, hd, hc) → J (nI (p + 1)) (nI (o + 1)) nl nt cl se vd lk op ar ln en so lv ed pa fp fc dp hd hc) : wL_law_401 post N xs J (nI T) (nI p) (nI o) x10 kc ks nl nt cl se vd lk op ar ln en so lv ed pa fp fc dp hd hc := by
  have h0 : ¬ nI T + 1 = 0 := by
    rw [nI_1]
    exact nI_ne0 (by omega) (by omega)
  refine And.intro h0 (tg_step hL hT G _ (fun r u' G' => ?_))
  obtain ⟨b1, b2, b3, b4, b5, b6, b7, b8, b9, b10, b11, b12, b13, b14, b15, b16, b17, b18, b19⟩ := u'
  exact nm_r (nI_1 p) (tl_415 hL hT G' (hJ _ _ _ _ _ _ _ _ _ _ _ _ _ _ _ _ _ _ _ G'))
theorem tl_307 {post : Int32 → Prop} {N L T : Nat} {xs : Nat → Int32} {kc ks : Nat} (hN : N ≤ 260) (hL : L ≤ 8) (hT1 : 1 ≤ T) (hT : T ≤ 4) (hp : post 1) : ∀ (m n o p : Nat) (nl nt cl se vd lk : Int32) (op ar ln en so lv ed pa fp fc dp hd hc : Nat → Int32), o + m = 300 → m < n → p ≤ 100 + 2 * o → tk_G L T (nl, nt, cl, se, vd, lk, op, ar, ln, en, so, lv, ed, pa, fp, fc, dp, hd, hc) → wL_law_307 post N xs (nI T) kc ks n (nI p) (nI o) nl nt cl se vd lk op ar ln en so lv ed pa fp fc dp hd hc := by
  intro m
  induction m with
  | zero =>
    intro n o p nl nt cl se vd lk op ar ln en so lv ed pa fp fc dp hd hc ho hn hpp G
    obtain ⟨n, rfl⟩ : ∃ m, n = m + 1 := ⟨n - 1, by omega⟩
    exact pk_le N p (fun _ => hp) (fun _ => pk_le 300 o (fun _ => hp) (fun h => absurd h (by omega)))
  | succ m ih =>
    intro n o p nl nt cl se vd lk op ar ln en so lv ed pa fp fc dp hd hc ho hn hpp G
    obtain ⟨n, rfl⟩ : ∃ m, n = m + 1 := ⟨n - 1, by omega⟩
    have k1 : ∀ nl nt cl se vd lk op ar ln en so lv ed pa fp fc dp hd hc, tk_G L T (nl, nt, cl, se, vd, lk, op, ar, ln, en, so, lv, ed, pa, fp, fc, dp, hd, hc) → wL_law_307 post N xs (nI T) kc ks n (nI (p + 1)) (nI (o + 1)) nl nt cl se vd lk op ar ln en so lv ed pa fp fc dp hd hc := fun nl nt cl se vd lk op ar ln en so lv ed pa fp fc dp hd hc G' => ih n (o + 1) (p + 1) nl nt cl se vd lk op ar ln en so lv ed pa fp fc dp hd hc (by omega) (by omega) (by omega) G'
    refine pk_le N p (fun _ => hp) (fun _ => pk_le 300 o (fun h => absurd h (by omega)) (fun _ => tl_cell hN rfl (by omega) (fun v => nm_e (nm_e (br_c (fun _ => ?_) (fun _ => br_c (fun _ => br_c (fun _ => ?_) (fun _ => ?_)) (fun _ => ?_)))))))
    · refine tl_cell hN (nI_1 p) (by omega) (fun v2 => ?_)
      refine tg_run hL hT1 hT G _ _ (fun r u' G' => ?_)
      obtain ⟨b1, b2, b3, b4, b5, b6, b7, b8, b9, b10, b11, b12, b13, b14, b15, b16, b17, b18, b19⟩ := u'
      exact nm_r (nI_add p 2) (tl_415 hL hT G' (ih n (o + 1) (p + 2) _ _ _ _ _ _ _ _ _ _ _ _ _ _ _ _ _ _ _ (by omega) (by omega) (by omega) G'))
    · refine tg_restart hL hT G (fun r u' G' => ?_)
      obtain ⟨b1, b2, b3, b4, b5, b6, b7, b8, b9, b10, b11, b12, b13, b14, b15, b16, b17, b18, b19⟩ := u'
      exact nm_r (nI_1 p) (tl_415 hL hT G' (k1 _ _ _ _ _ _ _ _ _ _ _ _ _ _ _ _ _ _ _ G'))
    · exact tl_401 hL hT G k1
    · exact tl_401 hL hT G k1
theorem tl_248 {post : Int32 → Prop} {N L T a : Nat} {xs : Nat → Int32} {x2 x5 : Int32} {kc ks : Nat} {J : Int32 → Prop} (hL : L ≤ 8) (ha : a < L) (G : tk_G L T (nl, nt, cl, se, vd, lk, op, ar, ln, en, so, lv, ed, pa, fp, fc, dp, hd, hc)) (hJ : J (nI (a + 1))) : ∀ (m n b : Nat), b + m = L → m < n → wL_law_248 post N xs J (nI L) x2 x5 (nI a) kc ks nl nt cl se vd lk op ar ln en so lv ed pa fp fc dp hd hc n (nI b) := by
  intro m
  induction m with
  | zero =>
    intro n b hb hn
    obtain ⟨n, rfl⟩ : ∃ m, n = m + 1 := ⟨n - 1, by omega⟩
    exact pk_le L b (fun _ => nm_r (nI_1 a) hJ) (fun h => absurd h (by omega))
  | succ m ih =>
    intro n b hb hn
    obtain ⟨n, rfl⟩ : ∃ m, n = m + 1 := ⟨n - 1, by omega⟩
    have k1 := ih n (b + 1) (by omega) (by omega)
    refine pk_le L b (fun h => absurd h (by omega)) (fun _ => tg_order hL G ha (by omega) (br_t rfl (nm_r (nI_1 b) k1)) (fun h => br_f ll_1n0 ?_))
    exact h _ (fun x y hxy => br_t hxy (nm_r (nI_1 b) k1))
theorem tl_239 {post : Int32 → Prop} {N L T : Nat} {xs : Nat → Int32} {p : Nat} {kc ks : Nat} (hN : N ≤ 260) (hL : L ≤ 8) (hT1 : 1 ≤ T) (hT : T ≤ 4) (hp100 : p ≤ 100) (G : tk_G L T (nl, nt, cl, se, vd, lk, op, ar, ln, en, so, lv, ed, pa, fp, fc, dp, hd, hc)) (hp : post 1) : ∀ (m n a : Nat), a + m = L → m < n → wL_law_239 post N xs (nI L) (nI T) (nI p) kc ks nl nt cl se vd lk op ar ln en so lv ed pa fp fc dp hd hc n (nI a) := by
  intro m
  induction m with
  | zero =>
    intro n a ha hn
    obtain ⟨n, rfl⟩ : ∃ m, n = m + 1 := ⟨n - 1, by omega⟩
    refine pk_le L a (fun _ => ?_) (fun h => absurd h (by omega))
    exact tg_calm hL hT G (br_f ll_1n0 ⟨301, tl_307 hN hL hT1 hT hp 300 301 0 p _ _ _ _ _ _ _ _ _ _ _ _ _ _ _ _ _ _ _ (by omega) (by omega) (by omega) G⟩)
  | succ m ih =>
    intro n a ha hn
    obtain ⟨n, rfl⟩ : ∃ m, n = m + 1 := ⟨n - 1, by omega⟩
    refine pk_le L a (fun h => absurd h (by omega)) (fun _ => ?_)
    exact ⟨L + 1, tl_248 hL (by omega) G (ih n (a + 1) (by omega) (by omega)) L (L + 1) 0 (by omega) (by omega)⟩
theorem tl_199 {post : Int32 → Prop} {N L T i : Nat} {xs : Nat → Int32} {x1 x2 x4 x5 x8 x9 x11 : Int32} {kc ks : Nat} {J : Int32 → Int32 → Int32 → Int32 → Int32 → Int32 → Int32 → (Nat → Int32) → (Nat → Int32) → (Nat → Int32) → (Nat → Int32) → (Nat → Int32) → (Nat → Int32) → (Nat → Int32) → (Nat → Int32) → (Nat → Int32) → (Nat → Int32) → (Nat → Int32) → (Nat → Int32) → (Nat → Int32) → Prop} (hL : L ≤ 8) (U : tk_U L T (nl, nt, cl, se, vd, lk, op, ar, ln, en, so, lv, ed, pa, fp, fc, dp, hd, hc)) (hJ : ∀ nl nt cl se vd lk op ar ln en so lv ed pa fp fc dp hd hc, tk_U L T (nl, nt, cl, se, vd, lk, op, ar, ln, en, so, lv, ed, pa, fp, fc, dp, hd, hc) → J (nI (i + 1)) nl nt cl se vd lk op ar ln en so lv ed pa fp fc dp hd hc) : wL_law_199 post N xs J x1 x2 x4 x5 (nI i) x8 x9 x11 kc ks nl nt cl se vd lk op ar ln en so lv ed pa fp fc dp hd hc := by
  refine tg_emit hL U _ _ _ (fun r u' U' => ?_)
  obtain ⟨b1, b2, b3, b4, b5, b6, b7, b8, b9, b10, b11, b12, b13, b14, b15, b16, b17, b18, b19⟩ := u'
  exact nm_r (nI_1 i) (hJ _ _ _ _ _ _ _ _ _ _ _ _ _ _ _ _ _ _ _ U')
theorem tl_147 {post : Int32 → Prop} {N L T i : Nat} {xs : Nat → Int32} {x2 x4 x5 x8 x9 x10 : Int32} {kc ks : Nat} {J : Int32 → Int32 → Int32 → Int32 → Int32 → Int32 → Int32 → (Nat → Int32) → (Nat → Int32) → (Nat → Int32) → (Nat → Int32) → (Nat → Int32) → (Nat → Int32) → (Nat → Int32) → (Nat → Int32) → (Nat → Int32) → (Nat → Int32) → (Nat → Int32) → (Nat → Int32) → (Nat → Int32) → Prop} (hL2 : 2 ≤ L) (hL : L ≤ 8) (U : tk_U L T (nl, nt, cl, se, vd, lk, op, ar, ln, en, so, lv, ed, pa, fp, fc, dp, hd, hc)) (hJ : ∀ nl nt cl se vd lk op ar ln en so lv ed pa fp fc dp hd hc, tk_U L T (nl, nt, cl, se, vd, lk, op, ar, ln, en, so, lv, ed, pa, fp, fc, dp, hd, hc) → J (nI (i + 1)) nl nt cl se vd lk op ar ln en so lv ed pa fp fc dp hd hc) : wL_law_147 post N xs J (nI L) x2 x4 x5 (nI i) x8 x9 x10 kc ks nl nt cl se vd lk op ar ln en so lv ed pa fp fc dp hd hc :=
  And.intro (nI_ne0 (by omega) (by omega)) (nm_e (tl_199 hL U hJ))
theorem tl_92 {post : Int32 → Prop} {N L T n0 : Nat} {xs : Nat → Int32} {kc ks : Nat} (hN : N ≤ 260) (hL2 : 2 ≤ L) (hL : L ≤ 8) (hT1 : 1 ≤ T) (hT : T ≤ 4) (hn0 : n0 ≤ 31) (hp : post 1) : ∀ (m n i : Nat) (nl nt cl se vd lk : Int32) (op ar ln en so lv ed pa fp fc dp hd hc : Nat → Int32), i + m = n0 → m < n → tk_U L T (nl, nt, cl, se, vd, lk, op, ar, ln, en, so, lv, ed, pa, fp, fc, dp, hd, hc) → wL_law_92 post N xs (nI L) (nI T) (nI n0) (nI 7) kc ks n (nI i) nl nt cl se vd lk op ar ln en so lv ed pa fp fc dp hd hc := by
  intro m
  induction m with
  | zero =>
    intro n i nl nt cl se vd lk op ar ln en so lv ed pa fp fc dp hd hc hi hn U
    obtain ⟨n, rfl⟩ : ∃ m, n = m + 1 := ⟨n - 1, by omega⟩
    refine pk_le n0 i (fun _ => nm_r (nI_add 7 n0) ?_) (fun h => absurd h (by omega))
    refine tx_check hL2 hL hT U (fun u' G => ?_) (fun r u' hr => ?_)
    · obtain ⟨b1, b2, b3, b4, b5, b6, b7, b8, b9, b10, b11, b12, b13, b14, b15, b16, b17, b18, b19⟩ := u'
      exact br_t rfl ⟨L + 1, tl_239 hN hL hT1 hT (by omega) G hp L (L + 1) 0 (by omega) (by omega)⟩
    · obtain ⟨b1, b2, b3, b4, b5, b6, b7, b8, b9, b10, b11, b12, b13, b14, b15, b16, b17, b18, b19⟩ := u'
      exact br_f hr hp
  | succ m ih =>
    intro n i nl nt cl se vd lk op ar ln en so lv ed pa fp fc dp hd hc hi hn U
    obtain ⟨n, rfl⟩ : ∃ m, n = m + 1 := ⟨n - 1, by omega⟩
    have k1 : ∀ nl nt cl se vd lk op ar ln en so lv ed pa fp fc dp hd hc, tk_U L T (nl, nt, cl, se, vd, lk, op, ar, ln, en, so, lv, ed, pa, fp, fc, dp, hd, hc) → wL_law_92 post N xs (nI L) (nI T) (nI n0) (nI 7) kc ks n (nI (i + 1)) nl nt cl se vd lk op ar ln en so lv ed pa fp fc dp hd hc := fun nl nt cl se vd lk op ar ln en so lv ed pa fp fc dp hd hc U' => ih n (i + 1) nl nt cl se vd lk op ar ln en so lv ed pa fp fc dp hd hc (by omega) (by omega) U'
    refine pk_le n0 i (fun h => absurd h (by omega)) (fun _ => tl_cell hN (nI_add 7 i) (by omega) (fun v => ?_))
    obtain ⟨p, hp8, ep⟩ := pk_andE v (m := 7) 3 (by decide)
    refine nm_r ep (nm_e (nm_e (br_c (fun _ => tl_147 hL2 hL U k1) (fun _ => br_c (fun _ => tl_147 hL2 hL U k1) (fun _ => br_c (fun _ => pk_eq p 7 (fun _ => tl_199 hL U k1) (fun h7 => ?_) rfl rfl (by omega) (by omega)) (fun _ => tl_199 hL U k1))))))
    have hp8' : p < 8 := hp8
    have e7 : (7 : Int32) - nI p = nI (7 - p) := pk_sub (a := 7) (by omega)
    refine And.intro ?_ (nm_e (tl_199 hL U k1))
    rw [e7]
    exact nI_ne0 (by omega) (by omega)
theorem tl_43 {post : Int32 → Prop} {N L T n0 : Nat} {xs : Nat → Int32} {kc ks : Nat} (hN : N ≤ 260) (hL2 : 2 ≤ L) (hL : L ≤ 8) (hT1 : 1 ≤ T) (hT : T ≤ 4) (hn0 : n0 ≤ 31) (hp : post 1) : ∀ (m n t : Nat) (nl nt cl se vd lk : Int32) (op ar ln en so lv ed pa fp fc dp hd hc : Nat → Int32), t + m = T → m < n → tk_U L T (nl, nt, cl, se, vd, lk, op, ar, ln, en, so, lv, ed, pa, fp, fc, dp, hd, hc) → wL_law_43 post N xs (nI L) (nI T) (nI n0) kc ks n (nI t) nl nt cl se vd lk op ar ln en so lv ed pa fp fc dp hd hc := by
  intro m
  induction m with
  | zero =>
    intro n t nl nt cl se vd lk op ar ln en so lv ed pa fp fc dp hd hc hi hn U
    obtain ⟨n, rfl⟩ : ∃ m, n = m + 1 := ⟨n - 1, by omega⟩
    refine pk_le T t (fun _ => ?_) (fun h => absurd h (by omega))
    exact ⟨n0 + 1, tl_92 hN hL2 hL hT1 hT hn0 hp n0 (n0 + 1) 0 _ _ _ _ _ _ _ _ _ _ _ _ _ _ _ _ _ _ _ (by omega) (by omega) U⟩
  | succ m ih =>
    intro n t nl nt cl se vd lk op ar ln en so lv ed pa fp fc dp hd hc hi hn U
    obtain ⟨n, rfl⟩ : ∃ m, n = m + 1 := ⟨n - 1, by omega⟩
    refine pk_le T t (fun h => absurd h (by omega)) (fun _ => tl_cell hN (nI_add 3 t) (by omega) (fun v => br_c (fun _ => nm_r (nI_1 t) (ih n (t + 1) _ _ _ _ _ _ _ _ _ _ _ _ _ _ _ _ _ _ _ (by omega) (by omega) U)) (fun _ => ?_)))
    refine tg_setEntry hT U _ _ (fun r u' U' => ?_)
    obtain ⟨b1, b2, b3, b4, b5, b6, b7, b8, b9, b10, b11, b12, b13, b14, b15, b16, b17, b18, b19⟩ := u'
    exact nm_r (nI_1 t) (ih n (t + 1) _ _ _ _ _ _ _ _ _ _ _ _ _ _ _ _ _ _ _ (by omega) (by omega) U')
end
theorem i_vc (xs : Nat → Int32) (L : Nat) (hL : L ≤ 260) : wpL_law (fun r => r = 1) L xs := by
  unfold wpL_law
  refine tl_cell hL (j := 0) rfl (by omega) (fun v0 => ?_)
  obtain ⟨a, ha, ea⟩ := pk_andE v0 (m := 3) 2 (by decide)
  have ha4 : a < 4 := ha
  refine nm_r (e' := nI (2 + a)) (by rw [ea]; exact nI_add 2 a) ?_
  refine tl_cell hL (j := 1) rfl (by omega) (fun v1 => ?_)
  obtain ⟨b, hb, eb⟩ := pk_andE v1 (m := 3) 2 (by decide)
  have hb4 : b < 4 := hb
  refine nm_r (e' := nI (1 + b)) (by rw [eb]; exact nI_add 1 b) ?_
  refine ⟨13, 364, by omega, by omega, ?_⟩
  refine tl_init (L := 2 + a) (T := 1 + b) (by omega) (by omega) (by omega) (by omega) (fun u U => ?_)
  obtain ⟨b1, b2, b3, b4, b5, b6, b7, b8, b9, b10, b11, b12, b13, b14, b15, b16, b17, b18, b19⟩ := u
  refine tl_cell hL (j := 2) rfl (by omega) (fun v2 => ?_)
  obtain ⟨c, hc, ec⟩ := pk_andE v2 (m := 31) 5 (by decide)
  have hc32 : c < 32 := hc
  refine nm_r ec ?_
  exact ⟨(1 + b) + 1, tl_43 (post := fun r => r = 1) (xs := xs) (n0 := c) hL (by omega) (by omega) (by omega) (by omega) (by omega) rfl (1 + b) ((1 + b) + 1) 0 _ _ _ _ _ _ _ _ _ _ _ _ _ _ _ _ _ _ _ (by omega) (by omega) U⟩
