/-! waits, steps, runs, deadlocks in lockstep -/
def ll_fld (v i : Int32) : Int32 := ((v.toUInt32 >>> ((2 * (i - i / 16 * 16)).toUInt32 &&& Int32.toUInt32 31)).toInt32) &&& 3
section
variable {nl nt cl se vd lk rc vy : Int32} {op ar ln en so lv lw ed pa re fp fc dp hd hc hy cy fp' fc' dp' : Nat → Int32}
theorem lx_thr1 {post : Int32 → Prop} {T j : Nat} (hj : j < T) (hT : T ≤ 4) (hp : post 1) : wpX_isThread post (nl, nI T, cl, se, vd, lk, op, ar, ln, en, so, lv, ed, pa, fp, fc, dp, hd, hc) (nI j) :=
  br_f (nI_pos (by omega)) (br_f (nI_ge hj (by omega)) hp)
theorem lx_thr0 {post : Int32 → Prop} {T : Nat} {x : Int32} (hx : x < 0 ∨ nI T ≤ x) (hp : post 0) : wpX_isThread post (nl, nI T, cl, se, vd, lk, op, ar, ln, en, so, lv, ed, pa, fp, fc, dp, hd, hc) x := by
  by_cases h : x < 0
  · exact br_t h hp
  · rcases hx with q | q
    · exact absurd q h
    · exact br_f h (br_t q hp)
theorem lx_lock1 {post : Int32 → Prop} {L j : Nat} (hj : j < L) (hL : L ≤ 8) (hp : post 1) : wpX_isLock post (nI L, nt, cl, se, vd, lk, op, ar, ln, en, so, lv, ed, pa, fp, fc, dp, hd, hc) (nI j) :=
  br_f (nI_pos (by omega)) (br_f (nI_ge hj (by omega)) hp)
theorem lx_lock0 {post : Int32 → Prop} {L : Nat} {x : Int32} (hx : x < 0 ∨ nI L ≤ x) (hp : post 0) : wpX_isLock post (nI L, nt, cl, se, vd, lk, op, ar, ln, en, so, lv, ed, pa, fp, fc, dp, hd, hc) x := by
  by_cases h : x < 0
  · exact br_t h hp
  · rcases hx with q | q
    · exact absurd q h
    · exact br_f h (br_t q hp)
theorem lx_run0 {post : Int32 → Prop} {T : Nat} {x : Int32} (hx : x < 0 ∨ nI T ≤ x) (hp : post 0) : wpX_isRunning post (nl, nI T, cl, 1, vd, lk, op, ar, ln, en, so, lv, ed, pa, fp, fc, dp, hd, hc) x :=
  br_f ll_1n0 (lx_thr0 hx (br_t rfl hp))
theorem lx_runU {post : Int32 → Prop} {x : Int32} (hp : post 0) : wpX_isRunning post (nl, nt, cl, 0, vd, lk, op, ar, ln, en, so, lv, ed, pa, fp, fc, dp, hd, hc) x := br_t rfl hp
theorem lx_run1 {post : Int32 → Prop} {T t d : Nat} (ht : t < T) (hT : T ≤ 4) (hdp : dp t = nI d) (h8 : d ≤ 8) (h0 : d = 0 → post 0) (h1 : d ≠ 0 → post 1) : wpX_isRunning post (nl, nI T, cl, 1, vd, lk, op, ar, ln, en, so, lv, ed, pa, fp, fc, dp, hd, hc) (nI t) :=
  br_f ll_1n0 (lx_thr1 ht hT (br_f ll_1n0 (lx_isDone (by omega) hdp h8 (fun z => br_f ll_1n0 (h0 z)) (fun z => br_t rfl (h1 z)))))
theorem lx_waitU {post : Int32 → Prop} {x : Int32} (hp : post (-1)) : wpX_waitsFor post (nl, nt, cl, 0, vd, lk, op, ar, ln, en, so, lv, ed, pa, fp, fc, dp, hd, hc) x := by
  unfold wpX_waitsFor
  exact lx_runU (br_t rfl hp)
theorem lx_wait0 {post : Int32 → Prop} {T : Nat} {x : Int32} (hx : x < 0 ∨ nI T ≤ x) (hp : post (-1)) : wpX_waitsFor post (nl, nI T, cl, 1, vd, lk, op, ar, ln, en, so, lv, ed, pa, fp, fc, dp, hd, hc) x := by
  unfold wpX_waitsFor
  exact lx_run0 hx (br_t rfl hp)
theorem lx_waitD {post : Int32 → Prop} {T t : Nat} (ht : t < T) (hT : T ≤ 4) (hdp : dp t = nI 0) (hp : post (-1)) : wpX_waitsFor post (nl, nI T, cl, 1, vd, lk, op, ar, ln, en, so, lv, ed, pa, fp, fc, dp, hd, hc) (nI t) := by
  unfold wpX_waitsFor
  exact lx_run1 ht hT hdp (by omega) (fun _ => br_t rfl hp) (fun z => absurd rfl z)
theorem lx_waitN {post : Int32 → Prop} {T t e p c : Nat} (ht : t < T) (hT : T ≤ 4) (he : e < 8) (hdp : dp t = nI (e + 1)) (h1 : fp (t * 8 + e) = nI p) (hp8 : p < 8) (h2 : fc (t * 8 + e) = nI c) (hc8 : c < 8) (ho : ¬ op (p * 8 + c) = 1) (hp : post (-1)) : wpX_waitsFor post (nl, nI T, cl, 1, vd, lk, op, ar, ln, en, so, lv, ed, pa, fp, fc, dp, hd, hc) (nI t) := by
  unfold wpX_waitsFor
  have c1 : (nI (p * 8 + c)).toNatClampNeg = p * 8 + c := nI_clamp (by omega)
  refine lx_run1 ht hT hdp (by omega) (fun z => absurd z (by omega)) (fun _ => br_f ll_1n0 ?_)
  refine lx_cell (by omega) hdp he h1 h2 ?_
  exact ⟨vp_in_nI (by omega) (by decide), br_f (by rw [c1]; exact ho) hp⟩
theorem lx_waitA {post : Int32 → Prop} {T t e p c a : Nat} (ht : t < T) (hT : T ≤ 4) (he : e < 8) (hdp : dp t = nI (e + 1)) (h1 : fp (t * 8 + e) = nI p) (hp8 : p < 8) (h2 : fc (t * 8 + e) = nI c) (hc8 : c < 8) (ho : op (p * 8 + c) = 1) (ha : ar (p * 8 + c) = nI a) (ha8 : a < 8) (hp1 : hd a = nI t → post (-1)) (hp0 : ¬ hd a = nI t → post (hd a)) : wpX_waitsFor post (nl, nI T, cl, 1, vd, lk, op, ar, ln, en, so, lv, ed, pa, fp, fc, dp, hd, hc) (nI t) := by
  unfold wpX_waitsFor
  have c1 : (nI (p * 8 + c)).toNatClampNeg = p * 8 + c := nI_clamp (by omega)
  have c2 : (nI a).toNatClampNeg = a := nI_clamp (by omega)
  have hz : vp_in (nI (p * 8 + c)) 64 := vp_in_nI (by omega) (by decide)
  refine lx_run1 ht hT hdp (by omega) (fun z => absurd z (by omega)) (fun _ => br_f ll_1n0 ?_)
  refine lx_cell (by omega) hdp he h1 h2 ?_
  exact ⟨hz, br_t (by rw [c1]; exact ho) ⟨hz, by rw [c1, ha]; exact vp_in_nI ha8 (by decide), nm_r (e' := hd a) (by rw [c1, ha, c2]) (br_c hp1 hp0)⟩⟩
theorem ly_waitN {post : Int32 → Prop} {T t e p c m : Nat} (ht : t < T) (hT : T ≤ 4) (he : e < 8) (hdp : dp t = nI (e + 1)) (h1 : fp (t * 8 + e) = nI p) (hp8 : p < 8) (h2 : fc (t * 8 + e) = nI c) (hl : ln p = nI m) (hcm : c < m) (hm : m ≤ 8) (ho : ¬ op (p * 8 + c) = 1) (hp : post (-1)) : wpY_waitOf post (nl, nI T, cl, se, vd, rc, op, ar, ln, en, so, ed, re, lv, hd, hc, fp, fc, dp) (nI t) := by
  have ht1 : vp_in (nI t) 4 := vp_in_nI (by omega) (by decide)
  have hz : vp_in (nI (p * 8 + c)) 64 := vp_in_nI (by omega) (by decide)
  have hi : vp_in (nI (t * 8 + e)) 32 := vp_in_nI (by omega) (by decide)
  have c1 : (nI (p * 8 + c)).toNatClampNeg = p * 8 + c := nI_clamp (by omega)
  have c2 : (nI (t * 8 + e)).toNatClampNeg = t * 8 + e := nI_clamp (by omega)
  have c3 : (nI t).toNatClampNeg = t := nI_clamp (by omega)
  have c4 : (nI p).toNatClampNeg = p := nI_clamp (by omega)
  refine br_f (nI_pos (by omega)) (br_t (nI_lt ht (by omega)) ⟨ht1, nm_r (e' := nI (e + 1)) (by rw [c3, hdp]) (pk_le (e + 1) 0 (fun h => absurd h (by omega)) (fun _ => pk_le (e + 1) 8 (fun _ => ?_) (fun h => absurd h (by omega))))⟩)
  rw [ll_top, c2]
  refine ⟨hi, nm_r (e' := nI p) h1 ⟨hi, nm_r (e' := nI c) h2 ?_⟩⟩
  refine br_f (nI_pos (by omega)) (pk_lt 7 p (fun h => absurd h (by omega)) (fun _ => br_f (nI_pos (by omega)) ⟨vp_in_nI hp8 (by decide), ?_⟩))
  rw [c4, hl, ll_cel p c, c1]
  refine pk_lt c m (fun _ => ?_) (fun h => absurd h (by omega))
  exact ⟨hz, br_f ho hp⟩
theorem ly_waitA {post : Int32 → Prop} {T t e p c m a : Nat} (ht : t < T) (hT : T ≤ 4) (he : e < 8) (hdp : dp t = nI (e + 1)) (h1 : fp (t * 8 + e) = nI p) (hp8 : p < 8) (h2 : fc (t * 8 + e) = nI c) (hl : ln p = nI m) (hcm : c < m) (hm : m ≤ 8) (ho : op (p * 8 + c) = 1) (ha : ar (p * 8 + c) = nI a) (ha8 : a < 8) (hpn : hd a < 0 → post (-1)) (hp1 : hd a = nI t → post (-1)) (hp0 : ¬ hd a = nI t → ¬ hd a < 0 → post (hd a)) : wpY_waitOf post (nl, nI T, cl, se, vd, rc, op, ar, ln, en, so, ed, re, lv, hd, hc, fp, fc, dp) (nI t) := by
  have ht1 : vp_in (nI t) 4 := vp_in_nI (by omega) (by decide)
  have hz : vp_in (nI (p * 8 + c)) 64 := vp_in_nI (by omega) (by decide)
  have hi : vp_in (nI (t * 8 + e)) 32 := vp_in_nI (by omega) (by decide)
  have c1 : (nI (p * 8 + c)).toNatClampNeg = p * 8 + c := nI_clamp (by omega)
  have c2 : (nI (t * 8 + e)).toNatClampNeg = t * 8 + e := nI_clamp (by omega)
  have c3 : (nI t).toNatClampNeg = t := nI_clamp (by omega)
  have c4 : (nI p).toNatClampNeg = p := nI_clamp (by omega)
  refine br_f (nI_pos (by omega)) (br_t (nI_lt ht (by omega)) ⟨ht1, nm_r (e' := nI (e + 1)) (by rw [c3, hdp]) (pk_le (e + 1) 0 (fun h => absurd h (by omega)) (fun _ => pk_le (e + 1) 8 (fun _ => ?_) (fun h => absurd h (by omega))))⟩)
  rw [ll_top, c2]
  refine ⟨hi, nm_r (e' := nI p) h1 ⟨hi, nm_r (e' := nI c) h2 ?_⟩⟩
  refine br_f (nI_pos (by omega)) (pk_lt 7 p (fun h => absurd h (by omega)) (fun _ => br_f (nI_pos (by omega)) ⟨vp_in_nI hp8 (by decide), ?_⟩))
  rw [c4, hl, ll_cel p c, c1]
  refine pk_lt c m (fun _ => ?_) (fun h => absurd h (by omega))
  have c5 : (nI a).toNatClampNeg = a := nI_clamp (by omega)
  rw [ha, c5]
  exact ⟨hz, br_t ho ⟨hz, vp_in_nI ha8 (by decide), nm_e (br_c hpn (fun z => br_c hp1 (fun z2 => hp0 z2 z)))⟩⟩
theorem lm_wait {L T : Nat} (hL : L ≤ 8) (hT : T ≤ 4) (C : ll_CI L op ar ln) (S : ll_TS T ln fp fc dp) (K : ll_LK L T hd hc hy cy) (x : Int32) :
    ∃ w : Int32, (w = -1 ∨ ∃ s, s < T ∧ w = nI s) ∧ (x < 0 → w = -1) ∧ (w = -1 → ∀ t e p c a, x = nI t → t < T → p < 8 → c < 8 → a < L → dp t = nI (e + 1) → e < 8 → fp (t * 8 + e) = nI p → fc (t * 8 + e) = nI c → op (p * 8 + c) = 1 → ar (p * 8 + c) = nI a → hd a = -1 ∨ hd a = nI t) ∧ (∀ post : Int32 → Prop, post w → wpX_waitsFor post (nl, nI T, cl, 1, vd, lk, op, ar, ln, en, so, lv, ed, pa, fp, fc, dp, hd, hc) x) ∧ (∀ post : Int32 → Prop, post w → wpY_waitOf post (nl, nI T, cl, se, vy, rc, op, ar, ln, en, so, ed, re, lw, hy, cy, fp, fc, dp) x) := by
  rcases pk_ix x (n := T) (by omega) with hx | hx | ⟨t, ht, rfl⟩
  · refine ⟨-1, Or.inl rfl, fun _ => rfl, fun _ t e p c a ht => ?_, fun post hp => lx_wait0 (Or.inl hx) hp, fun post hp => br_t hx hp⟩
    intro htT
    rw [ht] at hx
    exact absurd hx (nI_pos (by omega))
  · have hx0 : ¬ x < 0 := fun q => by
      have := Int32.lt_of_le_of_lt hx q
      exact nI_pos (by omega) this
    have hx1 : ¬ x < nI T := fun q => Int32.lt_irrefl (Int32.lt_of_lt_of_le q hx)
    refine ⟨-1, Or.inl rfl, fun q => absurd q hx0, fun _ t e p c a ht htT => ?_, fun post hp => lx_wait0 (Or.inr hx) hp, fun post hp => br_f hx0 (br_f hx1 hp)⟩
    rw [ht] at hx1
    exact absurd (nI_lt htT (by omega)) hx1
  · obtain ⟨d, hd8, hdp, hF, hsd⟩ := S.1 t ht
    have ht1 : vp_in (nI t) 4 := vp_in_nI (by omega) (by decide)
    have c3 : (nI t).toNatClampNeg = t := nI_clamp (by omega)
    cases d with
    | zero =>
      refine ⟨-1, Or.inl rfl, fun _ => rfl, fun _ t' e p c a ht' htT' _ _ _ hdp' he => ?_, fun post hp => lx_waitD ht hT hdp hp, fun post hp => br_f (nI_pos (by omega)) (br_t (nI_lt ht (by omega)) ⟨ht1, nm_r (e' := nI 0) (by rw [c3, hdp]) (pk_le 0 0 (fun _ => hp) (fun h => absurd h (by omega)))⟩)⟩
      rw [nI_eq (by omega) (by omega)] at ht'
      rw [← ht', hdp, nI_eq (by omega) (by omega)] at hdp'
      omega
    | succ e =>
      obtain ⟨he8, _, p, c, m, h1, hep, hp8, h2, hl, hcm, hm⟩ := ll_cur (S.1 t ht) hdp (by omega)
      have hc8 : c < 8 := by omega
      obtain ⟨m', hm', hl', hcode⟩ := C p hp8
      have em : m' = m := (nI_eq (by omega) (by omega)).mp (hl'.symm.trans hl)
      subst em
      have uq : ∀ t' e' p' c', nI t = nI t' → t' < T → p' < 8 → c' < 8 → dp t' = nI (e' + 1) → e' < 8 → fp (t' * 8 + e') = nI p' → fc (t' * 8 + e') = nI c' → t = t' ∧ p = p' ∧ c = c' := by
        intro t' e' p' c' q1 q2 q3 q4 q5 q6 q7 q8
        rw [nI_eq (by omega) (by omega)] at q1
        subst q1
        rw [hdp, nI_eq (by omega) (by omega)] at q5
        have q9 : e = e' := by omega
        subst q9
        rw [h1, nI_eq (by omega) (by omega)] at q7
        rw [h2, nI_eq (by omega) (by omega)] at q8
        exact ⟨rfl, q7, q8⟩
      have neg : ¬ op (p * 8 + c) = 1 → ∃ w : Int32, (w = -1 ∨ ∃ s, s < T ∧ w = nI s) ∧ (nI t < 0 → w = -1) ∧ (w = -1 → ∀ t' e p c a, nI t = nI t' → t' < T → p < 8 → c < 8 → a < L → dp t' = nI (e + 1) → e < 8 → fp (t' * 8 + e) = nI p → fc (t' * 8 + e) = nI c → op (p * 8 + c) = 1 → ar (p * 8 + c) = nI a → hd a = -1 ∨ hd a = nI t') ∧ (∀ post : Int32 → Prop, post w → wpX_waitsFor post (nl, nI T, cl, 1, vd, lk, op, ar, ln, en, so, lv, ed, pa, fp, fc, dp, hd, hc) (nI t)) ∧ (∀ post : Int32 → Prop, post w → wpY_waitOf post (nl, nI T, cl, se, vy, rc, op, ar, ln, en, so, ed, re, lw, hy, cy, fp, fc, dp) (nI t)) := by
        intro ho
        refine ⟨-1, Or.inl rfl, fun _ => rfl, fun _ t' e' p' c' a q1 q2 q3 q4 _ q5 q6 q7 q8 q9 _ => ?_, fun post hp => lx_waitN ht hT he8 hdp h1 hp8 h2 hc8 ho hp, fun post hp => ly_waitN ht hT he8 hdp h1 hp8 h2 hl hcm hm ho hp⟩
        obtain ⟨_, u2, u3⟩ := uq t' e' p' c' q1 q2 q3 q4 q5 q6 q7 q8
        rw [← u2, ← u3] at q9
        exact absurd q9 ho
      rcases hcode c hcm with ho | ⟨ho, a, haL, ha⟩ | ⟨ho, _⟩ | ⟨ho, _⟩
      · exact neg (by rw [ho]; decide)
      · have ha8 : a < 8 := by omega
        have k1 := K.1 a haL
        have th : hd a = -1 ∨ hd a = nI t → ∀ t' e' p' c' a', nI t = nI t' → t' < T → p' < 8 → c' < 8 → a' < L → dp t' = nI (e' + 1) → e' < 8 → fp (t' * 8 + e') = nI p' → fc (t' * 8 + e') = nI c' → op (p' * 8 + c') = 1 → ar (p' * 8 + c') = nI a' → hd a' = -1 ∨ hd a' = nI t' := by
          intro hh t' e' p' c' a' q1 q2 q3 q4 qa q5 q6 q7 q8 q9 q10
          obtain ⟨u1, u2, u3⟩ := uq t' e' p' c' q1 q2 q3 q4 q5 q6 q7 q8
          rw [← u2, ← u3, ha, nI_eq (by omega) (by omega)] at q10
          rw [← q10, ← u1]
          exact hh
        by_cases hn : hd a = nI t
        · have hn' : hy a = nI t := k1.1.trans hn
          exact ⟨-1, Or.inl rfl, fun _ => rfl, fun _ => th (Or.inr hn), fun post hp => lx_waitA ht hT he8 hdp h1 hp8 h2 hc8 ho ha ha8 (fun _ => hp) (fun z => absurd hn z), fun post hp => ly_waitA ht hT he8 hdp h1 hp8 h2 hl hcm hm ho ha ha8 (fun _ => hp) (fun _ => hp) (fun z => absurd hn' z)⟩
        · have hn' : ¬ hy a = nI t := fun q => hn (k1.1.symm.trans q)
          refine ⟨hd a, ?_, fun q => absurd q (nI_pos (by omega)), fun q => th (Or.inl q), fun post hp => lx_waitA ht hT he8 hdp h1 hp8 h2 hc8 ho ha ha8 (fun z => absurd z hn) (fun _ => hp), fun post hp => ly_waitA ht hT he8 hdp h1 hp8 h2 hl hcm hm ho ha ha8 (fun z => ?_) (fun z => absurd z hn') (fun _ _ => by rw [k1.1]; exact hp)⟩
          · rcases k1.2.2 with q | q
            · exact Or.inl q.1
            · exact Or.inr q
          · rcases k1.2.2 with q | ⟨s, hs, q⟩
            · rw [q.1] at hp; exact hp
            · rw [k1.1, q] at z
              exact absurd z (nI_pos (by omega))
      · exact neg (by rw [ho]; decide)
      · exact neg (by rw [ho]; decide)
theorem lm_step {L T : Nat} (hL : L ≤ 8) (hT : T ≤ 4) (C : ll_CI L op ar ln) (S : ll_TS T ln fp fc dp) (K : ll_LK L T hd hc hy cy) (x : Int32) :
    ∃ r fp' fc' dp' hd' hc' hy' cy', ll_TS T ln fp' fc' dp' ∧ ll_LK L T hd' hc' hy' cy' ∧ (∀ post : Int32 → SX → Prop, post r (nl, nI T, cl, 1, vd, lk, op, ar, ln, en, so, lv, ed, pa, fp', fc', dp', hd', hc') → wpX_step post (nl, nI T, cl, 1, vd, lk, op, ar, ln, en, so, lv, ed, pa, fp, fc, dp, hd, hc) x) ∧ (∀ post : Int32 → SY → Prop, post r (nl, nI T, cl, 1, vy, 0, op, ar, ln, en, so, ed, re, lw, hy', cy', fp', fc', dp') → wpY_step post (nl, nI T, cl, 1, vy, 0, op, ar, ln, en, so, ed, re, lw, hy, cy, fp, fc, dp) x) := by
  rcases pk_ix x (n := T) (by omega) with hx | hx | ⟨t, ht, rfl⟩
  · exact ⟨3, fp, fc, dp, hd, hc, hy, cy, S, K, fun post hp => br_f ll_1n0 (lx_thr0 (Or.inl hx) (br_t rfl hp)), fun post hp => br_f ll_1n0 (br_t hx hp)⟩
  · have hx0 : ¬ x < 0 := fun q => by
      have := Int32.lt_of_le_of_lt hx q
      exact nI_pos (by omega) this
    have hx1 : ¬ x < nI T := fun q => Int32.lt_irrefl (Int32.lt_of_lt_of_le q hx)
    exact ⟨3, fp, fc, dp, hd, hc, hy, cy, S, K, fun post hp => br_f ll_1n0 (lx_thr0 (Or.inr hx) (br_t rfl hp)), fun post hp => br_f ll_1n0 (br_f hx0 (br_f hx1 hp))⟩
  · obtain ⟨d, hd8, hdp, hF, hsd⟩ := S.1 t ht
    have ht1 : vp_in (nI t) 4 := vp_in_nI (by omega) (by decide)
    have c3 : (nI t).toNatClampNeg = t := nI_clamp (by omega)
    cases d with
    | zero =>
      exact ⟨2, fp, fc, dp, hd, hc, hy, cy, S, K, fun post hp => br_f ll_1n0 (lx_thr1 ht hT (br_f ll_1n0 (lx_isDone (by omega) hdp (by omega) (fun _ => br_f ll_1n0 hp) (fun z => absurd rfl z)))), fun post hp => br_f ll_1n0 (br_f (nI_pos (by omega)) (br_t (nI_lt ht (by omega)) ⟨ht1, pk_lt 0 0 (fun h => absurd h (by omega)) (fun _ => hp) rfl (by rw [c3]; exact hdp)⟩))⟩
    | succ e =>
      obtain ⟨w, hw, _, hfr, wX, wY⟩ := lm_wait (nl := nl) (cl := cl) (se := 1) (vd := vd) (lk := lk) (rc := 0) (vy := vy) (en := en) (so := so) (lv := lv) (lw := lw) (ed := ed) (pa := pa) (re := re) hL hT C S K (nI t)
      by_cases hm1 : w = -1
      · obtain ⟨fp', fc', dp', hd', hc', hy', cy', S', K', eX, eY⟩ := lm_exec (nl := nl) (nt := nI T) (cl := cl) (se := 1) (vd := vd) (lk := lk) (vy := vy) (en := en) (so := so) (lv := lv) (lw := lw) (ed := ed) (pa := pa) (re := re) hL hT ht C S K hdp (by omega) (fun p c a hp8 hc8 haL q1 q2 q3 q4 => hfr hm1 t e p c a rfl ht hp8 hc8 haL hdp (by omega) q1 q2 q3 q4)
        subst hm1
        refine ⟨0, fp', fc', dp', hd', hc', hy', cy', S', K', fun post hp => ?_, fun post hp => ?_⟩
        · refine br_f ll_1n0 (lx_thr1 ht hT (br_f ll_1n0 (lx_isDone (by omega) hdp (by omega) (fun z => absurd z (by omega)) (fun _ => br_t rfl ?_))))
          exact wX _ (br_t rfl (eX _ hp))
        · refine br_f ll_1n0 (br_f (nI_pos (by omega)) (br_t (nI_lt ht (by omega)) ⟨ht1, pk_lt 0 (e + 1) (fun _ => ?_) (fun h => absurd h (by omega)) rfl (by rw [c3]; exact hdp)⟩))
          exact wY _ (br_t (by decide) (eY _ hp))
      · obtain ⟨s, hs, rfl⟩ : ∃ s, s < T ∧ w = nI s := hw.resolve_left hm1
        refine ⟨1, fp, fc, dp, hd, hc, hy, cy, S, K, fun post hp => ?_, fun post hp => ?_⟩
        · refine br_f ll_1n0 (lx_thr1 ht hT (br_f ll_1n0 (lx_isDone (by omega) hdp (by omega) (fun z => absurd z (by omega)) (fun _ => br_t rfl ?_))))
          exact wX _ (br_f hm1 hp)
        · refine br_f ll_1n0 (br_f (nI_pos (by omega)) (br_t (nI_lt ht (by omega)) ⟨ht1, pk_lt 0 (e + 1) (fun _ => ?_) (fun h => absurd h (by omega)) rfl (by rw [c3]; exact hdp)⟩))
          exact wY _ (br_f (nI_pos (by omega)) hp)
theorem lm_run {L T N : Nat} {v : Int32} (hL : L ≤ 8) (h1T : 1 ≤ T) (hT : T ≤ 4) (hN : N ≤ 1024) (C : ll_CI L op ar ln) : ∀ (m i : Nat) (c : Int32) (fp fc dp hd hc hy cy : Nat → Int32), i + m = N → ll_TS T ln fp fc dp → ll_LK L T hd hc hy cy →
    ∃ c' fp' fc' dp' hd' hc' hy' cy', ll_TS T ln fp' fc' dp' ∧ ll_LK L T hd' hc' hy' cy' ∧ (∀ (post : Int32 → SX → Prop) (n : Nat), m < n → post c' (nl, nI T, cl, 1, vd, lk, op, ar, ln, en, so, lv, ed, pa, fp', fc', dp', hd', hc') → wX_run_24 post v (nI N) n c (nI i) nl (nI T) cl 1 vd lk op ar ln en so lv ed pa fp fc dp hd hc) ∧ (∀ (post : Int32 → SY → Prop) (n : Nat), m < n → post c' (nl, nI T, cl, 1, vy, 0, op, ar, ln, en, so, ed, re, lw, hy', cy', fp', fc', dp') → wY_run_38 post v (nI N) n c (nI i) nl (nI T) cl 1 vy 0 op ar ln en so ed re lw hy cy fp fc dp) := by
  have hT0 : ¬ nI T = 0 := nI_ne0 (by omega) (by omega)
  have h16 : ¬ (16 : Int32) = 0 := by decide
  intro m
  induction m with
  | zero =>
    intro i c fp fc dp hd hc hy cy hi S K
    have e : i = N := by omega
    subst e
    refine ⟨c, fp, fc, dp, hd, hc, hy, cy, S, K, fun post n hn hp => ?_, fun post n hn hp => ?_⟩
    · obtain ⟨n, rfl⟩ : ∃ m, n = m + 1 := ⟨n - 1, by omega⟩
      exact pk_le i i (fun _ => hp) (fun h => absurd h (by omega))
    · obtain ⟨n, rfl⟩ : ∃ m, n = m + 1 := ⟨n - 1, by omega⟩
      exact pk_le i i (fun _ => hp) (fun h => absurd h (by omega))
  | succ m ih =>
    intro i c fp fc dp hd hc hy cy hi S K
    obtain ⟨r, fp1, fc1, dp1, hd1, hc1, hy1, cy1, S1, K1, sX, sY⟩ := lm_step (nl := nl) (cl := cl) (vd := vd) (lk := lk) (vy := vy) (en := en) (so := so) (lv := lv) (lw := lw) (ed := ed) (pa := pa) (re := re) hL hT C S K (ll_fld v (nI i) - ll_fld v (nI i) / nI T * nI T)
    by_cases hr : r = 0
    · obtain ⟨c', fp', fc', dp', hd', hc', hy', cy', S', K', gX, gY⟩ := ih (i + 1) (c + 1) fp1 fc1 dp1 hd1 hc1 hy1 cy1 (by omega) S1 K1
      refine ⟨c', fp', fc', dp', hd', hc', hy', cy', S', K', fun post n hn hp => ?_, fun post n hn hp => ?_⟩
      · obtain ⟨n, rfl⟩ : ∃ m, n = m + 1 := ⟨n - 1, by omega⟩
        refine pk_le N i (fun h => absurd h (by omega)) (fun _ => And.intro h16 (nm_r (e' := ll_fld v (nI i)) rfl ⟨hT0, sX _ ?_⟩))
        exact br_t hr (nm_e (nm_r (nI_1 i) (gX post n (by omega) hp)))
      · obtain ⟨n, rfl⟩ : ∃ m, n = m + 1 := ⟨n - 1, by omega⟩
        refine pk_le N i (fun h => absurd h (by omega)) (fun _ => And.intro h16 (nm_r (e' := ll_fld v (nI i)) rfl ⟨hT0, nm_e (sY _ ?_)⟩))
        exact br_t hr (nm_e (nm_r (nI_1 i) (gY post n (by omega) hp)))
    · obtain ⟨c', fp', fc', dp', hd', hc', hy', cy', S', K', gX, gY⟩ := ih (i + 1) c fp1 fc1 dp1 hd1 hc1 hy1 cy1 (by omega) S1 K1
      refine ⟨c', fp', fc', dp', hd', hc', hy', cy', S', K', fun post n hn hp => ?_, fun post n hn hp => ?_⟩
      · obtain ⟨n, rfl⟩ : ∃ m, n = m + 1 := ⟨n - 1, by omega⟩
        refine pk_le N i (fun h => absurd h (by omega)) (fun _ => And.intro h16 (nm_r (e' := ll_fld v (nI i)) rfl ⟨hT0, sX _ ?_⟩))
        exact br_f hr (nm_r (nI_1 i) (gX post n (by omega) hp))
      · obtain ⟨n, rfl⟩ : ∃ m, n = m + 1 := ⟨n - 1, by omega⟩
        refine pk_le N i (fun h => absurd h (by omega)) (fun _ => And.intro h16 (nm_r (e' := ll_fld v (nI i)) rfl ⟨hT0, nm_e (sY _ ?_)⟩))
        exact br_f hr (nm_r (nI_1 i) (gY post n (by omega) hp))
theorem lm_chain {L T s : Nat} (hL : L ≤ 8) (hT : T ≤ 4) (hs : s < T) (C : ll_CI L op ar ln) (S : ll_TS T ln fp fc dp) (K : ll_LK L T hd hc hy cy) : ∀ (m k : Nat) (r : Int32), k + 1 + m = T →
    ∃ b : Int32, (b = 0 ∨ b = 1) ∧ (∀ (post : Int32 → Prop) (n : Nat), m < n → post b → wX_waitsForItself_8 post (nI s) nl (nI T) cl 1 vd lk op ar ln en so lv ed pa fp fc dp hd hc n r (nI (k + 1))) ∧ (∀ (post : Int32 → Prop) (J : Int32 → Prop) (n : Nat), m < n → (b = 1 → post 1) → (b = 0 → J (nI (s + 1))) → wY_deadlocked_44 post J (wY_deadlocked_23 post J (nI s) nl (nI T) cl 1 vy rc op ar ln en so ed re lw hy cy fp fc dp n) (nI s) (nI k) r nl (nI T) cl 1 vy rc op ar ln en so ed re lw hy cy fp fc dp) := by
  intro m
  induction m with
  | zero =>
    intro k r hk
    have e : k + 1 = T := by omega
    by_cases z : r = nI s
    · refine ⟨1, Or.inr rfl, fun post n hn hp => ?_, fun post J n hn h1 h0 => br_t z (h1 rfl)⟩
      obtain ⟨n, rfl⟩ : ∃ m, n = m + 1 := ⟨n - 1, by omega⟩
      exact pk_le T (k + 1) (fun _ => br_t z hp) (fun h => absurd h (by omega))
    · refine ⟨0, Or.inl rfl, fun post n hn hp => ?_, fun post J n hn h1 h0 => br_f z (nm_r (nI_1 k) ?_)⟩
      · obtain ⟨n, rfl⟩ : ∃ m, n = m + 1 := ⟨n - 1, by omega⟩
        exact pk_le T (k + 1) (fun _ => br_f z hp) (fun h => absurd h (by omega))
      · obtain ⟨n, rfl⟩ : ∃ m, n = m + 1 := ⟨n - 1, by omega⟩
        exact pk_le T (k + 1) (fun _ => nm_r (nI_1 s) (h0 rfl)) (fun h => absurd h (by omega))
  | succ m ih =>
    intro k r hk
    by_cases z : r = nI s
    · refine ⟨1, Or.inr rfl, fun post n hn hp => ?_, fun post J n hn h1 h0 => br_t z (h1 rfl)⟩
      obtain ⟨n, rfl⟩ : ∃ m, n = m + 1 := ⟨n - 1, by omega⟩
      exact pk_le T (k + 1) (fun h => absurd h (by omega)) (fun _ => br_t z (br_t z hp))
    · obtain ⟨w, _, hneg, _, wX, wY⟩ := lm_wait (nl := nl) (cl := cl) (se := 1) (vd := vd) (lk := lk) (rc := rc) (vy := vy) (en := en) (so := so) (lv := lv) (lw := lw) (ed := ed) (pa := pa) (re := re) hL hT C S K r
      obtain ⟨b, hb, gX, gY⟩ := ih (k + 1) w (by omega)
      refine ⟨b, hb, fun post n hn hp => ?_, fun post J n hn h1 h0 => br_f z (nm_r (nI_1 k) ?_)⟩
      · obtain ⟨n, rfl⟩ : ∃ m, n = m + 1 := ⟨n - 1, by omega⟩
        refine pk_le T (k + 1) (fun h => absurd h (by omega)) (fun _ => br_f z (wX _ ?_))
        exact nm_r (nI_1 (k + 1)) (gX post n (by omega) hp)
      · obtain ⟨n, rfl⟩ : ∃ m, n = m + 1 := ⟨n - 1, by omega⟩
        have q := gY post J n (by omega) h1 h0
        refine pk_le T (k + 1) (fun h => absurd h (by omega)) (fun _ => br_c (fun q1 => ?_) (fun q1 => wY _ q))
        rw [hneg q1] at q
        exact q
theorem lm_wfi {L T s : Nat} (hL : L ≤ 8) (hT : T ≤ 4) (hs : s < T) (C : ll_CI L op ar ln) (S : ll_TS T ln fp fc dp) (K : ll_LK L T hd hc hy cy) :
    ∃ b : Int32, (b = 0 ∨ b = 1) ∧ (∀ (post : Int32 → Prop), post b → wpX_waitsForItself post (nl, nI T, cl, 1, vd, lk, op, ar, ln, en, so, lv, ed, pa, fp, fc, dp, hd, hc) (nI s)) ∧ (∀ (post : Int32 → Prop) (J : Int32 → Prop) (n : Nat), T < n → (b = 1 → post 1) → (b = 0 → J (nI (s + 1))) → wY_deadlocked_23 post J (nI s) nl (nI T) cl 1 vy rc op ar ln en so ed re lw hy cy fp fc dp n (nI s) 0) := by
  obtain ⟨w, _, hneg, _, wX, wY⟩ := lm_wait (nl := nl) (cl := cl) (se := 1) (vd := vd) (lk := lk) (rc := rc) (vy := vy) (en := en) (so := so) (lv := lv) (lw := lw) (ed := ed) (pa := pa) (re := re) hL hT C S K (nI s)
  obtain ⟨b, hb, gX, gY⟩ := lm_chain (nl := nl) (cl := cl) (vd := vd) (lk := lk) (rc := rc) (vy := vy) (en := en) (so := so) (lv := lv) (lw := lw) (ed := ed) (pa := pa) (re := re) hL hT hs C S K (T - 1) 0 w (by omega)
  refine ⟨b, hb, fun post hp => ?_, fun post J n hn h1 h0 => ?_⟩
  · unfold wpX_waitsForItself
    exact wX _ ⟨T, gX post T (by omega) hp⟩
  · obtain ⟨n, rfl⟩ : ∃ m, n = m + 1 := ⟨n - 1, by omega⟩
    exact pk_le T 0 (fun h => absurd h (by omega)) (fun _ => br_f (nI_pos (by omega)) (wY _ (gY post J n (by omega) h1 h0)))
theorem lm_dead {L T : Nat} (hL : L ≤ 8) (hT : T ≤ 4) (C : ll_CI L op ar ln) (S : ll_TS T ln fp fc dp) (K : ll_LK L T hd hc hy cy) : ∀ (m s : Nat), s + m = T →
    ∃ b : Int32, (∀ (post : Int32 → Prop) (n : Nat), m < n → post b → wX_deadlocked_2 post nl (nI T) cl 1 vd lk op ar ln en so lv ed pa fp fc dp hd hc n (nI s)) ∧ (∀ (post : Int32 → Prop) (n : Nat), m < n → post b → wY_deadlocked_11 post nl (nI T) cl 1 vy rc op ar ln en so ed re lw hy cy fp fc dp n (nI s)) := by
  intro m
  induction m with
  | zero =>
    intro s hs
    have e : s = T := by omega
    subst e
    refine ⟨0, fun post n hn hp => ?_, fun post n hn hp => ?_⟩
    · obtain ⟨n, rfl⟩ : ∃ m, n = m + 1 := ⟨n - 1, by omega⟩
      exact pk_le s s (fun _ => hp) (fun h => absurd h (by omega))
    · obtain ⟨n, rfl⟩ : ∃ m, n = m + 1 := ⟨n - 1, by omega⟩
      exact pk_le s s (fun _ => hp) (fun h => absurd h (by omega))
  | succ m ih =>
    intro s hs
    obtain ⟨b, hb, gX, gY⟩ := lm_wfi (s := s) (nl := nl) (cl := cl) (vd := vd) (lk := lk) (rc := rc) (vy := vy) (en := en) (so := so) (lv := lv) (lw := lw) (ed := ed) (pa := pa) (re := re) hL hT (by omega) C S K
    rcases hb with rfl | rfl
    · obtain ⟨b, jX, jY⟩ := ih (s + 1) (by omega)
      refine ⟨b, fun post n hn hp => ?_, fun post n hn hp => ?_⟩
      · obtain ⟨n, rfl⟩ : ∃ m, n = m + 1 := ⟨n - 1, by omega⟩
        exact pk_le T s (fun h => absurd h (by omega)) (fun _ => gX _ (br_t rfl (nm_r (nI_1 s) (jX post n (by omega) hp))))
      · obtain ⟨n, rfl⟩ : ∃ m, n = m + 1 := ⟨n - 1, by omega⟩
        exact pk_le T s (fun h => absurd h (by omega)) (fun _ => ⟨T + 1, gY post _ (T + 1) (by omega) (fun q => absurd q (by decide)) (fun _ => jY post n (by omega) hp)⟩)
    · refine ⟨1, fun post n hn hp => ?_, fun post n hn hp => ?_⟩
      · obtain ⟨n, rfl⟩ : ∃ m, n = m + 1 := ⟨n - 1, by omega⟩
        exact pk_le T s (fun h => absurd h (by omega)) (fun _ => gX _ (br_f ll_1n0 hp))
      · obtain ⟨n, rfl⟩ : ∃ m, n = m + 1 := ⟨n - 1, by omega⟩
        exact pk_le T s (fun h => absurd h (by omega)) (fun _ => ⟨T + 1, gY post _ (T + 1) (by omega) (fun _ => hp) (fun q => absurd q ll_1n0)⟩)
theorem lx_chainU {post : Int32 → Prop} {T s : Nat} (hT : T ≤ 4) (hs : s < T) (hp : post 0) : ∀ (m n k : Nat), k + m = T → m < n → wX_waitsForItself_8 post (nI s) nl (nI T) cl 0 vd lk op ar ln en so lv ed pa fp fc dp hd hc n (-1) (nI k) := by
  have hz : ¬ (-1 : Int32) = nI s := ll_m1 s (by omega)
  intro m
  induction m with
  | zero =>
    intro n k hk hn
    obtain ⟨n, rfl⟩ : ∃ m, n = m + 1 := ⟨n - 1, by omega⟩
    exact pk_le T k (fun _ => br_f hz hp) (fun h => absurd h (by omega))
  | succ m ih =>
    intro n k hk hn
    obtain ⟨n, rfl⟩ : ∃ m, n = m + 1 := ⟨n - 1, by omega⟩
    exact pk_le T k (fun h => absurd h (by omega)) (fun _ => br_f hz (lx_waitU (nm_r (nI_1 k) (ih n (k + 1) (by omega) (by omega)))))
theorem lx_deadU {post : Int32 → Prop} {T : Nat} (h1 : 1 ≤ T) (hT : T ≤ 4) (hp : post 0) : ∀ (m n s : Nat), s + m = T → m < n → wX_deadlocked_2 post nl (nI T) cl 0 vd lk op ar ln en so lv ed pa fp fc dp hd hc n (nI s) := by
  intro m
  induction m with
  | zero =>
    intro n s hs hn
    obtain ⟨n, rfl⟩ : ∃ m, n = m + 1 := ⟨n - 1, by omega⟩
    exact pk_le T s (fun _ => hp) (fun h => absurd h (by omega))
  | succ m ih =>
    intro n s hs hn
    obtain ⟨n, rfl⟩ : ∃ m, n = m + 1 := ⟨n - 1, by omega⟩
    refine pk_le T s (fun h => absurd h (by omega)) (fun _ => ?_)
    unfold wpX_waitsForItself
    refine lx_waitU ?_
    exact ⟨T, lx_chainU hT (by omega) (br_t rfl (nm_r (nI_1 s) (ih n (s + 1) (by omega) (by omega)))) (T - 1) T 1 (by omega) (by omega)⟩
end
