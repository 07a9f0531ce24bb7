/-! the machine, pure; the small walks of X -/
/-- the depth at which a stack of depth d comes to rest -/
def ll_sd (ln fp fc : Nat → Int32) (b : Nat) : Nat → Nat
  | 0 => 0
  | d + 1 => if fc (b + d) < ln (fp (b + d)).toNatClampNeg then d + 1 else ll_sd ln fp fc b d
/-- the frames of a stack -/
def ll_FR (ln fp fc : Nat → Int32) (b d : Nat) : Prop :=
  ∀ i, i < d → ∃ p c n, fp (b + i) = nI p ∧ i ≤ p ∧ p < 8 ∧ fc (b + i) = nI c ∧ ln p = nI n ∧ c ≤ n ∧ n ≤ 8
section
variable {nl nt cl se vd lk : Int32} {op ar ln en so lv ed pa fp fc dp hd hc fp' fc' dp' hd' hc' : Nat → Int32}
theorem ll_sd_le {b : Nat} : ∀ d, ll_sd ln fp fc b d ≤ d := by
  intro d
  induction d with
  | zero => exact Nat.le_refl _
  | succ d ih =>
    show (if _ then d + 1 else ll_sd ln fp fc b d) ≤ d + 1
    split
    · exact Nat.le_refl _
    · omega
theorem ll_sd_id {b : Nat} : ∀ d, ll_sd ln fp fc b (ll_sd ln fp fc b d) = ll_sd ln fp fc b d := by
  intro d
  induction d with
  | zero => rfl
  | succ d ih =>
    by_cases h : fc (b + d) < ln (fp (b + d)).toNatClampNeg
    · have e : ll_sd ln fp fc b (d + 1) = d + 1 := if_pos h
      rw [e, e]
    · have e : ll_sd ln fp fc b (d + 1) = ll_sd ln fp fc b d := if_neg h
      rw [e, ih]
theorem ll_sd_c {b d p c m : Nat} (h1 : fp (b + d) = nI p) (hp : p < 8) (h2 : fc (b + d) = nI c) (h3 : ln p = nI m) (hcm : c ≤ m) (hm : m ≤ 8) : (fc (b + d) < ln (fp (b + d)).toNatClampNeg) ↔ c < m := by
  rw [h1, h2, nI_clamp (by omega), h3, nI_ltI (by omega) (by omega)]
theorem ll_sd_t {b d p c m : Nat} (h1 : fp (b + d) = nI p) (hp : p < 8) (h2 : fc (b + d) = nI c) (h3 : ln p = nI m) (hcm : c < m) (hm : m ≤ 8) : ll_sd ln fp fc b (d + 1) = d + 1 :=
  if_pos ((ll_sd_c h1 hp h2 h3 (by omega) hm).mpr hcm)
theorem ll_sd_f {b d p c m : Nat} (h1 : fp (b + d) = nI p) (hp : p < 8) (h2 : fc (b + d) = nI c) (h3 : ln p = nI m) (hcm : c = m) (hm : m ≤ 8) : ll_sd ln fp fc b (d + 1) = ll_sd ln fp fc b d :=
  if_neg (fun h => by
    have := (ll_sd_c h1 hp h2 h3 (by omega) hm).mp h
    omega)
theorem ll_FRle {b d d' : Nat} (h : ll_FR ln fp fc b d) (hd' : d' ≤ d) : ll_FR ln fp fc b d' := fun i hi => h i (by omega)
theorem ll_top (t e : Nat) : nI t * 8 + nI (e + 1) - 1 = nI (t * 8 + e) := by
  rw [ll_8, nI_add, show t * 8 + (e + 1) = (t * 8 + e) + 1 from rfl, nI_pred]
theorem ll_cel (p c : Nat) : nI p * 8 + nI c = nI (p * 8 + c) := by rw [ll_8, nI_add]
theorem lx_isDone {post : Int32 → Prop} {t d : Nat} (ht : t < 4) (hdp : dp t = nI d) (h8 : d ≤ 8) (h0 : d = 0 → post 1) (h1 : d ≠ 0 → post 0) : wpX_isDone post (nl, nt, cl, se, vd, lk, op, ar, ln, en, so, lv, ed, pa, fp, fc, dp, hd, hc) (nI t) :=
  And.intro (vp_in_nI ht (by decide)) (pk_eq d 0 h0 h1 (by rw [nI_clamp (by omega)]; exact hdp))
theorem lx_top {post : Int32 → Prop} {t e : Nat} (ht : t < 4) (hdp : dp t = nI (e + 1)) (h : post (nI (t * 8 + e))) : wpX_topFrame post (nl, nt, cl, se, vd, lk, op, ar, ln, en, so, lv, ed, pa, fp, fc, dp, hd, hc) (nI t) :=
  And.intro (vp_in_nI ht (by decide)) (ek_v (P := post) (by rw [nI_clamp (by omega), hdp, ll_top]) h)
theorem lx_cell {post : Int32 → Prop} {t e p c : Nat} (ht : t < 4) (hdp : dp t = nI (e + 1)) (he : e < 8) (h1 : fp (t * 8 + e) = nI p) (h2 : fc (t * 8 + e) = nI c) (h : post (nI (p * 8 + c))) : wpX_currentCell post (nl, nt, cl, se, vd, lk, op, ar, ln, en, so, lv, ed, pa, fp, fc, dp, hd, hc) (nI t) := by
  unfold wpX_currentCell
  refine lx_top ht hdp ?_
  have hi : vp_in (nI (t * 8 + e)) 32 := vp_in_nI (by omega) (by decide)
  exact ⟨hi, hi, ek_v (P := post) (by rw [nI_clamp (by omega), h1, h2, ll_cel]) h⟩
theorem lx_settle2 {post : St2 → Prop} {t : Nat} (ht : t < 4) : ∀ (n i d : Nat) (dp : Nat → Int32), i + d ≤ 8 → d < n → dp t = nI d → ll_FR ln fp fc (t * 8) d → post (nl, nt, cl, se, vd, lk, op, ar, ln, en, so, lv, ed, pa, fp, fc, upd dp t (nI (ll_sd ln fp fc (t * 8) d)), hd, hc) → wX_settle_2 post (nI t) nl nt cl se vd lk n (nI i) op ar ln en so lv ed pa fp fc dp hd hc := by
  intro n
  induction n with
  | zero => intro i d dp hi hn; omega
  | succ n ih =>
    intro i d dp hi hn hdp hF hp
    refine pk_le 8 i (fun h8 => ?_) (fun h8 => ?_)
    · have e : d = 0 := by omega
      subst e
      rw [show ll_sd ln fp fc (t * 8) 0 = 0 from rfl, ll_ui dp t _ hdp] at hp
      exact hp
    · cases d with
      | zero =>
        rw [show ll_sd ln fp fc (t * 8) 0 = 0 from rfl, ll_ui dp t _ hdp] at hp
        exact lx_isDone ht hdp (by omega) (fun _ => br_f (by decide) hp) (fun h => absurd rfl h)
      | succ d =>
        obtain ⟨p, c, m, e1, e2, e3, e4, e5, e6, e7⟩ := hF d (by omega)
        refine lx_isDone ht hdp (by omega) (fun h => absurd h (by omega)) (fun _ => br_t rfl ?_)
        refine lx_top ht hdp ?_
        have hi1 : vp_in (nI (t * 8 + d)) 32 := vp_in_nI (by omega) (by decide)
        have ht1 : vp_in (nI t) 4 := vp_in_nI ht (by decide)
        have c1 : (nI (t * 8 + d)).toNatClampNeg = t * 8 + d := nI_clamp (by omega)
        have c2 : (nI p).toNatClampNeg = p := nI_clamp (by omega)
        have c3 : (nI t).toNatClampNeg = t := nI_clamp (by omega)
        rw [c1, e1, e4, c2, e5, c3]
        refine ⟨hi1, hi1, vp_in_nI e3 (by decide), pk_le m c (fun h => ?_) (fun h => ?_)⟩
        · refine ⟨ht1, ht1, nm_r (e' := upd dp t (nI d)) (by rw [hdp, nI_pred]) (nm_r (nI_1 i) ?_)⟩
          refine ih (i + 1) d (upd dp t (nI d)) (by omega) (by omega) pk_us (ll_FRle hF (by omega)) ?_
          rw [ll_sd_f e1 e3 e4 e5 (by omega) e7] at hp
          rw [ll_uu]
          exact hp
        · rw [ll_sd_t e1 e3 e4 e5 (by omega) e7, ll_ui dp t _ hdp] at hp
          exact hp
theorem lx_settle2_2 {post : St2 → Prop} {t : Nat} (ht : t < 4) : ∀ (n i d : Nat) (dp : Nat → Int32), i + d ≤ 8 → d < n → dp t = nI d → ll_FR ln fp fc (t * 8) d → post (nl, nt, cl, se, vd, lk, op, ar, ln, en, so, lv, ed, pa, fp, fc, upd dp t (nI (ll_sd ln fp fc (t * 8) d)), hd, hc) → wX_settle_2_2 post (nI t) nl nt cl se vd lk n (nI i) op ar ln en so lv ed pa fp fc dp hd hc := by
  intro n
  induction n with
  | zero => intro i d dp hi hn; omega
  | succ n ih =>
    intro i d dp hi hn hdp hF hp
    refine pk_le 8 i (fun h8 => ?_) (fun h8 => ?_)
    · have e : d = 0 := by omega
      subst e
      rw [show ll_sd ln fp fc (t * 8) 0 = 0 from rfl, ll_ui dp t _ hdp] at hp
      exact hp
    · cases d with
      | zero =>
        rw [show ll_sd ln fp fc (t * 8) 0 = 0 from rfl, ll_ui dp t _ hdp] at hp
        exact lx_isDone ht hdp (by omega) (fun _ => br_f (by decide) hp) (fun h => absurd rfl h)
      | succ d =>
        obtain ⟨p, c, m, e1, e2, e3, e4, e5, e6, e7⟩ := hF d (by omega)
        refine lx_isDone ht hdp (by omega) (fun h => absurd h (by omega)) (fun _ => br_t rfl ?_)
        refine lx_top ht hdp ?_
        have hi1 : vp_in (nI (t * 8 + d)) 32 := vp_in_nI (by omega) (by decide)
        have ht1 : vp_in (nI t) 4 := vp_in_nI ht (by decide)
        have c1 : (nI (t * 8 + d)).toNatClampNeg = t * 8 + d := nI_clamp (by omega)
        have c2 : (nI p).toNatClampNeg = p := nI_clamp (by omega)
        have c3 : (nI t).toNatClampNeg = t := nI_clamp (by omega)
        rw [c1, e1, e4, c2, e5, c3]
        refine ⟨hi1, hi1, vp_in_nI e3 (by decide), pk_le m c (fun h => ?_) (fun h => ?_)⟩
        · refine ⟨ht1, ht1, nm_r (e' := upd dp t (nI d)) (by rw [hdp, nI_pred]) (nm_r (nI_1 i) ?_)⟩
          refine ih (i + 1) d (upd dp t (nI d)) (by omega) (by omega) pk_us (ll_FRle hF (by omega)) ?_
          rw [ll_sd_f e1 e3 e4 e5 (by omega) e7] at hp
          rw [ll_uu]
          exact hp
        · rw [ll_sd_t e1 e3 e4 e5 (by omega) e7, ll_ui dp t _ hdp] at hp
          exact hp
theorem lx_settle {post : St2 → Prop} {t d : Nat} (ht : t < 4) (h8 : d ≤ 8) (hdp : dp t = nI d) (hF : ll_FR ln fp fc (t * 8) d) (hp : post (nl, nt, cl, se, vd, lk, op, ar, ln, en, so, lv, ed, pa, fp, fc, upd dp t (nI (ll_sd ln fp fc (t * 8) d)), hd, hc)) : wpX_settle post (nl, nt, cl, se, vd, lk, op, ar, ln, en, so, lv, ed, pa, fp, fc, dp, hd, hc) (nI t) :=
  ⟨9, lx_settle2 ht 9 0 d dp (by omega) (by omega) hdp hF hp⟩
theorem lx_settle_2 {post : St2 → Prop} {t d : Nat} (ht : t < 4) (h8 : d ≤ 8) (hdp : dp t = nI d) (hF : ll_FR ln fp fc (t * 8) d) (hp : post (nl, nt, cl, se, vd, lk, op, ar, ln, en, so, lv, ed, pa, fp, fc, upd dp t (nI (ll_sd ln fp fc (t * 8) d)), hd, hc)) : wpX_settle_2 post (nl, nt, cl, se, vd, lk, op, ar, ln, en, so, lv, ed, pa, fp, fc, dp, hd, hc) (nI t) :=
  ⟨9, lx_settle2_2 ht 9 0 d dp (by omega) (by omega) hdp hF hp⟩
theorem lx_push {post : St2 → Prop} {t d : Nat} {q : Int32} (ht : t < 4) (h8 : d < 8) (hdp : dp t = nI d) (hp : post (nl, nt, cl, se, vd, lk, op, ar, ln, en, so, lv, ed, pa, upd fp (t * 8 + d) q, upd fc (t * 8 + d) 0, upd dp t (nI (d + 1)), hd, hc)) : wpX_push post (nl, nt, cl, se, vd, lk, op, ar, ln, en, so, lv, ed, pa, fp, fc, dp, hd, hc) (nI t) q := by
  have ht1 : vp_in (nI t) 4 := vp_in_nI ht (by decide)
  have hi1 : vp_in (nI (t * 8 + d)) 32 := vp_in_nI (by omega) (by decide)
  have c1 : (nI (t * 8 + d)).toNatClampNeg = t * 8 + d := nI_clamp (by omega)
  have c3 : (nI t).toNatClampNeg = t := nI_clamp (by omega)
  refine And.intro ht1 (nm_r (e' := nI (t * 8 + d)) (by rw [c3, hdp, ll_cel]) ⟨hi1, nm_r (e' := upd fp (t * 8 + d) q) (by rw [c1]) ⟨hi1, nm_r (e' := upd fc (t * 8 + d) 0) (by rw [c1]) ⟨ht1, ht1, nm_r (e' := upd dp t (nI (d + 1))) (by rw [c3, hdp, nI_1]) hp⟩⟩⟩)
theorem lx_push_2 {post : St2 → Prop} {t d : Nat} {q : Int32} (ht : t < 4) (h8 : d < 8) (hdp : dp t = nI d) (hp : post (nl, nt, cl, se, vd, lk, op, ar, ln, en, so, lv, ed, pa, upd fp (t * 8 + d) q, upd fc (t * 8 + d) 0, upd dp t (nI (d + 1)), hd, hc)) : wpX_push_2 post (nl, nt, cl, se, vd, lk, op, ar, ln, en, so, lv, ed, pa, fp, fc, dp, hd, hc) (nI t) q := by
  have ht1 : vp_in (nI t) 4 := vp_in_nI ht (by decide)
  have hi1 : vp_in (nI (t * 8 + d)) 32 := vp_in_nI (by omega) (by decide)
  have c1 : (nI (t * 8 + d)).toNatClampNeg = t * 8 + d := nI_clamp (by omega)
  have c3 : (nI t).toNatClampNeg = t := nI_clamp (by omega)
  refine And.intro ht1 (nm_r (e' := nI (t * 8 + d)) (by rw [c3, hdp, ll_cel]) ⟨hi1, nm_r (e' := upd fp (t * 8 + d) q) (by rw [c1]) ⟨hi1, nm_r (e' := upd fc (t * 8 + d) 0) (by rw [c1]) ⟨ht1, ht1, nm_r (e' := upd dp t (nI (d + 1))) (by rw [c3, hdp, nI_1]) hp⟩⟩⟩)
theorem lx_start {post : St2 → Prop} {t p m : Nat} (ht : t < 4) (he : en t = nI p) (hp8 : p < 8) (hl : ln p = nI m) (hm : m ≤ 8) (hp : post (nl, nt, cl, se, vd, lk, op, ar, ln, en, so, lv, ed, pa, upd fp (t * 8) (nI p), upd fc (t * 8) 0, upd dp t (nI (if 0 < m then 1 else 0)), hd, hc)) : wpX_start post (nl, nt, cl, se, vd, lk, op, ar, ln, en, so, lv, ed, pa, fp, fc, dp, hd, hc) (nI t) := by
  have ht1 : vp_in (nI t) 4 := vp_in_nI ht (by decide)
  have c3 : (nI t).toNatClampNeg = t := nI_clamp (by omega)
  refine And.intro ht1 (nm_r (e' := upd dp t 0) (by rw [c3]) ⟨ht1, ?_⟩)
  rw [c3, he]
  refine lx_push (d := 0) ht (by omega) pk_us ?_
  have f1 : upd fp (t * 8 + 0) (nI p) (t * 8 + 0) = nI p := pk_us
  have f2 : upd fc (t * 8 + 0) 0 (t * 8 + 0) = nI 0 := pk_us
  refine lx_settle (d := 1) ht (by omega) pk_us (fun i hi => ?_) ?_
  · have e : i = 0 := by omega
    subst e
    exact ⟨p, 0, m, f1, by omega, hp8, f2, hl, by omega, hm⟩
  · rw [ll_uu, ll_uu]
    by_cases h : 0 < m
    · rw [ll_sd_t f1 hp8 f2 hl h hm]
      rw [if_pos h] at hp
      exact hp
    · rw [ll_sd_f f1 hp8 f2 hl (by omega) hm]
      rw [if_neg h] at hp
      exact hp
theorem lx_start_2 {post : St2 → Prop} {t p m : Nat} (ht : t < 4) (he : en t = nI p) (hp8 : p < 8) (hl : ln p = nI m) (hm : m ≤ 8) (hp : post (nl, nt, cl, se, vd, lk, op, ar, ln, en, so, lv, ed, pa, upd fp (t * 8) (nI p), upd fc (t * 8) 0, upd dp t (nI (if 0 < m then 1 else 0)), hd, hc)) : wpX_start_2 post (nl, nt, cl, se, vd, lk, op, ar, ln, en, so, lv, ed, pa, fp, fc, dp, hd, hc) (nI t) := by
  have ht1 : vp_in (nI t) 4 := vp_in_nI ht (by decide)
  have c3 : (nI t).toNatClampNeg = t := nI_clamp (by omega)
  refine And.intro ht1 (nm_r (e' := upd dp t 0) (by rw [c3]) ⟨ht1, ?_⟩)
  rw [c3, he]
  refine lx_push_2 (d := 0) ht (by omega) pk_us ?_
  have f1 : upd fp (t * 8 + 0) (nI p) (t * 8 + 0) = nI p := pk_us
  have f2 : upd fc (t * 8 + 0) 0 (t * 8 + 0) = nI 0 := pk_us
  refine lx_settle_2 (d := 1) ht (by omega) pk_us (fun i hi => ?_) ?_
  · have e : i = 0 := by omega
    subst e
    exact ⟨p, 0, m, f1, by omega, hp8, f2, hl, by omega, hm⟩
  · rw [ll_uu, ll_uu]
    by_cases h : 0 < m
    · rw [ll_sd_t f1 hp8 f2 hl h hm]
      rw [if_pos h] at hp
      exact hp
    · rw [ll_sd_f f1 hp8 f2 hl (by omega) hm]
      rw [if_neg h] at hp
      exact hp
theorem lx_acq {post : St2 → Prop} {a : Nat} {t : Int32} (ha : a < 8) (h : post (nl, nt, cl, se, vd, lk, op, ar, ln, en, so, lv, ed, pa, fp, fc, dp, upd hd a t, upd hc a (hc a + 1))) : wpX_acquire post (nl, nt, cl, se, vd, lk, op, ar, ln, en, so, lv, ed, pa, fp, fc, dp, hd, hc) t (nI a) := by
  have hi : vp_in (nI a) 8 := vp_in_nI ha (by decide)
  have c1 : (nI a).toNatClampNeg = a := nI_clamp (by omega)
  exact And.intro hi (nm_r (e' := upd hd a t) (by rw [c1]) ⟨hi, hi, nm_r (e' := upd hc a (hc a + 1)) (by rw [c1]) h⟩)
theorem lx_acq_2 {post : St2 → Prop} {a : Nat} {t : Int32} (ha : a < 8) (h : post (nl, nt, cl, se, vd, lk, op, ar, ln, en, so, lv, ed, pa, fp, fc, dp, upd hd a t, upd hc a (hc a + 1))) : wpX_acquire_2 post (nl, nt, cl, se, vd, lk, op, ar, ln, en, so, lv, ed, pa, fp, fc, dp, hd, hc) t (nI a) := by
  have hi : vp_in (nI a) 8 := vp_in_nI ha (by decide)
  have c1 : (nI a).toNatClampNeg = a := nI_clamp (by omega)
  exact And.intro hi (nm_r (e' := upd hd a t) (by rw [c1]) ⟨hi, hi, nm_r (e' := upd hc a (hc a + 1)) (by rw [c1]) h⟩)
theorem lx_rel0 {post : St2 → Prop} {a : Nat} {t : Int32} (ha : a < 8) (hn : ¬ hd a = t) (h : post (nl, nt, cl, se, vd, lk, op, ar, ln, en, so, lv, ed, pa, fp, fc, dp, hd, hc)) : wpX_release post (nl, nt, cl, se, vd, lk, op, ar, ln, en, so, lv, ed, pa, fp, fc, dp, hd, hc) t (nI a) := by
  have hi : vp_in (nI a) 8 := vp_in_nI ha (by decide)
  have c1 : (nI a).toNatClampNeg = a := nI_clamp (by omega)
  exact And.intro hi (br_f (by rw [c1]; exact hn) h)
theorem lx_rel0_2 {post : St2 → Prop} {a : Nat} {t : Int32} (ha : a < 8) (hn : ¬ hd a = t) (h : post (nl, nt, cl, se, vd, lk, op, ar, ln, en, so, lv, ed, pa, fp, fc, dp, hd, hc)) : wpX_release_2 post (nl, nt, cl, se, vd, lk, op, ar, ln, en, so, lv, ed, pa, fp, fc, dp, hd, hc) t (nI a) := by
  have hi : vp_in (nI a) 8 := vp_in_nI ha (by decide)
  have c1 : (nI a).toNatClampNeg = a := nI_clamp (by omega)
  exact And.intro hi (br_f (by rw [c1]; exact hn) h)
theorem lx_rel1 {post : St2 → Prop} {a : Nat} {t : Int32} (ha : a < 8) (hn : hd a = t) (h : post (nl, nt, cl, se, vd, lk, op, ar, ln, en, so, lv, ed, pa, fp, fc, dp, (if hc a - 1 = 0 then upd hd a (-1) else hd), upd hc a (hc a - 1))) : wpX_release post (nl, nt, cl, se, vd, lk, op, ar, ln, en, so, lv, ed, pa, fp, fc, dp, hd, hc) t (nI a) := by
  have hi : vp_in (nI a) 8 := vp_in_nI ha (by decide)
  have c1 : (nI a).toNatClampNeg = a := nI_clamp (by omega)
  refine And.intro hi (br_t (by rw [c1]; exact hn) ⟨hi, hi, nm_r (e' := upd hc a (hc a - 1)) (by rw [c1]) ⟨hi, ?_⟩⟩)
  rw [c1, pk_us]
  by_cases z : hc a - 1 = 0
  · rw [if_pos z] at h
    exact br_t z ⟨hi, nm_e h⟩
  · rw [if_neg z] at h
    exact br_f z h
theorem lx_rel1_2 {post : St2 → Prop} {a : Nat} {t : Int32} (ha : a < 8) (hn : hd a = t) (h : post (nl, nt, cl, se, vd, lk, op, ar, ln, en, so, lv, ed, pa, fp, fc, dp, (if hc a - 1 = 0 then upd hd a (-1) else hd), upd hc a (hc a - 1))) : wpX_release_2 post (nl, nt, cl, se, vd, lk, op, ar, ln, en, so, lv, ed, pa, fp, fc, dp, hd, hc) t (nI a) := by
  have hi : vp_in (nI a) 8 := vp_in_nI ha (by decide)
  have c1 : (nI a).toNatClampNeg = a := nI_clamp (by omega)
  refine And.intro hi (br_t (by rw [c1]; exact hn) ⟨hi, hi, nm_r (e' := upd hc a (hc a - 1)) (by rw [c1]) ⟨hi, ?_⟩⟩)
  rw [c1, pk_us]
  by_cases z : hc a - 1 = 0
  · rw [if_pos z] at h
    exact br_t z ⟨hi, nm_e h⟩
  · rw [if_neg z] at h
    exact br_f z h
end
