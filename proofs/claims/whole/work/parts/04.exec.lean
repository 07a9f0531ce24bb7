/-! one instruction, both sides -/
/-- the edges that a thread t adds when it wants lock a -/
def ll_ae (h : Nat → Int32) (t : Int32) (a : Nat) : Nat → (Nat → Int32) → (Nat → Int32)
  | 0, e => e
  | k + 1, e => if h k = t then upd (ll_ae h t a k e) (k * 8 + a) 1 else ll_ae h t a k e
section
variable {nl nt cl se vd lk rc : Int32} {op ar ln en so lv ed pa re fp fc dp hd hc : Nat → Int32}
theorem lx_77 {post : SX → Prop} {t d : Nat} (ht : t < 4) (h8 : d ≤ 8) (hdp : dp t = nI d) (hF : ll_FR ln fp fc (t * 8) d) (hp : post (nl, nt, cl, se, vd, lk, op, ar, ln, en, so, lv, ed, pa, fp, fc, upd dp t (nI (ll_sd ln fp fc (t * 8) d)), hd, hc)) : wX_execute_77 post (nI t) nl nt cl se vd lk op ar ln en so lv ed pa fp fc dp hd hc := by
  unfold wX_execute_77
  exact lx_settle ht h8 hdp hF hp
theorem lx_exN {post : SX → Prop} {t e p c : Nat} (ht : t < 4) (he : e < 8) (hdp : dp t = nI (e + 1)) (h1 : fp (t * 8 + e) = nI p) (hp8 : p < 8) (h2 : fc (t * 8 + e) = nI c) (hc8 : c < 8) (ho : op (p * 8 + c) = 0) (hF : ll_FR ln fp (upd fc (t * 8 + e) (nI (c + 1))) (t * 8) (e + 1)) (hp : post (nl, nt, cl, se, vd, lk, op, ar, ln, en, so, lv, ed, pa, fp, upd fc (t * 8 + e) (nI (c + 1)), upd dp t (nI (ll_sd ln fp (upd fc (t * 8 + e) (nI (c + 1))) (t * 8) (e + 1))), hd, hc)) : wpX_execute post (nl, nt, cl, se, vd, lk, op, ar, ln, en, so, lv, ed, pa, fp, fc, dp, hd, hc) (nI t) := by
  unfold wpX_execute
  refine lx_cell ht hdp he h1 h2 ?_
  have hz : vp_in (nI (p * 8 + c)) 64 := vp_in_nI (by omega) (by decide)
  have hi : vp_in (nI (t * 8 + e)) 32 := vp_in_nI (by omega) (by decide)
  have c1 : (nI (p * 8 + c)).toNatClampNeg = p * 8 + c := nI_clamp (by omega)
  have c2 : (nI (t * 8 + e)).toNatClampNeg = t * 8 + e := nI_clamp (by omega)
  refine ⟨hz, nm_r (e' := 0) (by rw [c1, ho]) ⟨hz, nm_r (e' := ar (p * 8 + c)) (by rw [c1]) ?_⟩⟩
  refine lx_top ht hdp ?_
  refine ⟨hi, hi, nm_r (e' := upd fc (t * 8 + e) (nI (c + 1))) (by rw [c2, h2, nI_1]) ?_⟩
  exact br_f (by decide) (br_f (by decide) (br_f (by decide) (lx_77 ht (by omega) hdp hF hp)))
theorem lx_exA {post : SX → Prop} {t e p c a : Nat} (ht : t < 4) (he : e < 8) (hdp : dp t = nI (e + 1)) (h1 : fp (t * 8 + e) = nI p) (hp8 : p < 8) (h2 : fc (t * 8 + e) = nI c) (hc8 : c < 8) (ho : op (p * 8 + c) = 1) (ha : ar (p * 8 + c) = nI a) (ha8 : a < 8) (hF : ll_FR ln fp (upd fc (t * 8 + e) (nI (c + 1))) (t * 8) (e + 1)) (hp : post (nl, nt, cl, se, vd, lk, op, ar, ln, en, so, lv, ed, pa, fp, upd fc (t * 8 + e) (nI (c + 1)), upd dp t (nI (ll_sd ln fp (upd fc (t * 8 + e) (nI (c + 1))) (t * 8) (e + 1))), upd hd a (nI t), upd hc a (hc a + 1))) : wpX_execute post (nl, nt, cl, se, vd, lk, op, ar, ln, en, so, lv, ed, pa, fp, fc, dp, hd, hc) (nI t) := by
  unfold wpX_execute
  refine lx_cell ht hdp he h1 h2 ?_
  have hz : vp_in (nI (p * 8 + c)) 64 := vp_in_nI (by omega) (by decide)
  have hi : vp_in (nI (t * 8 + e)) 32 := vp_in_nI (by omega) (by decide)
  have c1 : (nI (p * 8 + c)).toNatClampNeg = p * 8 + c := nI_clamp (by omega)
  have c2 : (nI (t * 8 + e)).toNatClampNeg = t * 8 + e := nI_clamp (by omega)
  refine ⟨hz, nm_r (e' := 1) (by rw [c1, ho]) ⟨hz, nm_r (e' := nI a) (by rw [c1, ha]) ?_⟩⟩
  refine lx_top ht hdp ?_
  refine ⟨hi, hi, nm_r (e' := upd fc (t * 8 + e) (nI (c + 1))) (by rw [c2, h2, nI_1]) ?_⟩
  exact br_t rfl (lx_acq ha8 (lx_77 ht (by omega) hdp hF hp))
theorem lx_exR0 {post : SX → Prop} {t e p c a : Nat} (ht : t < 4) (he : e < 8) (hdp : dp t = nI (e + 1)) (h1 : fp (t * 8 + e) = nI p) (hp8 : p < 8) (h2 : fc (t * 8 + e) = nI c) (hc8 : c < 8) (ho : op (p * 8 + c) = 2) (ha : ar (p * 8 + c) = nI a) (ha8 : a < 8) (hn : ¬ hd a = nI t) (hF : ll_FR ln fp (upd fc (t * 8 + e) (nI (c + 1))) (t * 8) (e + 1)) (hp : post (nl, nt, cl, se, vd, lk, op, ar, ln, en, so, lv, ed, pa, fp, upd fc (t * 8 + e) (nI (c + 1)), upd dp t (nI (ll_sd ln fp (upd fc (t * 8 + e) (nI (c + 1))) (t * 8) (e + 1))), hd, hc)) : wpX_execute post (nl, nt, cl, se, vd, lk, op, ar, ln, en, so, lv, ed, pa, fp, fc, dp, hd, hc) (nI t) := by
  unfold wpX_execute
  refine lx_cell ht hdp he h1 h2 ?_
  have hz : vp_in (nI (p * 8 + c)) 64 := vp_in_nI (by omega) (by decide)
  have hi : vp_in (nI (t * 8 + e)) 32 := vp_in_nI (by omega) (by decide)
  have c1 : (nI (p * 8 + c)).toNatClampNeg = p * 8 + c := nI_clamp (by omega)
  have c2 : (nI (t * 8 + e)).toNatClampNeg = t * 8 + e := nI_clamp (by omega)
  refine ⟨hz, nm_r (e' := 2) (by rw [c1, ho]) ⟨hz, nm_r (e' := nI a) (by rw [c1, ha]) ?_⟩⟩
  refine lx_top ht hdp ?_
  refine ⟨hi, hi, nm_r (e' := upd fc (t * 8 + e) (nI (c + 1))) (by rw [c2, h2, nI_1]) ?_⟩
  exact br_f (by decide) (br_t rfl (lx_rel0 ha8 hn (lx_77 ht (by omega) hdp hF hp)))
theorem lx_exR1 {post : SX → Prop} {t e p c a : Nat} (ht : t < 4) (he : e < 8) (hdp : dp t = nI (e + 1)) (h1 : fp (t * 8 + e) = nI p) (hp8 : p < 8) (h2 : fc (t * 8 + e) = nI c) (hc8 : c < 8) (ho : op (p * 8 + c) = 2) (ha : ar (p * 8 + c) = nI a) (ha8 : a < 8) (hn : hd a = nI t) (hF : ll_FR ln fp (upd fc (t * 8 + e) (nI (c + 1))) (t * 8) (e + 1)) (hp : post (nl, nt, cl, se, vd, lk, op, ar, ln, en, so, lv, ed, pa, fp, upd fc (t * 8 + e) (nI (c + 1)), upd dp t (nI (ll_sd ln fp (upd fc (t * 8 + e) (nI (c + 1))) (t * 8) (e + 1))), (if hc a - 1 = 0 then upd hd a (-1) else hd), upd hc a (hc a - 1))) : wpX_execute post (nl, nt, cl, se, vd, lk, op, ar, ln, en, so, lv, ed, pa, fp, fc, dp, hd, hc) (nI t) := by
  unfold wpX_execute
  refine lx_cell ht hdp he h1 h2 ?_
  have hz : vp_in (nI (p * 8 + c)) 64 := vp_in_nI (by omega) (by decide)
  have hi : vp_in (nI (t * 8 + e)) 32 := vp_in_nI (by omega) (by decide)
  have c1 : (nI (p * 8 + c)).toNatClampNeg = p * 8 + c := nI_clamp (by omega)
  have c2 : (nI (t * 8 + e)).toNatClampNeg = t * 8 + e := nI_clamp (by omega)
  refine ⟨hz, nm_r (e' := 2) (by rw [c1, ho]) ⟨hz, nm_r (e' := nI a) (by rw [c1, ha]) ?_⟩⟩
  refine lx_top ht hdp ?_
  refine ⟨hi, hi, nm_r (e' := upd fc (t * 8 + e) (nI (c + 1))) (by rw [c2, h2, nI_1]) ?_⟩
  exact br_f (by decide) (br_t rfl (lx_rel1 ha8 hn (lx_77 ht (by omega) hdp hF hp)))
theorem lx_exC {post : SX → Prop} {t e p c a : Nat} (ht : t < 4) (he : e + 1 < 8) (hdp : dp t = nI (e + 1)) (h1 : fp (t * 8 + e) = nI p) (hp8 : p < 8) (h2 : fc (t * 8 + e) = nI c) (hc8 : c < 8) (ho : op (p * 8 + c) = 3) (ha : ar (p * 8 + c) = nI a) (hF : ll_FR ln (upd fp (t * 8 + (e + 1)) (nI a)) (upd (upd fc (t * 8 + e) (nI (c + 1))) (t * 8 + (e + 1)) 0) (t * 8) (e + 2)) (hp : post (nl, nt, cl, se, vd, lk, op, ar, ln, en, so, lv, ed, pa, upd fp (t * 8 + (e + 1)) (nI a), upd (upd fc (t * 8 + e) (nI (c + 1))) (t * 8 + (e + 1)) 0, upd dp t (nI (ll_sd ln (upd fp (t * 8 + (e + 1)) (nI a)) (upd (upd fc (t * 8 + e) (nI (c + 1))) (t * 8 + (e + 1)) 0) (t * 8) (e + 2))), hd, hc)) : wpX_execute post (nl, nt, cl, se, vd, lk, op, ar, ln, en, so, lv, ed, pa, fp, fc, dp, hd, hc) (nI t) := by
  unfold wpX_execute
  refine lx_cell ht hdp (by omega) h1 h2 ?_
  have hz : vp_in (nI (p * 8 + c)) 64 := vp_in_nI (by omega) (by decide)
  have hi : vp_in (nI (t * 8 + e)) 32 := vp_in_nI (by omega) (by decide)
  have c1 : (nI (p * 8 + c)).toNatClampNeg = p * 8 + c := nI_clamp (by omega)
  have c2 : (nI (t * 8 + e)).toNatClampNeg = t * 8 + e := nI_clamp (by omega)
  refine ⟨hz, nm_r (e' := 3) (by rw [c1, ho]) ⟨hz, nm_r (e' := nI a) (by rw [c1, ha]) ?_⟩⟩
  refine lx_top ht hdp ?_
  refine ⟨hi, hi, nm_r (e' := upd fc (t * 8 + e) (nI (c + 1))) (by rw [c2, h2, nI_1]) ?_⟩
  refine br_f (by decide) (br_f (by decide) (br_t rfl (lx_push ht he hdp (lx_77 (d := e + 2) ht (by omega) pk_us hF ?_))))
  rw [ll_uu]
  exact hp
theorem lx_ae38 {post : SX → Prop} {t : Int32} {L a : Nat} {e0 : Nat → Int32} (hL : L ≤ 8) (ha : a < 8) (hp : post (nI L, nt, cl, se, vd, lk, op, ar, ln, en, so, lv, ll_ae hd t a L e0, pa, fp, fc, dp, hd, hc)) : ∀ (r n k : Nat), k + r = L → r < n → wX_addEdges_38 post t (nI a) (nI L) nt cl se vd lk n (nI k) op ar ln en so lv (ll_ae hd t a k e0) pa fp fc dp hd hc := by
  intro r
  induction r with
  | zero =>
    intro n k hk hn
    obtain ⟨n, rfl⟩ : ∃ m, n = m + 1 := ⟨n - 1, by omega⟩
    have e : k = L := by omega
    subst e
    exact pk_le k k (fun _ => hp) (fun h => absurd h (by omega))
  | succ r ih =>
    intro n k hk hn
    obtain ⟨n, rfl⟩ : ∃ m, n = m + 1 := ⟨n - 1, by omega⟩
    have c1 : (nI k).toNatClampNeg = k := nI_clamp (by omega)
    have q := ih n (k + 1) (by omega) (by omega)
    refine pk_le L k (fun h => absurd h (by omega)) (fun _ => And.intro (vp_in_nI (by omega) (by decide)) ?_)
    by_cases z : hd k = t
    · have e : ll_ae hd t a (k + 1) e0 = upd (ll_ae hd t a k e0) (k * 8 + a) 1 := if_pos z
      rw [e] at q
      exact br_t (by rw [c1]; exact z) ⟨pk_in (k * 8 + a) 64 (by omega) (ll_cel k a), nm_r (e' := upd (ll_ae hd t a k e0) (k * 8 + a) 1) (by rw [ll_cel, nI_clamp (by omega), ll_b1]) (nm_r (nI_1 k) q)⟩
    · have e : ll_ae hd t a (k + 1) e0 = ll_ae hd t a k e0 := if_neg z
      rw [e] at q
      exact br_f (by rw [c1]; exact z) (nm_r (nI_1 k) q)
theorem lx_ae0 {post : SX → Prop} {t e p c : Nat} (ht : t < 4) (he : e < 8) (hdp : dp t = nI (e + 1)) (h1 : fp (t * 8 + e) = nI p) (hp8 : p < 8) (h2 : fc (t * 8 + e) = nI c) (hc8 : c < 8) (ho : ¬ op (p * 8 + c) = 1) (hp : post (nl, nt, cl, se, vd, lk, op, ar, ln, en, so, lv, ed, pa, fp, fc, dp, hd, hc)) : wpX_addEdges post (nl, nt, cl, se, vd, lk, op, ar, ln, en, so, lv, ed, pa, fp, fc, dp, hd, hc) (nI t) := by
  unfold wpX_addEdges
  refine lx_cell ht hdp he h1 h2 ?_
  have hz : vp_in (nI (p * 8 + c)) 64 := vp_in_nI (by omega) (by decide)
  have c1 : (nI (p * 8 + c)).toNatClampNeg = p * 8 + c := nI_clamp (by omega)
  exact ⟨hz, br_f (by rw [c1]; exact ho) hp⟩
theorem lx_ae1 {post : SX → Prop} {t e p c a : Nat} (ht : t < 4) (he : e < 8) (hdp : dp t = nI (e + 1)) (h1 : fp (t * 8 + e) = nI p) (hp8 : p < 8) (h2 : fc (t * 8 + e) = nI c) (hc8 : c < 8) (ho : op (p * 8 + c) = 1) (ha : ar (p * 8 + c) = nI a) (ha8 : a < 8) (hn : hd a = nI t) (hp : post (nl, nt, cl, se, vd, lk, op, ar, ln, en, so, lv, ed, pa, fp, fc, dp, hd, hc)) : wpX_addEdges post (nl, nt, cl, se, vd, lk, op, ar, ln, en, so, lv, ed, pa, fp, fc, dp, hd, hc) (nI t) := by
  unfold wpX_addEdges
  refine lx_cell ht hdp he h1 h2 ?_
  have hz : vp_in (nI (p * 8 + c)) 64 := vp_in_nI (by omega) (by decide)
  have c1 : (nI (p * 8 + c)).toNatClampNeg = p * 8 + c := nI_clamp (by omega)
  have c2 : (nI a).toNatClampNeg = a := nI_clamp (by omega)
  exact ⟨hz, br_t (by rw [c1]; exact ho) ⟨hz, nm_r (e' := nI a) (by rw [c1]; exact ha) ⟨vp_in_nI ha8 (by decide), br_t (by rw [c2]; exact hn) hp⟩⟩⟩
theorem lx_ae2 {post : SX → Prop} {L t e p c a : Nat} (hL : L ≤ 8) (ht : t < 4) (he : e < 8) (hdp : dp t = nI (e + 1)) (h1 : fp (t * 8 + e) = nI p) (hp8 : p < 8) (h2 : fc (t * 8 + e) = nI c) (hc8 : c < 8) (ho : op (p * 8 + c) = 1) (ha : ar (p * 8 + c) = nI a) (ha8 : a < 8) (hn : ¬ hd a = nI t) (hp : post (nI L, nt, cl, se, vd, lk, op, ar, ln, en, so, lv, ll_ae hd (nI t) a L ed, pa, fp, fc, dp, hd, hc)) : wpX_addEdges post (nI L, nt, cl, se, vd, lk, op, ar, ln, en, so, lv, ed, pa, fp, fc, dp, hd, hc) (nI t) := by
  unfold wpX_addEdges
  refine lx_cell ht hdp he h1 h2 ?_
  have hz : vp_in (nI (p * 8 + c)) 64 := vp_in_nI (by omega) (by decide)
  have c1 : (nI (p * 8 + c)).toNatClampNeg = p * 8 + c := nI_clamp (by omega)
  have c2 : (nI a).toNatClampNeg = a := nI_clamp (by omega)
  exact ⟨hz, br_t (by rw [c1]; exact ho) ⟨hz, nm_r (e' := nI a) (by rw [c1]; exact ha) ⟨vp_in_nI ha8 (by decide), br_f (by rw [c2]; exact hn) ⟨L + 1, lx_ae38 (e0 := ed) hL ha8 hp L (L + 1) 0 (by omega) (by omega)⟩⟩⟩⟩
theorem ly_settle2 {post : SY → Prop} {t : Nat} (ht : t < 4) : ∀ (n k d : Nat) (dp : Nat → Int32), k ≤ 9 → 9 - k < n → d ≤ 8 → (ll_sd ln fp fc (t * 8) d = d ∨ d + k ≤ 8) → dp t = nI d → ll_FR ln fp fc (t * 8) d → post (nl, nt, cl, se, vd, rc, op, ar, ln, en, so, ed, re, lv, hd, hc, fp, fc, upd dp t (nI (ll_sd ln fp fc (t * 8) d))) → wY_settle_2 post (nI t) nl nt cl se vd rc n (nI k) op ar ln en so ed re lv hd hc fp fc dp := by
  intro n
  induction n with
  | zero => intro k d dp hk hn; omega
  | succ n ih =>
    intro k d dp hk hn h8 hs hdp hF hp
    have ht1 : vp_in (nI t) 4 := vp_in_nI ht (by decide)
    have c3 : (nI t).toNatClampNeg = t := nI_clamp (by omega)
    refine pk_le 9 k (fun h9 => ?_) (fun h9 => ?_)
    · have e : ll_sd ln fp fc (t * 8) d = d := by omega
      rw [e, ll_ui dp t _ hdp] at hp
      exact hp
    · refine And.intro ht1 (nm_r (e' := nI d) (by rw [c3]; exact hdp) ?_)
      cases d with
      | zero =>
        exact pk_le 0 0 (fun _ => nm_r (nI_1 k) (ih (k + 1) 0 dp (by omega) (by omega) (by omega) (Or.inl rfl) hdp hF hp)) (fun h => absurd h (by omega))
      | succ d =>
        obtain ⟨p, c, m, e1, e2, e3, e4, e5, e6, e7⟩ := hF d (by omega)
        have hi1 : vp_in (nI (t * 8 + d)) 32 := vp_in_nI (by omega) (by decide)
        have c1 : (nI (t * 8 + d)).toNatClampNeg = t * 8 + d := nI_clamp (by omega)
        have c2 : (nI p).toNatClampNeg = p := nI_clamp (by omega)
        refine pk_le (d + 1) 0 (fun h => absurd h (by omega)) (fun _ => ?_)
        rw [ll_top, c1, e1, e4, c2, e5, c3]
        refine ⟨hi1, hi1, vp_in_nI e3 (by decide), pk_lt c m (fun h => ?_) (fun h => ?_)⟩
        · exact nm_r (nI_1 k) (ih (k + 1) (d + 1) dp (by omega) (by omega) h8 (Or.inl (ll_sd_t e1 e3 e4 e5 h e7)) hdp hF hp)
        · have e := ll_sd_f e1 e3 e4 e5 (by omega) e7
          refine ⟨ht1, nm_r (e' := upd dp t (nI d)) (by rw [nI_pred]) (nm_r (nI_1 k) (ih (k + 1) d (upd dp t (nI d)) (by omega) (by omega) (by omega) ?_ pk_us (ll_FRle hF (by omega)) ?_))⟩
          · have := ll_sd_le (ln := ln) (fp := fp) (fc := fc) (b := t * 8) d
            omega
          · rw [e] at hp
            rw [ll_uu]
            exact hp
theorem ly_settle {post : SY → Prop} {t d : Nat} (ht : t < 4) (h8 : d ≤ 8) (hdp : dp t = nI d) (hF : ll_FR ln fp fc (t * 8) d) (hp : post (nl, nt, cl, se, vd, rc, op, ar, ln, en, so, ed, re, lv, hd, hc, fp, fc, upd dp t (nI (ll_sd ln fp fc (t * 8) d)))) : wpY_settle post (nl, nt, cl, se, vd, rc, op, ar, ln, en, so, ed, re, lv, hd, hc, fp, fc, dp) (nI t) :=
  ⟨10, ly_settle2 ht 10 0 d dp (by omega) (by omega) h8 (Or.inr (by omega)) hdp hF hp⟩
theorem ly_start {post : SY → Prop} {t p m : Nat} (ht : t < 4) (he : en t = nI p) (hp8 : p < 8) (hl : ln p = nI m) (hm : m ≤ 8) (hp : post (nl, nt, cl, se, vd, rc, op, ar, ln, en, so, ed, re, lv, hd, hc, upd fp (t * 8) (nI p), upd fc (t * 8) 0, upd dp t (nI (if 0 < m then 1 else 0)))) : wpY_startThread post (nl, nt, cl, se, vd, rc, op, ar, ln, en, so, ed, re, lv, hd, hc, fp, fc, dp) (nI t) := by
  have ht1 : vp_in (nI t) 4 := vp_in_nI ht (by decide)
  have c3 : (nI t).toNatClampNeg = t := nI_clamp (by omega)
  have hi : vp_in (nI t * 8) 32 := pk_in (t * 8) 32 (by omega) (ll_8 t)
  have c4 : (nI t * 8).toNatClampNeg = t * 8 := by rw [ll_8]; exact nI_clamp (by omega)
  refine And.intro ht1 (nm_r (e' := upd dp t (nI 1)) (by rw [c3]; rfl) ⟨ht1, hi, nm_r (e' := upd fp (t * 8) (nI p)) (by rw [c4, c3, he]) ⟨hi, nm_r (e' := upd fc (t * 8) 0) (by rw [c4]) ?_⟩⟩)
  have f1 : upd fp (t * 8) (nI p) (t * 8 + 0) = nI p := pk_us
  have f2 : upd fc (t * 8) 0 (t * 8 + 0) = nI 0 := pk_us
  refine ly_settle (d := 1) ht (by omega) pk_us (fun i hi => ?_) ?_
  · have e : i = 0 := by omega
    subst e
    exact ⟨p, 0, m, f1, by omega, hp8, f2, hl, by omega, hm⟩
  · rw [ll_uu]
    by_cases h : 0 < m
    · rw [ll_sd_t f1 hp8 f2 hl h hm]
      rw [if_pos h] at hp
      exact hp
    · rw [ll_sd_f f1 hp8 f2 hl (by omega) hm]
      rw [if_neg h] at hp
      exact hp
theorem ly_326 {post : SY → Prop} {t d : Nat} (ht : t < 4) (h8 : d ≤ 8) (hdp : dp t = nI d) (hF : ll_FR ln fp fc (t * 8) d) (hp : post (nl, nt, cl, se, vd, rc, op, ar, ln, en, so, ed, re, lv, hd, hc, fp, fc, upd dp t (nI (ll_sd ln fp fc (t * 8) d)))) : wY_exec_326 post (nI t) nl nt cl se vd rc op ar ln en so ed re lv hd hc fp fc dp := by
  unfold wY_exec_326
  exact ly_settle ht h8 hdp hF hp
theorem ly_207 {post : SY → Prop} {t d a : Nat} (ht : t < 4) (h8 : d ≤ 8) (ha8 : a < 8) (hdp : dp t = nI d) (hF : ll_FR ln fp fc (t * 8) d) (hp : post (nl, nt, cl, se, vd, rc, op, ar, ln, en, so, ed, re, lv, upd hd a (nI t), upd hc a 1, fp, fc, upd dp t (nI (ll_sd ln fp fc (t * 8) d)))) : wY_exec_207 post (nI t) (nI a) nl nt cl se vd rc op ar ln en so ed re lv hd hc fp fc dp := by
  have hi : vp_in (nI a) 8 := vp_in_nI ha8 (by decide)
  have c1 : (nI a).toNatClampNeg = a := nI_clamp (by omega)
  exact And.intro hi (nm_r (e' := upd hd a (nI t)) (by rw [c1]) ⟨hi, nm_r (e' := upd hc a 1) (by rw [c1]) (ly_326 ht h8 hdp hF hp)⟩)
theorem ly_ae {post : SY → Prop} {t a : Nat} {e0 : Nat → Int32} (ha : a < 8) (hcp : ∀ k, k < 8 → hd k = nI t → ¬ hc k ≤ 0) (hp : wY_exec_207 post (nI t) (nI a) nl nt cl se vd rc op ar ln en so (ll_ae hd (nI t) a 8 e0) re lv hd hc fp fc dp) : ∀ (r n k : Nat), k + r = 8 → r < n → wY_exec_159 post (nI t) (nI a) nl nt cl se vd rc n (nI k) op ar ln en so (ll_ae hd (nI t) a k e0) re lv hd hc fp fc dp := by
  intro r
  induction r with
  | zero =>
    intro n k hk hn
    obtain ⟨n, rfl⟩ : ∃ m, n = m + 1 := ⟨n - 1, by omega⟩
    have e : k = 8 := by omega
    subst e
    exact pk_le 8 8 (fun _ => hp) (fun h => absurd h (by omega))
  | succ r ih =>
    intro n k hk hn
    obtain ⟨n, rfl⟩ : ∃ m, n = m + 1 := ⟨n - 1, by omega⟩
    have c1 : (nI k).toNatClampNeg = k := nI_clamp (by omega)
    have q := ih n (k + 1) (by omega) (by omega)
    have hi : vp_in (nI k) 8 := vp_in_nI (by omega) (by decide)
    refine pk_le 8 k (fun h => absurd h (by omega)) (fun _ => And.intro hi ?_)
    by_cases z : hd k = nI t
    · have e : ll_ae hd (nI t) a (k + 1) e0 = upd (ll_ae hd (nI t) a k e0) (k * 8 + a) 1 := if_pos z
      rw [e] at q
      exact br_t (by rw [c1]; exact z) ⟨hi, br_f (by rw [c1]; exact hcp k (by omega) z) ⟨pk_in (k * 8 + a) 64 (by omega) (ll_cel k a), nm_r (e' := upd (ll_ae hd (nI t) a k e0) (k * 8 + a) 1) (by rw [ll_cel, nI_clamp (by omega), ll_b1]) (nm_r (nI_1 k) q)⟩⟩
    · have e : ll_ae hd (nI t) a (k + 1) e0 = ll_ae hd (nI t) a k e0 := if_neg z
      rw [e] at q
      exact br_f (by rw [c1]; exact z) (nm_r (nI_1 k) q)
theorem ly_exN {post : SY → Prop} {t e p c m : Nat} (ht : t < 4) (he : e < 8) (hdp : dp t = nI (e + 1)) (h1 : fp (t * 8 + e) = nI p) (hp8 : p < 8) (h2 : fc (t * 8 + e) = nI c) (hl : ln p = nI m) (hcm : c < m) (hm : m ≤ 8) (ho : op (p * 8 + c) = 0) (hF : ll_FR ln fp (upd fc (t * 8 + e) (nI (c + 1))) (t * 8) (e + 1)) (hp : post (nl, nt, cl, se, vd, rc, op, ar, ln, en, so, ed, re, lv, hd, hc, fp, upd fc (t * 8 + e) (nI (c + 1)), upd dp t (nI (ll_sd ln fp (upd fc (t * 8 + e) (nI (c + 1))) (t * 8) (e + 1))))) : wpY_exec post (nl, nt, cl, se, vd, rc, op, ar, ln, en, so, ed, re, lv, hd, hc, fp, fc, dp) (nI t) := by
  have ht1 : vp_in (nI t) 4 := vp_in_nI ht (by decide)
  have hz : vp_in (nI (p * 8 + c)) 64 := vp_in_nI (by omega) (by decide)
  have hi : vp_in (nI (t * 8 + e)) 32 := vp_in_nI (by omega) (by decide)
  have c1 : (nI (p * 8 + c)).toNatClampNeg = p * 8 + c := nI_clamp (by omega)
  have c2 : (nI (t * 8 + e)).toNatClampNeg = t * 8 + e := nI_clamp (by omega)
  have c3 : (nI t).toNatClampNeg = t := nI_clamp (by omega)
  have c4 : (nI p).toNatClampNeg = p := nI_clamp (by omega)
  have ce := ll_cel p c
  refine And.intro ht1 (nm_r (e' := nI (e + 1)) (by rw [c3, hdp]) (pk_le (e + 1) 0 (fun h => absurd h (by omega)) (fun _ => pk_le (e + 1) 8 (fun _ => ?_) (fun h => absurd h (by omega)))))
  refine nm_r (e' := nI (t * 8 + e)) (ll_top t e) ⟨hi, nm_r (e' := nI p) (by rw [c2, h1]) ⟨hi, nm_r (e' := nI c) (by rw [c2, h2]) ?_⟩⟩
  refine br_f (nI_pos (by omega)) (pk_lt 7 p (fun h => absurd h (by omega)) (fun _ => br_f (nI_pos (by omega)) ⟨vp_in_nI hp8 (by decide), ?_⟩))
  rw [c4, hl, ce, c1]
  refine pk_lt c m (fun _ => ?_) (fun h => absurd h (by omega))
  refine ⟨hz, nm_r (e' := 0) ho ⟨hz, nm_r (e' := ar (p * 8 + c)) rfl ⟨hi, nm_r (e' := upd fc (t * 8 + e) (nI (c + 1))) (by rw [c2, nI_1]) ?_⟩⟩⟩
  exact br_f (by decide) (br_f (by decide) (br_f (by decide) (ly_326 ht (by omega) hdp hF hp)))
theorem ly_exA1 {post : SY → Prop} {t e p c m a : Nat} (ht : t < 4) (he : e < 8) (hdp : dp t = nI (e + 1)) (h1 : fp (t * 8 + e) = nI p) (hp8 : p < 8) (h2 : fc (t * 8 + e) = nI c) (hl : ln p = nI m) (hcm : c < m) (hm : m ≤ 8) (ho : op (p * 8 + c) = 1) (ha : ar (p * 8 + c) = nI a) (ha8 : a < 8) (hn : hd a = nI t) (hF : ll_FR ln fp (upd fc (t * 8 + e) (nI (c + 1))) (t * 8) (e + 1)) (hp : post (nl, nt, cl, se, vd, rc, op, ar, ln, en, so, ed, re, lv, hd, upd hc a (hc a + 1), fp, upd fc (t * 8 + e) (nI (c + 1)), upd dp t (nI (ll_sd ln fp (upd fc (t * 8 + e) (nI (c + 1))) (t * 8) (e + 1))))) : wpY_exec post (nl, nt, cl, se, vd, rc, op, ar, ln, en, so, ed, re, lv, hd, hc, fp, fc, dp) (nI t) := by
  have ht1 : vp_in (nI t) 4 := vp_in_nI ht (by decide)
  have hz : vp_in (nI (p * 8 + c)) 64 := vp_in_nI (by omega) (by decide)
  have hi : vp_in (nI (t * 8 + e)) 32 := vp_in_nI (by omega) (by decide)
  have c1 : (nI (p * 8 + c)).toNatClampNeg = p * 8 + c := nI_clamp (by omega)
  have c2 : (nI (t * 8 + e)).toNatClampNeg = t * 8 + e := nI_clamp (by omega)
  have c3 : (nI t).toNatClampNeg = t := nI_clamp (by omega)
  have c4 : (nI p).toNatClampNeg = p := nI_clamp (by omega)
  have ce := ll_cel p c
  refine And.intro ht1 (nm_r (e' := nI (e + 1)) (by rw [c3, hdp]) (pk_le (e + 1) 0 (fun h => absurd h (by omega)) (fun _ => pk_le (e + 1) 8 (fun _ => ?_) (fun h => absurd h (by omega)))))
  refine nm_r (e' := nI (t * 8 + e)) (ll_top t e) ⟨hi, nm_r (e' := nI p) (by rw [c2, h1]) ⟨hi, nm_r (e' := nI c) (by rw [c2, h2]) ?_⟩⟩
  refine br_f (nI_pos (by omega)) (pk_lt 7 p (fun h => absurd h (by omega)) (fun _ => br_f (nI_pos (by omega)) ⟨vp_in_nI hp8 (by decide), ?_⟩))
  rw [c4, hl, ce, c1]
  refine pk_lt c m (fun _ => ?_) (fun h => absurd h (by omega))
  refine ⟨hz, nm_r (e' := 1) ho ⟨hz, nm_r (e' := nI a) ha ⟨hi, nm_r (e' := upd fc (t * 8 + e) (nI (c + 1))) (by rw [c2, nI_1]) ?_⟩⟩⟩
  have hia : vp_in (nI a) 8 := vp_in_nI ha8 (by decide)
  have ca : (nI a).toNatClampNeg = a := nI_clamp (by omega)
  exact br_t rfl ⟨hia, br_t (by rw [ca]; exact hn) ⟨hia, hia, nm_r (e' := upd hc a (hc a + 1)) (by rw [ca]) (ly_326 ht (by omega) hdp hF hp)⟩⟩
theorem ly_exA0 {post : SY → Prop} {t e p c m a : Nat} (ht : t < 4) (he : e < 8) (hdp : dp t = nI (e + 1)) (h1 : fp (t * 8 + e) = nI p) (hp8 : p < 8) (h2 : fc (t * 8 + e) = nI c) (hl : ln p = nI m) (hcm : c < m) (hm : m ≤ 8) (ho : op (p * 8 + c) = 1) (ha : ar (p * 8 + c) = nI a) (ha8 : a < 8) (hn : ¬ hd a = nI t) (hF : ll_FR ln fp (upd fc (t * 8 + e) (nI (c + 1))) (t * 8) (e + 1)) (hp : post (nl, nt, cl, se, vd, 0, op, ar, ln, en, so, ed, re, lv, upd hd a (nI t), upd hc a 1, fp, upd fc (t * 8 + e) (nI (c + 1)), upd dp t (nI (ll_sd ln fp (upd fc (t * 8 + e) (nI (c + 1))) (t * 8) (e + 1))))) : wpY_exec post (nl, nt, cl, se, vd, 0, op, ar, ln, en, so, ed, re, lv, hd, hc, fp, fc, dp) (nI t) := by
  have ht1 : vp_in (nI t) 4 := vp_in_nI ht (by decide)
  have hz : vp_in (nI (p * 8 + c)) 64 := vp_in_nI (by omega) (by decide)
  have hi : vp_in (nI (t * 8 + e)) 32 := vp_in_nI (by omega) (by decide)
  have c1 : (nI (p * 8 + c)).toNatClampNeg = p * 8 + c := nI_clamp (by omega)
  have c2 : (nI (t * 8 + e)).toNatClampNeg = t * 8 + e := nI_clamp (by omega)
  have c3 : (nI t).toNatClampNeg = t := nI_clamp (by omega)
  have c4 : (nI p).toNatClampNeg = p := nI_clamp (by omega)
  have ce := ll_cel p c
  refine And.intro ht1 (nm_r (e' := nI (e + 1)) (by rw [c3, hdp]) (pk_le (e + 1) 0 (fun h => absurd h (by omega)) (fun _ => pk_le (e + 1) 8 (fun _ => ?_) (fun h => absurd h (by omega)))))
  refine nm_r (e' := nI (t * 8 + e)) (ll_top t e) ⟨hi, nm_r (e' := nI p) (by rw [c2, h1]) ⟨hi, nm_r (e' := nI c) (by rw [c2, h2]) ?_⟩⟩
  refine br_f (nI_pos (by omega)) (pk_lt 7 p (fun h => absurd h (by omega)) (fun _ => br_f (nI_pos (by omega)) ⟨vp_in_nI hp8 (by decide), ?_⟩))
  rw [c4, hl, ce, c1]
  refine pk_lt c m (fun _ => ?_) (fun h => absurd h (by omega))
  refine ⟨hz, nm_r (e' := 1) ho ⟨hz, nm_r (e' := nI a) ha ⟨hi, nm_r (e' := upd fc (t * 8 + e) (nI (c + 1))) (by rw [c2, nI_1]) ?_⟩⟩⟩
  have hia : vp_in (nI a) 8 := vp_in_nI ha8 (by decide)
  have ca : (nI a).toNatClampNeg = a := nI_clamp (by omega)
  exact br_t rfl ⟨hia, br_f (by rw [ca]; exact hn) (br_t rfl (ly_207 ht (by omega) ha8 hdp hF hp))⟩
theorem ly_exA2 {post : SY → Prop} {t e p c m a : Nat} (ht : t < 4) (he : e < 8) (hdp : dp t = nI (e + 1)) (h1 : fp (t * 8 + e) = nI p) (hp8 : p < 8) (h2 : fc (t * 8 + e) = nI c) (hl : ln p = nI m) (hcm : c < m) (hm : m ≤ 8) (ho : op (p * 8 + c) = 1) (ha : ar (p * 8 + c) = nI a) (ha8 : a < 8) (hn : ¬ hd a = nI t) (hcp : ∀ k, k < 8 → hd k = nI t → ¬ hc k ≤ 0) (hF : ll_FR ln fp (upd fc (t * 8 + e) (nI (c + 1))) (t * 8) (e + 1)) (hp : post (nl, nt, cl, se, vd, 1, op, ar, ln, en, so, ll_ae hd (nI t) a 8 ed, re, lv, upd hd a (nI t), upd hc a 1, fp, upd fc (t * 8 + e) (nI (c + 1)), upd dp t (nI (ll_sd ln fp (upd fc (t * 8 + e) (nI (c + 1))) (t * 8) (e + 1))))) : wpY_exec post (nl, nt, cl, se, vd, 1, op, ar, ln, en, so, ed, re, lv, hd, hc, fp, fc, dp) (nI t) := by
  have ht1 : vp_in (nI t) 4 := vp_in_nI ht (by decide)
  have hz : vp_in (nI (p * 8 + c)) 64 := vp_in_nI (by omega) (by decide)
  have hi : vp_in (nI (t * 8 + e)) 32 := vp_in_nI (by omega) (by decide)
  have c1 : (nI (p * 8 + c)).toNatClampNeg = p * 8 + c := nI_clamp (by omega)
  have c2 : (nI (t * 8 + e)).toNatClampNeg = t * 8 + e := nI_clamp (by omega)
  have c3 : (nI t).toNatClampNeg = t := nI_clamp (by omega)
  have c4 : (nI p).toNatClampNeg = p := nI_clamp (by omega)
  have ce := ll_cel p c
  refine And.intro ht1 (nm_r (e' := nI (e + 1)) (by rw [c3, hdp]) (pk_le (e + 1) 0 (fun h => absurd h (by omega)) (fun _ => pk_le (e + 1) 8 (fun _ => ?_) (fun h => absurd h (by omega)))))
  refine nm_r (e' := nI (t * 8 + e)) (ll_top t e) ⟨hi, nm_r (e' := nI p) (by rw [c2, h1]) ⟨hi, nm_r (e' := nI c) (by rw [c2, h2]) ?_⟩⟩
  refine br_f (nI_pos (by omega)) (pk_lt 7 p (fun h => absurd h (by omega)) (fun _ => br_f (nI_pos (by omega)) ⟨vp_in_nI hp8 (by decide), ?_⟩))
  rw [c4, hl, ce, c1]
  refine pk_lt c m (fun _ => ?_) (fun h => absurd h (by omega))
  refine ⟨hz, nm_r (e' := 1) ho ⟨hz, nm_r (e' := nI a) ha ⟨hi, nm_r (e' := upd fc (t * 8 + e) (nI (c + 1))) (by rw [c2, nI_1]) ?_⟩⟩⟩
  have hia : vp_in (nI a) 8 := vp_in_nI ha8 (by decide)
  have ca : (nI a).toNatClampNeg = a := nI_clamp (by omega)
  exact br_t rfl ⟨hia, br_f (by rw [ca]; exact hn) (br_f (by decide) ⟨9, ly_ae (e0 := ed) ha8 hcp (ly_207 ht (by omega) ha8 hdp hF hp) 8 9 0 (by omega) (by omega)⟩)⟩
theorem ly_exR0 {post : SY → Prop} {t e p c m a : Nat} (ht : t < 4) (he : e < 8) (hdp : dp t = nI (e + 1)) (h1 : fp (t * 8 + e) = nI p) (hp8 : p < 8) (h2 : fc (t * 8 + e) = nI c) (hl : ln p = nI m) (hcm : c < m) (hm : m ≤ 8) (ho : op (p * 8 + c) = 2) (ha : ar (p * 8 + c) = nI a) (ha8 : a < 8) (hn : ¬ hd a = nI t) (hF : ll_FR ln fp (upd fc (t * 8 + e) (nI (c + 1))) (t * 8) (e + 1)) (hp : post (nl, nt, cl, se, vd, rc, op, ar, ln, en, so, ed, re, lv, hd, hc, fp, upd fc (t * 8 + e) (nI (c + 1)), upd dp t (nI (ll_sd ln fp (upd fc (t * 8 + e) (nI (c + 1))) (t * 8) (e + 1))))) : wpY_exec post (nl, nt, cl, se, vd, rc, op, ar, ln, en, so, ed, re, lv, hd, hc, fp, fc, dp) (nI t) := by
  have ht1 : vp_in (nI t) 4 := vp_in_nI ht (by decide)
  have hz : vp_in (nI (p * 8 + c)) 64 := vp_in_nI (by omega) (by decide)
  have hi : vp_in (nI (t * 8 + e)) 32 := vp_in_nI (by omega) (by decide)
  have c1 : (nI (p * 8 + c)).toNatClampNeg = p * 8 + c := nI_clamp (by omega)
  have c2 : (nI (t * 8 + e)).toNatClampNeg = t * 8 + e := nI_clamp (by omega)
  have c3 : (nI t).toNatClampNeg = t := nI_clamp (by omega)
  have c4 : (nI p).toNatClampNeg = p := nI_clamp (by omega)
  have ce := ll_cel p c
  refine And.intro ht1 (nm_r (e' := nI (e + 1)) (by rw [c3, hdp]) (pk_le (e + 1) 0 (fun h => absurd h (by omega)) (fun _ => pk_le (e + 1) 8 (fun _ => ?_) (fun h => absurd h (by omega)))))
  refine nm_r (e' := nI (t * 8 + e)) (ll_top t e) ⟨hi, nm_r (e' := nI p) (by rw [c2, h1]) ⟨hi, nm_r (e' := nI c) (by rw [c2, h2]) ?_⟩⟩
  refine br_f (nI_pos (by omega)) (pk_lt 7 p (fun h => absurd h (by omega)) (fun _ => br_f (nI_pos (by omega)) ⟨vp_in_nI hp8 (by decide), ?_⟩))
  rw [c4, hl, ce, c1]
  refine pk_lt c m (fun _ => ?_) (fun h => absurd h (by omega))
  refine ⟨hz, nm_r (e' := 2) ho ⟨hz, nm_r (e' := nI a) ha ⟨hi, nm_r (e' := upd fc (t * 8 + e) (nI (c + 1))) (by rw [c2, nI_1]) ?_⟩⟩⟩
  have hia : vp_in (nI a) 8 := vp_in_nI ha8 (by decide)
  have ca : (nI a).toNatClampNeg = a := nI_clamp (by omega)
  exact br_f (by decide) (br_t rfl ⟨hia, br_f (by rw [ca]; exact hn) (ly_326 ht (by omega) hdp hF hp)⟩)
theorem ly_exR1 {post : SY → Prop} {t e p c m a : Nat} (ht : t < 4) (he : e < 8) (hdp : dp t = nI (e + 1)) (h1 : fp (t * 8 + e) = nI p) (hp8 : p < 8) (h2 : fc (t * 8 + e) = nI c) (hl : ln p = nI m) (hcm : c < m) (hm : m ≤ 8) (ho : op (p * 8 + c) = 2) (ha : ar (p * 8 + c) = nI a) (ha8 : a < 8) (hn : hd a = nI t) (hF : ll_FR ln fp (upd fc (t * 8 + e) (nI (c + 1))) (t * 8) (e + 1)) (hp : post (nl, nt, cl, se, vd, rc, op, ar, ln, en, so, ed, re, lv, (if hc a - 1 = 0 then upd hd a (-1) else hd), upd hc a (hc a - 1), fp, upd fc (t * 8 + e) (nI (c + 1)), upd dp t (nI (ll_sd ln fp (upd fc (t * 8 + e) (nI (c + 1))) (t * 8) (e + 1))))) : wpY_exec post (nl, nt, cl, se, vd, rc, op, ar, ln, en, so, ed, re, lv, hd, hc, fp, fc, dp) (nI t) := by
  have ht1 : vp_in (nI t) 4 := vp_in_nI ht (by decide)
  have hz : vp_in (nI (p * 8 + c)) 64 := vp_in_nI (by omega) (by decide)
  have hi : vp_in (nI (t * 8 + e)) 32 := vp_in_nI (by omega) (by decide)
  have c1 : (nI (p * 8 + c)).toNatClampNeg = p * 8 + c := nI_clamp (by omega)
  have c2 : (nI (t * 8 + e)).toNatClampNeg = t * 8 + e := nI_clamp (by omega)
  have c3 : (nI t).toNatClampNeg = t := nI_clamp (by omega)
  have c4 : (nI p).toNatClampNeg = p := nI_clamp (by omega)
  have ce := ll_cel p c
  refine And.intro ht1 (nm_r (e' := nI (e + 1)) (by rw [c3, hdp]) (pk_le (e + 1) 0 (fun h => absurd h (by omega)) (fun _ => pk_le (e + 1) 8 (fun _ => ?_) (fun h => absurd h (by omega)))))
  refine nm_r (e' := nI (t * 8 + e)) (ll_top t e) ⟨hi, nm_r (e' := nI p) (by rw [c2, h1]) ⟨hi, nm_r (e' := nI c) (by rw [c2, h2]) ?_⟩⟩
  refine br_f (nI_pos (by omega)) (pk_lt 7 p (fun h => absurd h (by omega)) (fun _ => br_f (nI_pos (by omega)) ⟨vp_in_nI hp8 (by decide), ?_⟩))
  rw [c4, hl, ce, c1]
  refine pk_lt c m (fun _ => ?_) (fun h => absurd h (by omega))
  refine ⟨hz, nm_r (e' := 2) ho ⟨hz, nm_r (e' := nI a) ha ⟨hi, nm_r (e' := upd fc (t * 8 + e) (nI (c + 1))) (by rw [c2, nI_1]) ?_⟩⟩⟩
  have hia : vp_in (nI a) 8 := vp_in_nI ha8 (by decide)
  have ca : (nI a).toNatClampNeg = a := nI_clamp (by omega)
  refine br_f (by decide) (br_t rfl ⟨hia, br_t (by rw [ca]; exact hn) ⟨hia, hia, nm_r (e' := upd hc a (hc a - 1)) (by rw [ca]) ⟨hia, ?_⟩⟩⟩)
  rw [ca, pk_us]
  by_cases z : hc a - 1 = 0
  · rw [if_pos z] at hp
    exact br_t z ⟨hia, nm_e (ly_326 ht (by omega) hdp hF hp)⟩
  · rw [if_neg z] at hp
    exact br_f z (ly_326 ht (by omega) hdp hF hp)
theorem ly_exC {post : SY → Prop} {t e p c m a : Nat} (ht : t < 4) (he : e + 1 < 8) (hdp : dp t = nI (e + 1)) (h1 : fp (t * 8 + e) = nI p) (hp8 : p < 8) (h2 : fc (t * 8 + e) = nI c) (hl : ln p = nI m) (hcm : c < m) (hm : m ≤ 8) (ho : op (p * 8 + c) = 3) (ha : ar (p * 8 + c) = nI a) (hF : ll_FR ln (upd fp (t * 8 + (e + 1)) (nI a)) (upd (upd fc (t * 8 + e) (nI (c + 1))) (t * 8 + (e + 1)) 0) (t * 8) (e + 2)) (hp : post (nl, nt, cl, se, vd, rc, op, ar, ln, en, so, ed, re, lv, hd, hc, upd fp (t * 8 + (e + 1)) (nI a), upd (upd fc (t * 8 + e) (nI (c + 1))) (t * 8 + (e + 1)) 0, upd dp t (nI (ll_sd ln (upd fp (t * 8 + (e + 1)) (nI a)) (upd (upd fc (t * 8 + e) (nI (c + 1))) (t * 8 + (e + 1)) 0) (t * 8) (e + 2))))) : wpY_exec post (nl, nt, cl, se, vd, rc, op, ar, ln, en, so, ed, re, lv, hd, hc, fp, fc, dp) (nI t) := by
  have ht1 : vp_in (nI t) 4 := vp_in_nI ht (by decide)
  have hz : vp_in (nI (p * 8 + c)) 64 := vp_in_nI (by omega) (by decide)
  have hi : vp_in (nI (t * 8 + e)) 32 := vp_in_nI (by omega) (by decide)
  have c1 : (nI (p * 8 + c)).toNatClampNeg = p * 8 + c := nI_clamp (by omega)
  have c2 : (nI (t * 8 + e)).toNatClampNeg = t * 8 + e := nI_clamp (by omega)
  have c3 : (nI t).toNatClampNeg = t := nI_clamp (by omega)
  have c4 : (nI p).toNatClampNeg = p := nI_clamp (by omega)
  have ce := ll_cel p c
  refine And.intro ht1 (nm_r (e' := nI (e + 1)) (by rw [c3, hdp]) (pk_le (e + 1) 0 (fun h => absurd h (by omega)) (fun _ => pk_le (e + 1) 8 (fun _ => ?_) (fun h => absurd h (by omega)))))
  refine nm_r (e' := nI (t * 8 + e)) (ll_top t e) ⟨hi, nm_r (e' := nI p) (by rw [c2, h1]) ⟨hi, nm_r (e' := nI c) (by rw [c2, h2]) ?_⟩⟩
  refine br_f (nI_pos (by omega)) (pk_lt 7 p (fun h => absurd h (by omega)) (fun _ => br_f (nI_pos (by omega)) ⟨vp_in_nI hp8 (by decide), ?_⟩))
  rw [c4, hl, ce, c1]
  refine pk_lt c m (fun _ => ?_) (fun h => absurd h (by omega))
  refine ⟨hz, nm_r (e' := 3) ho ⟨hz, nm_r (e' := nI a) ha ⟨hi, nm_r (e' := upd fc (t * 8 + e) (nI (c + 1))) (by rw [c2, nI_1]) ?_⟩⟩⟩
  have hj : vp_in (nI (t * 8 + (e + 1))) 32 := vp_in_nI (by omega) (by decide)
  have cj : (nI (t * 8 + (e + 1))).toNatClampNeg = t * 8 + (e + 1) := nI_clamp (by omega)
  refine br_f (by decide) (br_f (by decide) (br_t rfl (pk_le 8 (e + 1) (fun h => absurd h (by omega)) (fun _ => ?_))))
  rw [ll_cel t (e + 1), cj, c3]
  refine ⟨hj, nm_e ⟨hj, nm_e ⟨ht1, nm_r (e' := upd dp t (nI (e + 2))) (by rw [nI_1]) (ly_326 (d := e + 2) ht (by omega) pk_us hF ?_)⟩⟩⟩
  rw [ll_uu]
  exact hp
end
