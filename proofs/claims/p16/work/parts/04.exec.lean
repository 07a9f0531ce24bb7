/-! one instruction, both sides -/
/-- the edges that a thread t adds when it wants lock a -/
def ll_ae (h : Nat → Int32) (t : Int32) (a : Nat) : Nat → (Nat → Int32) → (Nat → Int32)
  | 0, e => e
  | k + 1, e => if h k = t then upd (ll_ae h t a k e) (k * 8 + a) 1 else ll_ae h t a k e
/-! the relation's parts; one instruction in lockstep -/
def ll_CI (L : Nat) (op ar ln : Nat → Int32) : Prop :=
  ∀ p, p < 8 → ∃ n, n ≤ 8 ∧ ln p = nI n ∧ ∀ i, i < n → (op (p * 8 + i) = 0 ∨ (op (p * 8 + i) = 1 ∧ ∃ a, a < L ∧ ar (p * 8 + i) = nI a) ∨ (op (p * 8 + i) = 2 ∧ ∃ a, a < L ∧ ar (p * 8 + i) = nI a) ∨ (op (p * 8 + i) = 3 ∧ ∃ a, p < a ∧ a < 8 ∧ ar (p * 8 + i) = nI a))
def ll_TO (ln fp fc dp : Nat → Int32) (t : Nat) : Prop :=
  ∃ d, d ≤ 8 ∧ dp t = nI d ∧ ll_FR ln fp fc (t * 8) d ∧ ll_sd ln fp fc (t * 8) d = d
def ll_TS (T : Nat) (ln fp fc dp : Nat → Int32) : Prop :=
  (∀ t, t < T → ll_TO ln fp fc dp t) ∧ (∀ t, T ≤ t → t < 4 → dp t = 0)
/-! freeing, starting, the solo runs in lockstep -/
def ll_fl (L : Nat) (f : Nat → Int32) (x : Int32) : Nat → Int32 := fun j => if j < L then x else f j
def ll_EN (en : Nat → Int32) : Prop := ∀ t, t < 4 → ∃ p, p < 8 ∧ en t = nI p
def ll_EB (L : Nat) (ed : Nat → Int32) : Prop := ll_B ed ∧ ∀ a b, a < 8 → b < 8 → ¬ ed (a * 8 + b) = 0 → a < L ∧ b < L
section
variable {nl nt cl se vd lk : Int32} {op ar ln en so lv ed pa fp fc dp hd hc fp' fc' dp' hd' hc' : Nat → Int32}
theorem lx_77 {post : St2 → Prop} {t d : Nat} (ht : t < 4) (h8 : d ≤ 8) (hdp : dp t = nI d) (hF : ll_FR ln fp fc (t * 8) d) (hp : post (nl, nt, cl, se, vd, lk, op, ar, ln, en, so, lv, ed, pa, fp, fc, upd dp t (nI (ll_sd ln fp fc (t * 8) d)), hd, hc)) : wX_execute_77 post (nI t) nl nt cl se vd lk op ar ln en so lv ed pa fp fc dp hd hc := by
  unfold wX_execute_77
  exact lx_settle_2 ht h8 hdp hF hp
theorem lx_77_2 {post : St2 → Prop} {t d : Nat} (ht : t < 4) (h8 : d ≤ 8) (hdp : dp t = nI d) (hF : ll_FR ln fp fc (t * 8) d) (hp : post (nl, nt, cl, se, vd, lk, op, ar, ln, en, so, lv, ed, pa, fp, fc, upd dp t (nI (ll_sd ln fp fc (t * 8) d)), hd, hc)) : wX_execute_2_77 post (nI t) nl nt cl se vd lk op ar ln en so lv ed pa fp fc dp hd hc := by
  unfold wX_execute_2_77
  exact lx_settle ht h8 hdp hF hp
theorem lx_exN {post : St2 → Prop} {t e p c : Nat} (ht : t < 4) (he : e < 8) (hdp : dp t = nI (e + 1)) (h1 : fp (t * 8 + e) = nI p) (hp8 : p < 8) (h2 : fc (t * 8 + e) = nI c) (hc8 : c < 8) (ho : op (p * 8 + c) = 0) (hF : ll_FR ln fp (upd fc (t * 8 + e) (nI (c + 1))) (t * 8) (e + 1)) (hp : post (nl, nt, cl, se, vd, lk, op, ar, ln, en, so, lv, ed, pa, fp, upd fc (t * 8 + e) (nI (c + 1)), upd dp t (nI (ll_sd ln fp (upd fc (t * 8 + e) (nI (c + 1))) (t * 8) (e + 1))), hd, hc)) : wpX_execute post (nl, nt, cl, se, vd, lk, op, ar, ln, en, so, lv, ed, pa, fp, fc, dp, hd, hc) (nI t) := by
  unfold wpX_execute
  refine lx_cell ht hdp he h1 h2 ?_
  have hz : vp_in (nI (p * 8 + c)) 64 := vp_in_nI (by omega) (by decide)
  have hi : vp_in (nI (t * 8 + e)) 32 := vp_in_nI (by omega) (by decide)
  have c1 : (nI (p * 8 + c)).toNatClampNeg = p * 8 + c := nI_clamp (by omega)
  have c2 : (nI (t * 8 + e)).toNatClampNeg = t * 8 + e := nI_clamp (by omega)
  refine ⟨hz, nm_r (e' := 0) (by rw [c1, ho]) ⟨hz, nm_r (e' := ar (p * 8 + c)) (by rw [c1]) ?_⟩⟩
  refine lx_top ht hdp ?_
  refine ⟨hi, hi, nm_r (e' := upd fc (t * 8 + e) (nI (c + 1))) (by rw [c2, h2, nI_1]) ?_⟩
  exact br_f (by decide) (br_f (by decide) (br_f (by decide) (lx_77 ht (by omega) hdp hF hp)))
theorem lx_exN_2 {post : St2 → Prop} {t e p c : Nat} (ht : t < 4) (he : e < 8) (hdp : dp t = nI (e + 1)) (h1 : fp (t * 8 + e) = nI p) (hp8 : p < 8) (h2 : fc (t * 8 + e) = nI c) (hc8 : c < 8) (ho : op (p * 8 + c) = 0) (hF : ll_FR ln fp (upd fc (t * 8 + e) (nI (c + 1))) (t * 8) (e + 1)) (hp : post (nl, nt, cl, se, vd, lk, op, ar, ln, en, so, lv, ed, pa, fp, upd fc (t * 8 + e) (nI (c + 1)), upd dp t (nI (ll_sd ln fp (upd fc (t * 8 + e) (nI (c + 1))) (t * 8) (e + 1))), hd, hc)) : wpX_execute_2 post (nl, nt, cl, se, vd, lk, op, ar, ln, en, so, lv, ed, pa, fp, fc, dp, hd, hc) (nI t) := by
  unfold wpX_execute_2
  refine lx_cell ht hdp he h1 h2 ?_
  have hz : vp_in (nI (p * 8 + c)) 64 := vp_in_nI (by omega) (by decide)
  have hi : vp_in (nI (t * 8 + e)) 32 := vp_in_nI (by omega) (by decide)
  have c1 : (nI (p * 8 + c)).toNatClampNeg = p * 8 + c := nI_clamp (by omega)
  have c2 : (nI (t * 8 + e)).toNatClampNeg = t * 8 + e := nI_clamp (by omega)
  refine ⟨hz, nm_r (e' := 0) (by rw [c1, ho]) ⟨hz, nm_r (e' := ar (p * 8 + c)) (by rw [c1]) ?_⟩⟩
  refine lx_top ht hdp ?_
  refine ⟨hi, hi, nm_r (e' := upd fc (t * 8 + e) (nI (c + 1))) (by rw [c2, h2, nI_1]) ?_⟩
  exact br_f (by decide) (br_f (by decide) (br_f (by decide) (lx_77_2 ht (by omega) hdp hF hp)))
theorem lx_exA {post : St2 → Prop} {t e p c a : Nat} (ht : t < 4) (he : e < 8) (hdp : dp t = nI (e + 1)) (h1 : fp (t * 8 + e) = nI p) (hp8 : p < 8) (h2 : fc (t * 8 + e) = nI c) (hc8 : c < 8) (ho : op (p * 8 + c) = 1) (ha : ar (p * 8 + c) = nI a) (ha8 : a < 8) (hF : ll_FR ln fp (upd fc (t * 8 + e) (nI (c + 1))) (t * 8) (e + 1)) (hp : post (nl, nt, cl, se, vd, lk, op, ar, ln, en, so, lv, ed, pa, fp, upd fc (t * 8 + e) (nI (c + 1)), upd dp t (nI (ll_sd ln fp (upd fc (t * 8 + e) (nI (c + 1))) (t * 8) (e + 1))), upd hd a (nI t), upd hc a (hc a + 1))) : wpX_execute post (nl, nt, cl, se, vd, lk, op, ar, ln, en, so, lv, ed, pa, fp, fc, dp, hd, hc) (nI t) := by
  unfold wpX_execute
  refine lx_cell ht hdp he h1 h2 ?_
  have hz : vp_in (nI (p * 8 + c)) 64 := vp_in_nI (by omega) (by decide)
  have hi : vp_in (nI (t * 8 + e)) 32 := vp_in_nI (by omega) (by decide)
  have c1 : (nI (p * 8 + c)).toNatClampNeg = p * 8 + c := nI_clamp (by omega)
  have c2 : (nI (t * 8 + e)).toNatClampNeg = t * 8 + e := nI_clamp (by omega)
  refine ⟨hz, nm_r (e' := 1) (by rw [c1, ho]) ⟨hz, nm_r (e' := nI a) (by rw [c1, ha]) ?_⟩⟩
  refine lx_top ht hdp ?_
  refine ⟨hi, hi, nm_r (e' := upd fc (t * 8 + e) (nI (c + 1))) (by rw [c2, h2, nI_1]) ?_⟩
  exact br_t rfl (lx_acq ha8 (lx_77 ht (by omega) hdp hF hp))
theorem lx_exA_2 {post : St2 → Prop} {t e p c a : Nat} (ht : t < 4) (he : e < 8) (hdp : dp t = nI (e + 1)) (h1 : fp (t * 8 + e) = nI p) (hp8 : p < 8) (h2 : fc (t * 8 + e) = nI c) (hc8 : c < 8) (ho : op (p * 8 + c) = 1) (ha : ar (p * 8 + c) = nI a) (ha8 : a < 8) (hF : ll_FR ln fp (upd fc (t * 8 + e) (nI (c + 1))) (t * 8) (e + 1)) (hp : post (nl, nt, cl, se, vd, lk, op, ar, ln, en, so, lv, ed, pa, fp, upd fc (t * 8 + e) (nI (c + 1)), upd dp t (nI (ll_sd ln fp (upd fc (t * 8 + e) (nI (c + 1))) (t * 8) (e + 1))), upd hd a (nI t), upd hc a (hc a + 1))) : wpX_execute_2 post (nl, nt, cl, se, vd, lk, op, ar, ln, en, so, lv, ed, pa, fp, fc, dp, hd, hc) (nI t) := by
  unfold wpX_execute_2
  refine lx_cell ht hdp he h1 h2 ?_
  have hz : vp_in (nI (p * 8 + c)) 64 := vp_in_nI (by omega) (by decide)
  have hi : vp_in (nI (t * 8 + e)) 32 := vp_in_nI (by omega) (by decide)
  have c1 : (nI (p * 8 + c)).toNatClampNeg = p * 8 + c := nI_clamp (by omega)
  have c2 : (nI (t * 8 + e)).toNatClampNeg = t * 8 + e := nI_clamp (by omega)
  refine ⟨hz, nm_r (e' := 1) (by rw [c1, ho]) ⟨hz, nm_r (e' := nI a) (by rw [c1, ha]) ?_⟩⟩
  refine lx_top ht hdp ?_
  refine ⟨hi, hi, nm_r (e' := upd fc (t * 8 + e) (nI (c + 1))) (by rw [c2, h2, nI_1]) ?_⟩
  exact br_t rfl (lx_acq_2 ha8 (lx_77_2 ht (by omega) hdp hF hp))
theorem lx_exR0 {post : St2 → Prop} {t e p c a : Nat} (ht : t < 4) (he : e < 8) (hdp : dp t = nI (e + 1)) (h1 : fp (t * 8 + e) = nI p) (hp8 : p < 8) (h2 : fc (t * 8 + e) = nI c) (hc8 : c < 8) (ho : op (p * 8 + c) = 2) (ha : ar (p * 8 + c) = nI a) (ha8 : a < 8) (hn : ¬ hd a = nI t) (hF : ll_FR ln fp (upd fc (t * 8 + e) (nI (c + 1))) (t * 8) (e + 1)) (hp : post (nl, nt, cl, se, vd, lk, op, ar, ln, en, so, lv, ed, pa, fp, upd fc (t * 8 + e) (nI (c + 1)), upd dp t (nI (ll_sd ln fp (upd fc (t * 8 + e) (nI (c + 1))) (t * 8) (e + 1))), hd, hc)) : wpX_execute post (nl, nt, cl, se, vd, lk, op, ar, ln, en, so, lv, ed, pa, fp, fc, dp, hd, hc) (nI t) := by
  unfold wpX_execute
  refine lx_cell ht hdp he h1 h2 ?_
  have hz : vp_in (nI (p * 8 + c)) 64 := vp_in_nI (by omega) (by decide)
  have hi : vp_in (nI (t * 8 + e)) 32 := vp_in_nI (by omega) (by decide)
  have c1 : (nI (p * 8 + c)).toNatClampNeg = p * 8 + c := nI_clamp (by omega)
  have c2 : (nI (t * 8 + e)).toNatClampNeg = t * 8 + e := nI_clamp (by omega)
  refine ⟨hz, nm_r (e' := 2) (by rw [c1, ho]) ⟨hz, nm_r (e' := nI a) (by rw [c1, ha]) ?_⟩⟩
  refine lx_top ht hdp ?_
  refine ⟨hi, hi, nm_r (e' := upd fc (t * 8 + e) (nI (c + 1))) (by rw [c2, h2, nI_1]) ?_⟩
  exact br_f (by decide) (br_t rfl (lx_rel0 ha8 hn (lx_77 ht (by omega) hdp hF hp)))
theorem lx_exR0_2 {post : St2 → Prop} {t e p c a : Nat} (ht : t < 4) (he : e < 8) (hdp : dp t = nI (e + 1)) (h1 : fp (t * 8 + e) = nI p) (hp8 : p < 8) (h2 : fc (t * 8 + e) = nI c) (hc8 : c < 8) (ho : op (p * 8 + c) = 2) (ha : ar (p * 8 + c) = nI a) (ha8 : a < 8) (hn : ¬ hd a = nI t) (hF : ll_FR ln fp (upd fc (t * 8 + e) (nI (c + 1))) (t * 8) (e + 1)) (hp : post (nl, nt, cl, se, vd, lk, op, ar, ln, en, so, lv, ed, pa, fp, upd fc (t * 8 + e) (nI (c + 1)), upd dp t (nI (ll_sd ln fp (upd fc (t * 8 + e) (nI (c + 1))) (t * 8) (e + 1))), hd, hc)) : wpX_execute_2 post (nl, nt, cl, se, vd, lk, op, ar, ln, en, so, lv, ed, pa, fp, fc, dp, hd, hc) (nI t) := by
  unfold wpX_execute_2
  refine lx_cell ht hdp he h1 h2 ?_
  have hz : vp_in (nI (p * 8 + c)) 64 := vp_in_nI (by omega) (by decide)
  have hi : vp_in (nI (t * 8 + e)) 32 := vp_in_nI (by omega) (by decide)
  have c1 : (nI (p * 8 + c)).toNatClampNeg = p * 8 + c := nI_clamp (by omega)
  have c2 : (nI (t * 8 + e)).toNatClampNeg = t * 8 + e := nI_clamp (by omega)
  refine ⟨hz, nm_r (e' := 2) (by rw [c1, ho]) ⟨hz, nm_r (e' := nI a) (by rw [c1, ha]) ?_⟩⟩
  refine lx_top ht hdp ?_
  refine ⟨hi, hi, nm_r (e' := upd fc (t * 8 + e) (nI (c + 1))) (by rw [c2, h2, nI_1]) ?_⟩
  exact br_f (by decide) (br_t rfl (lx_rel0_2 ha8 hn (lx_77_2 ht (by omega) hdp hF hp)))
theorem lx_exR1 {post : St2 → Prop} {t e p c a : Nat} (ht : t < 4) (he : e < 8) (hdp : dp t = nI (e + 1)) (h1 : fp (t * 8 + e) = nI p) (hp8 : p < 8) (h2 : fc (t * 8 + e) = nI c) (hc8 : c < 8) (ho : op (p * 8 + c) = 2) (ha : ar (p * 8 + c) = nI a) (ha8 : a < 8) (hn : hd a = nI t) (hF : ll_FR ln fp (upd fc (t * 8 + e) (nI (c + 1))) (t * 8) (e + 1)) (hp : post (nl, nt, cl, se, vd, lk, op, ar, ln, en, so, lv, ed, pa, fp, upd fc (t * 8 + e) (nI (c + 1)), upd dp t (nI (ll_sd ln fp (upd fc (t * 8 + e) (nI (c + 1))) (t * 8) (e + 1))), (if hc a - 1 = 0 then upd hd a (-1) else hd), upd hc a (hc a - 1))) : wpX_execute post (nl, nt, cl, se, vd, lk, op, ar, ln, en, so, lv, ed, pa, fp, fc, dp, hd, hc) (nI t) := by
  unfold wpX_execute
  refine lx_cell ht hdp he h1 h2 ?_
  have hz : vp_in (nI (p * 8 + c)) 64 := vp_in_nI (by omega) (by decide)
  have hi : vp_in (nI (t * 8 + e)) 32 := vp_in_nI (by omega) (by decide)
  have c1 : (nI (p * 8 + c)).toNatClampNeg = p * 8 + c := nI_clamp (by omega)
  have c2 : (nI (t * 8 + e)).toNatClampNeg = t * 8 + e := nI_clamp (by omega)
  refine ⟨hz, nm_r (e' := 2) (by rw [c1, ho]) ⟨hz, nm_r (e' := nI a) (by rw [c1, ha]) ?_⟩⟩
  refine lx_top ht hdp ?_
  refine ⟨hi, hi, nm_r (e' := upd fc (t * 8 + e) (nI (c + 1))) (by rw [c2, h2, nI_1]) ?_⟩
  exact br_f (by decide) (br_t rfl (lx_rel1 ha8 hn (lx_77 ht (by omega) hdp hF hp)))
theorem lx_exR1_2 {post : St2 → Prop} {t e p c a : Nat} (ht : t < 4) (he : e < 8) (hdp : dp t = nI (e + 1)) (h1 : fp (t * 8 + e) = nI p) (hp8 : p < 8) (h2 : fc (t * 8 + e) = nI c) (hc8 : c < 8) (ho : op (p * 8 + c) = 2) (ha : ar (p * 8 + c) = nI a) (ha8 : a < 8) (hn : hd a = nI t) (hF : ll_FR ln fp (upd fc (t * 8 + e) (nI (c + 1))) (t * 8) (e + 1)) (hp : post (nl, nt, cl, se, vd, lk, op, ar, ln, en, so, lv, ed, pa, fp, upd fc (t * 8 + e) (nI (c + 1)), upd dp t (nI (ll_sd ln fp (upd fc (t * 8 + e) (nI (c + 1))) (t * 8) (e + 1))), (if hc a - 1 = 0 then upd hd a (-1) else hd), upd hc a (hc a - 1))) : wpX_execute_2 post (nl, nt, cl, se, vd, lk, op, ar, ln, en, so, lv, ed, pa, fp, fc, dp, hd, hc) (nI t) := by
  unfold wpX_execute_2
  refine lx_cell ht hdp he h1 h2 ?_
  have hz : vp_in (nI (p * 8 + c)) 64 := vp_in_nI (by omega) (by decide)
  have hi : vp_in (nI (t * 8 + e)) 32 := vp_in_nI (by omega) (by decide)
  have c1 : (nI (p * 8 + c)).toNatClampNeg = p * 8 + c := nI_clamp (by omega)
  have c2 : (nI (t * 8 + e)).toNatClampNeg = t * 8 + e := nI_clamp (by omega)
  refine ⟨hz, nm_r (e' := 2) (by rw [c1, ho]) ⟨hz, nm_r (e' := nI a) (by rw [c1, ha]) ?_⟩⟩
  refine lx_top ht hdp ?_
  refine ⟨hi, hi, nm_r (e' := upd fc (t * 8 + e) (nI (c + 1))) (by rw [c2, h2, nI_1]) ?_⟩
  exact br_f (by decide) (br_t rfl (lx_rel1_2 ha8 hn (lx_77_2 ht (by omega) hdp hF hp)))
theorem lx_exC {post : St2 → Prop} {t e p c a : Nat} (ht : t < 4) (he : e + 1 < 8) (hdp : dp t = nI (e + 1)) (h1 : fp (t * 8 + e) = nI p) (hp8 : p < 8) (h2 : fc (t * 8 + e) = nI c) (hc8 : c < 8) (ho : op (p * 8 + c) = 3) (ha : ar (p * 8 + c) = nI a) (hF : ll_FR ln (upd fp (t * 8 + (e + 1)) (nI a)) (upd (upd fc (t * 8 + e) (nI (c + 1))) (t * 8 + (e + 1)) 0) (t * 8) (e + 2)) (hp : post (nl, nt, cl, se, vd, lk, op, ar, ln, en, so, lv, ed, pa, upd fp (t * 8 + (e + 1)) (nI a), upd (upd fc (t * 8 + e) (nI (c + 1))) (t * 8 + (e + 1)) 0, upd dp t (nI (ll_sd ln (upd fp (t * 8 + (e + 1)) (nI a)) (upd (upd fc (t * 8 + e) (nI (c + 1))) (t * 8 + (e + 1)) 0) (t * 8) (e + 2))), hd, hc)) : wpX_execute post (nl, nt, cl, se, vd, lk, op, ar, ln, en, so, lv, ed, pa, fp, fc, dp, hd, hc) (nI t) := by
  unfold wpX_execute
  refine lx_cell ht hdp (by omega) h1 h2 ?_
  have hz : vp_in (nI (p * 8 + c)) 64 := vp_in_nI (by omega) (by decide)
  have hi : vp_in (nI (t * 8 + e)) 32 := vp_in_nI (by omega) (by decide)
  have c1 : (nI (p * 8 + c)).toNatClampNeg = p * 8 + c := nI_clamp (by omega)
  have c2 : (nI (t * 8 + e)).toNatClampNeg = t * 8 + e := nI_clamp (by omega)
  refine ⟨hz, nm_r (e' := 3) (by rw [c1, ho]) ⟨hz, nm_r (e' := nI a) (by rw [c1, ha]) ?_⟩⟩
  refine lx_top ht hdp ?_
  refine ⟨hi, hi, nm_r (e' := upd fc (t * 8 + e) (nI (c + 1))) (by rw [c2, h2, nI_1]) ?_⟩
  refine br_f (by decide) (br_f (by decide) (br_t rfl (lx_push_2 ht he hdp (lx_77 (d := e + 2) ht (by omega) pk_us hF ?_))))
  rw [ll_uu]
  exact hp
theorem lx_exC_2 {post : St2 → Prop} {t e p c a : Nat} (ht : t < 4) (he : e + 1 < 8) (hdp : dp t = nI (e + 1)) (h1 : fp (t * 8 + e) = nI p) (hp8 : p < 8) (h2 : fc (t * 8 + e) = nI c) (hc8 : c < 8) (ho : op (p * 8 + c) = 3) (ha : ar (p * 8 + c) = nI a) (hF : ll_FR ln (upd fp (t * 8 + (e + 1)) (nI a)) (upd (upd fc (t * 8 + e) (nI (c + 1))) (t * 8 + (e + 1)) 0) (t * 8) (e + 2)) (hp : post (nl, nt, cl, se, vd, lk, op, ar, ln, en, so, lv, ed, pa, upd fp (t * 8 + (e + 1)) (nI a), upd (upd fc (t * 8 + e) (nI (c + 1))) (t * 8 + (e + 1)) 0, upd dp t (nI (ll_sd ln (upd fp (t * 8 + (e + 1)) (nI a)) (upd (upd fc (t * 8 + e) (nI (c + 1))) (t * 8 + (e + 1)) 0) (t * 8) (e + 2))), hd, hc)) : wpX_execute_2 post (nl, nt, cl, se, vd, lk, op, ar, ln, en, so, lv, ed, pa, fp, fc, dp, hd, hc) (nI t) := by
  unfold wpX_execute_2
  refine lx_cell ht hdp (by omega) h1 h2 ?_
  have hz : vp_in (nI (p * 8 + c)) 64 := vp_in_nI (by omega) (by decide)
  have hi : vp_in (nI (t * 8 + e)) 32 := vp_in_nI (by omega) (by decide)
  have c1 : (nI (p * 8 + c)).toNatClampNeg = p * 8 + c := nI_clamp (by omega)
  have c2 : (nI (t * 8 + e)).toNatClampNeg = t * 8 + e := nI_clamp (by omega)
  refine ⟨hz, nm_r (e' := 3) (by rw [c1, ho]) ⟨hz, nm_r (e' := nI a) (by rw [c1, ha]) ?_⟩⟩
  refine lx_top ht hdp ?_
  refine ⟨hi, hi, nm_r (e' := upd fc (t * 8 + e) (nI (c + 1))) (by rw [c2, h2, nI_1]) ?_⟩
  refine br_f (by decide) (br_f (by decide) (br_t rfl (lx_push ht he hdp (lx_77_2 (d := e + 2) ht (by omega) pk_us hF ?_))))
  rw [ll_uu]
  exact hp
theorem lx_ae38 {post : St2 → Prop} {t : Int32} {L a : Nat} {e0 : Nat → Int32} (hL : L ≤ 8) (ha : a < 8) (hp : post (nI L, nt, cl, se, vd, lk, op, ar, ln, en, so, lv, ll_ae hd t a L e0, pa, fp, fc, dp, hd, hc)) : ∀ (r n k : Nat), k + r = L → r < n → wX_addEdges_38 post t (nI a) (nI L) nt cl se vd lk n (nI k) op ar ln en so lv (ll_ae hd t a k e0) pa fp fc dp hd hc := by
  intro r
  induction r with
  | zero =>
    intro n k hk hn
    obtain ⟨n, rfl⟩ : ∃ m, n = m + 1 := ⟨n - 1, by omega⟩
    have e : k = L := by omega
    subst e
    exact pk_le k k (fun _ => hp) (fun h => absurd h (by omega))
  | succ r ih =>
    intro n k hk hn
    obtain ⟨n, rfl⟩ : ∃ m, n = m + 1 := ⟨n - 1, by omega⟩
    have c1 : (nI k).toNatClampNeg = k := nI_clamp (by omega)
    have q := ih n (k + 1) (by omega) (by omega)
    refine pk_le L k (fun h => absurd h (by omega)) (fun _ => And.intro (vp_in_nI (by omega) (by decide)) ?_)
    by_cases z : hd k = t
    · have e : ll_ae hd t a (k + 1) e0 = upd (ll_ae hd t a k e0) (k * 8 + a) 1 := if_pos z
      rw [e] at q
      exact br_t (by rw [c1]; exact z) ⟨pk_in (k * 8 + a) 64 (by omega) (ll_cel k a), nm_r (e' := upd (ll_ae hd t a k e0) (k * 8 + a) 1) (by rw [ll_cel, nI_clamp (by omega)]) (nm_r (nI_1 k) q)⟩
    · have e : ll_ae hd t a (k + 1) e0 = ll_ae hd t a k e0 := if_neg z
      rw [e] at q
      exact br_f (by rw [c1]; exact z) (nm_r (nI_1 k) q)
theorem lx_ae0 {post : St2 → Prop} {t e p c : Nat} (ht : t < 4) (he : e < 8) (hdp : dp t = nI (e + 1)) (h1 : fp (t * 8 + e) = nI p) (hp8 : p < 8) (h2 : fc (t * 8 + e) = nI c) (hc8 : c < 8) (ho : ¬ op (p * 8 + c) = 1) (hp : post (nl, nt, cl, se, vd, lk, op, ar, ln, en, so, lv, ed, pa, fp, fc, dp, hd, hc)) : wpX_addEdges post (nl, nt, cl, se, vd, lk, op, ar, ln, en, so, lv, ed, pa, fp, fc, dp, hd, hc) (nI t) := by
  unfold wpX_addEdges
  refine lx_cell ht hdp he h1 h2 ?_
  have hz : vp_in (nI (p * 8 + c)) 64 := vp_in_nI (by omega) (by decide)
  have c1 : (nI (p * 8 + c)).toNatClampNeg = p * 8 + c := nI_clamp (by omega)
  exact ⟨hz, br_f (by rw [c1]; exact ho) hp⟩
theorem lx_ae1 {post : St2 → Prop} {t e p c a : Nat} (ht : t < 4) (he : e < 8) (hdp : dp t = nI (e + 1)) (h1 : fp (t * 8 + e) = nI p) (hp8 : p < 8) (h2 : fc (t * 8 + e) = nI c) (hc8 : c < 8) (ho : op (p * 8 + c) = 1) (ha : ar (p * 8 + c) = nI a) (ha8 : a < 8) (hn : hd a = nI t) (hp : post (nl, nt, cl, se, vd, lk, op, ar, ln, en, so, lv, ed, pa, fp, fc, dp, hd, hc)) : wpX_addEdges post (nl, nt, cl, se, vd, lk, op, ar, ln, en, so, lv, ed, pa, fp, fc, dp, hd, hc) (nI t) := by
  unfold wpX_addEdges
  refine lx_cell ht hdp he h1 h2 ?_
  have hz : vp_in (nI (p * 8 + c)) 64 := vp_in_nI (by omega) (by decide)
  have c1 : (nI (p * 8 + c)).toNatClampNeg = p * 8 + c := nI_clamp (by omega)
  have c2 : (nI a).toNatClampNeg = a := nI_clamp (by omega)
  exact ⟨hz, br_t (by rw [c1]; exact ho) ⟨hz, nm_r (e' := nI a) (by rw [c1]; exact ha) ⟨vp_in_nI ha8 (by decide), br_t (by rw [c2]; exact hn) hp⟩⟩⟩
theorem lx_ae2 {post : St2 → Prop} {L t e p c a : Nat} (hL : L ≤ 8) (ht : t < 4) (he : e < 8) (hdp : dp t = nI (e + 1)) (h1 : fp (t * 8 + e) = nI p) (hp8 : p < 8) (h2 : fc (t * 8 + e) = nI c) (hc8 : c < 8) (ho : op (p * 8 + c) = 1) (ha : ar (p * 8 + c) = nI a) (ha8 : a < 8) (hn : ¬ hd a = nI t) (hp : post (nI L, nt, cl, se, vd, lk, op, ar, ln, en, so, lv, ll_ae hd (nI t) a L ed, pa, fp, fc, dp, hd, hc)) : wpX_addEdges post (nI L, nt, cl, se, vd, lk, op, ar, ln, en, so, lv, ed, pa, fp, fc, dp, hd, hc) (nI t) := by
  unfold wpX_addEdges
  refine lx_cell ht hdp he h1 h2 ?_
  have hz : vp_in (nI (p * 8 + c)) 64 := vp_in_nI (by omega) (by decide)
  have c1 : (nI (p * 8 + c)).toNatClampNeg = p * 8 + c := nI_clamp (by omega)
  have c2 : (nI a).toNatClampNeg = a := nI_clamp (by omega)
  exact ⟨hz, br_t (by rw [c1]; exact ho) ⟨hz, nm_r (e' := nI a) (by rw [c1]; exact ha) ⟨vp_in_nI ha8 (by decide), br_f (by rw [c2]; exact hn) ⟨L + 1, lx_ae38 (e0 := ed) hL ha8 hp L (L + 1) 0 (by omega) (by omega)⟩⟩⟩⟩
theorem ll_sd_cg {b : Nat} : ∀ d, (∀ i, i < d → fp' (b + i) = fp (b + i) ∧ fc' (b + i) = fc (b + i)) → ll_sd ln fp' fc' b d = ll_sd ln fp fc b d := by
  intro d
  induction d with
  | zero => intro _; rfl
  | succ d ih =>
    intro h
    have q := ih (fun i hi => h i (by omega))
    have h1 := h d (by omega)
    show (if fc' (b + d) < ln (fp' (b + d)).toNatClampNeg then d + 1 else ll_sd ln fp' fc' b d) = (if fc (b + d) < ln (fp (b + d)).toNatClampNeg then d + 1 else ll_sd ln fp fc b d)
    rw [h1.1, h1.2, q]
theorem ll_TOo {s : Nat} (h : ll_TO ln fp fc dp s) (hf : ∀ i, i < 8 → fp' (s * 8 + i) = fp (s * 8 + i) ∧ fc' (s * 8 + i) = fc (s * 8 + i)) (hdp : dp' s = dp s) : ll_TO ln fp' fc' dp' s := by
  obtain ⟨d, h1, h2, h3, h4⟩ := h
  refine ⟨d, h1, by rw [hdp]; exact h2, fun i hi => ?_, ?_⟩
  · obtain ⟨p, c, n, e⟩ := h3 i hi
    have q := hf i (by omega)
    exact ⟨p, c, n, by rw [q.1]; exact e.1, e.2.1, e.2.2.1, by rw [q.2]; exact e.2.2.2.1, e.2.2.2.2⟩
  · rw [ll_sd_cg d (fun i hi => hf i (by omega))]
    exact h4
theorem ll_TOt {t d : Nat} (h8 : d ≤ 8) (hF : ll_FR ln fp fc (t * 8) d) : ll_TO ln fp fc (upd dp t (nI (ll_sd ln fp fc (t * 8) d))) t := by
  have h := ll_sd_le (ln := ln) (fp := fp) (fc := fc) (b := t * 8) d
  exact ⟨ll_sd ln fp fc (t * 8) d, by omega, pk_us, ll_FRle hF h, ll_sd_id d⟩
theorem ll_TSx {T t d : Nat} (S : ll_TS T ln fp fc dp) (ht : t < T) (hf : ∀ j, (∀ i, i < 8 → j ≠ t * 8 + i) → fp' j = fp j ∧ fc' j = fc j) (h8 : d ≤ 8) (hF : ll_FR ln fp' fc' (t * 8) d) : ll_TS T ln fp' fc' (upd dp t (nI (ll_sd ln fp' fc' (t * 8) d))) := by
  refine ⟨fun s hs => ?_, fun s hs h4 => ?_⟩
  · by_cases e : s = t
    · subst e
      exact ll_TOt h8 hF
    · exact ll_TOo (S.1 s hs) (fun i hi => hf _ (fun i' hi' => by omega)) (pk_un e)
  · rw [pk_un (by omega)]
    exact S.2 s hs h4
theorem ll_FRi {b e p c m : Nat} (hF : ll_FR ln fp fc b (e + 1)) (h1 : fp (b + e) = nI p) (hep : e ≤ p) (hp8 : p < 8) (hl : ln p = nI m) (hcm : c < m) (hm : m ≤ 8) : ll_FR ln fp (upd fc (b + e) (nI (c + 1))) b (e + 1) := by
  intro i hi
  by_cases x : i = e
  · subst x
    exact ⟨p, c + 1, m, h1, hep, hp8, pk_us, hl, by omega, hm⟩
  · rw [pk_un (show b + i ≠ b + e by omega)]
    exact hF i hi
theorem ll_FRc {b d a m : Nat} (hF : ll_FR ln fp fc b d) (hda : d ≤ a) (ha8 : a < 8) (hl : ln a = nI m) (hm : m ≤ 8) : ll_FR ln (upd fp (b + d) (nI a)) (upd fc (b + d) 0) b (d + 1) := by
  intro i hi
  by_cases x : i = d
  · subst x
    exact ⟨a, 0, m, pk_us, hda, ha8, pk_us, hl, by omega, hm⟩
  · rw [pk_un (show b + i ≠ b + d by omega), pk_un (show b + i ≠ b + d by omega)]
    exact hF i (by omega)
theorem ll_cur {t e : Nat} (h : ll_TO ln fp fc dp t) (hdp : dp t = nI (e + 1)) (he : e < 2 ^ 30) : e < 8 ∧ ll_FR ln fp fc (t * 8) (e + 1) ∧ ∃ p c m, fp (t * 8 + e) = nI p ∧ e ≤ p ∧ p < 8 ∧ fc (t * 8 + e) = nI c ∧ ln p = nI m ∧ c < m ∧ m ≤ 8 := by
  obtain ⟨d, h1, h2, h3, h4⟩ := h
  rw [hdp, nI_eq (by omega) (by omega)] at h2
  subst h2
  obtain ⟨p, c, m, e1, e2, e3, e4, e5, e6, e7⟩ := h3 e (by omega)
  refine ⟨by omega, h3, p, c, m, e1, e2, e3, e4, e5, ?_, e7⟩
  by_cases x : c < m
  · exact x
  · have q := ll_sd_f e1 e3 e4 e5 (by omega) e7
    have q2 := ll_sd_le (ln := ln) (fp := fp) (fc := fc) (b := t * 8) e
    omega
theorem ll_fl_s (f : Nat → Int32) (k : Nat) (x : Int32) : upd (ll_fl k f x) k x = ll_fl (k + 1) f x := by
  funext j
  by_cases e : j = k
  · rw [e, pk_us]
    exact (if_pos (by omega)).symm
  · rw [pk_un e]
    show (if j < k then x else f j) = (if j < k + 1 then x else f j)
    by_cases h : j < k
    · rw [if_pos h, if_pos (by omega)]
    · rw [if_neg h, if_neg (by omega)]
theorem ll_fl_0 (f : Nat → Int32) (x : Int32) : ll_fl 0 f x = f := by
  funext j
  exact if_neg (by omega)
theorem ll_fl_t {f : Nat → Int32} {L j : Nat} {x : Int32} (h : j < L) : ll_fl L f x j = x := if_pos h
theorem ll_fl_f {f : Nat → Int32} {L j : Nat} {x : Int32} (h : L ≤ j) : ll_fl L f x j = f j := if_neg (by omega)
theorem lx_free2 {post : St2 → Prop} {L : Nat} (hL : L ≤ 8) (hp : post (nI L, nt, cl, se, vd, lk, op, ar, ln, en, so, lv, ed, pa, fp, fc, dp, ll_fl L hd (-1), ll_fl L hc 0)) : ∀ (r n k : Nat), k + r = L → r < n → wX_freeAllLocks_2 post (nI L) nt cl se vd lk n (nI k) op ar ln en so lv ed pa fp fc dp (ll_fl k hd (-1)) (ll_fl k hc 0) := by
  intro r
  induction r with
  | zero =>
    intro n k hk hn
    obtain ⟨n, rfl⟩ : ∃ m, n = m + 1 := ⟨n - 1, by omega⟩
    have e : k = L := by omega
    subst e
    exact pk_le k k (fun _ => hp) (fun h => absurd h (by omega))
  | succ r ih =>
    intro n k hk hn
    obtain ⟨n, rfl⟩ : ∃ m, n = m + 1 := ⟨n - 1, by omega⟩
    have c1 : (nI k).toNatClampNeg = k := nI_clamp (by omega)
    have q := ih n (k + 1) (by omega) (by omega)
    have hi : vp_in (nI k) 8 := vp_in_nI (by omega) (by decide)
    exact pk_le L k (fun h => absurd h (by omega)) (fun _ => And.intro hi (nm_r (e' := ll_fl (k + 1) hd (-1)) (by rw [c1, ll_fl_s]) ⟨hi, nm_r (e' := ll_fl (k + 1) hc 0) (by rw [c1, ll_fl_s]) (nm_r (nI_1 k) q)⟩))
theorem lx_free2_2 {post : St2 → Prop} {L : Nat} (hL : L ≤ 8) (hp : post (nI L, nt, cl, se, vd, lk, op, ar, ln, en, so, lv, ed, pa, fp, fc, dp, ll_fl L hd (-1), ll_fl L hc 0)) : ∀ (r n k : Nat), k + r = L → r < n → wX_freeAllLocks_2_2 post (nI L) nt cl se vd lk n (nI k) op ar ln en so lv ed pa fp fc dp (ll_fl k hd (-1)) (ll_fl k hc 0) := by
  intro r
  induction r with
  | zero =>
    intro n k hk hn
    obtain ⟨n, rfl⟩ : ∃ m, n = m + 1 := ⟨n - 1, by omega⟩
    have e : k = L := by omega
    subst e
    exact pk_le k k (fun _ => hp) (fun h => absurd h (by omega))
  | succ r ih =>
    intro n k hk hn
    obtain ⟨n, rfl⟩ : ∃ m, n = m + 1 := ⟨n - 1, by omega⟩
    have c1 : (nI k).toNatClampNeg = k := nI_clamp (by omega)
    have q := ih n (k + 1) (by omega) (by omega)
    have hi : vp_in (nI k) 8 := vp_in_nI (by omega) (by decide)
    exact pk_le L k (fun h => absurd h (by omega)) (fun _ => And.intro hi (nm_r (e' := ll_fl (k + 1) hd (-1)) (by rw [c1, ll_fl_s]) ⟨hi, nm_r (e' := ll_fl (k + 1) hc 0) (by rw [c1, ll_fl_s]) (nm_r (nI_1 k) q)⟩))
theorem lx_free {post : St2 → Prop} {L : Nat} (hL : L ≤ 8) (hp : post (nI L, nt, cl, se, vd, lk, op, ar, ln, en, so, lv, ed, pa, fp, fc, dp, ll_fl L hd (-1), ll_fl L hc 0)) : wpX_freeAllLocks post (nI L, nt, cl, se, vd, lk, op, ar, ln, en, so, lv, ed, pa, fp, fc, dp, hd, hc) := by
  have q := lx_free2 hL hp L (L + 1) 0 (by omega) (by omega)
  rw [ll_fl_0, ll_fl_0] at q
  exact ⟨L + 1, q⟩
theorem lx_free_2 {post : St2 → Prop} {L : Nat} (hL : L ≤ 8) (hp : post (nI L, nt, cl, se, vd, lk, op, ar, ln, en, so, lv, ed, pa, fp, fc, dp, ll_fl L hd (-1), ll_fl L hc 0)) : wpX_freeAllLocks_2 post (nI L, nt, cl, se, vd, lk, op, ar, ln, en, so, lv, ed, pa, fp, fc, dp, hd, hc) := by
  have q := lx_free2_2 hL hp L (L + 1) 0 (by omega) (by omega)
  rw [ll_fl_0, ll_fl_0] at q
  exact ⟨L + 1, q⟩
theorem ll_TOs {t p m : Nat} (hp8 : p < 8) (hl : ln p = nI m) (hm : m ≤ 8) : ll_TO ln (upd fp (t * 8) (nI p)) (upd fc (t * 8) 0) (upd dp t (nI (if 0 < m then 1 else 0))) t := by
  have f1 : upd fp (t * 8) (nI p) (t * 8 + 0) = nI p := pk_us
  have f2 : upd fc (t * 8) 0 (t * 8 + 0) = nI 0 := pk_us
  by_cases h : 0 < m
  · rw [if_pos h]
    refine ⟨1, by omega, pk_us, fun i hi => ?_, ll_sd_t f1 hp8 f2 hl h hm⟩
    have e : i = 0 := by omega
    subst e
    exact ⟨p, 0, m, f1, by omega, hp8, f2, hl, by omega, hm⟩
  · rw [if_neg h]
    exact ⟨0, by omega, pk_us, fun i hi => absurd hi (by omega), rfl⟩
theorem ll_TSs {T t p m : Nat} (S : ll_TS T ln fp fc dp) (ht : t < T) (hp8 : p < 8) (hl : ln p = nI m) (hm : m ≤ 8) : ll_TS T ln (upd fp (t * 8) (nI p)) (upd fc (t * 8) 0) (upd dp t (nI (if 0 < m then 1 else 0))) := by
  refine ⟨fun s hs => ?_, fun s hs h4 => ?_⟩
  · by_cases e : s = t
    · subst e
      exact ll_TOs hp8 hl hm
    · exact ll_TOo (S.1 s hs) (fun i hi => ⟨pk_un (by omega), pk_un (by omega)⟩) (pk_un e)
  · rw [pk_un (by omega)]
    exact S.2 s hs h4
theorem ll_EBu {L k a : Nat} (h : ll_EB L ed) (hL : L ≤ 8) (hk : k < L) (ha : a < L) : ll_EB L (upd ed (k * 8 + a) 1) := by
  refine ⟨ll_Bu h.1 _ (Or.inr rfl), fun x y hx hy hne => ?_⟩
  by_cases e : x * 8 + y = k * 8 + a
  · exact ⟨by omega, by omega⟩
  · rw [pk_un e] at hne
    exact h.2 x y hx hy hne
theorem ll_EBa {L a : Nat} {t : Int32} (h : ll_EB L ed) (hL : L ≤ 8) (ha : a < L) : ∀ k, k ≤ L → ll_EB L (ll_ae hd t a k ed) := by
  intro k
  induction k with
  | zero => intro _; exact h
  | succ k ih =>
    intro hk
    by_cases z : hd k = t
    · have e : ll_ae hd t a (k + 1) ed = upd (ll_ae hd t a k ed) (k * 8 + a) 1 := if_pos z
      rw [e]
      exact ll_EBu (ih (by omega)) hL (by omega) ha
    · have e : ll_ae hd t a (k + 1) ed = ll_ae hd t a k ed := if_neg z
      rw [e]
      exact ih (by omega)
end
