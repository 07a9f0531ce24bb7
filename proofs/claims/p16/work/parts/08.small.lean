/-! waits, steps, runs, deadlocks in lockstep -/
def ll_fld (v i : Int32) : Int32 := ((v.toUInt32 >>> ((2 * (i - i / 16 * 16)).toUInt32 &&& Int32.toUInt32 31)).toInt32) &&& 3
theorem ll_clamp (x : Int32) (a b : Nat) (hab : a ≤ b) (hb : b < 2 ^ 31) : ∃ L, a ≤ L ∧ L ≤ b ∧ ∀ F : Int32 → Prop, F (nI L) → ((nI a ≤ x → ((x ≤ nI b → F x) ∧ (¬ x ≤ nI b → F (nI b)))) ∧ (¬ nI a ≤ x → F (nI a))) := by
  by_cases h1 : nI a ≤ x
  · by_cases h2 : x ≤ nI b
    · have h0 : ¬ x < 0 := fun q => nI_pos (show a < 2 ^ 31 by omega) (Int32.lt_of_le_of_lt h1 q)
      obtain ⟨j, hj, rfl⟩ := nI_of h0
      rw [nI_leI (by omega) hj] at h1
      rw [nI_leI hj hb] at h2
      exact ⟨j, h1, h2, fun F hF => br_t (nI_le h1 hj) (br_t (nI_le h2 hb) hF)⟩
    · exact ⟨b, hab, Nat.le_refl _, fun F hF => br_t h1 (br_f h2 hF)⟩
  · exact ⟨a, Nat.le_refl _, hab, fun F hF => br_f h1 hF⟩
theorem ll_TS0 {T : Nat} {ln fp fc dp : Nat → Int32} (hT : T ≤ 4) (h : ∀ t, t < 4 → dp t = 0) : ll_TS T ln fp fc dp :=
  ⟨fun t ht => ⟨0, by omega, h t (by omega), fun i hi => absurd hi (by omega), rfl⟩, fun t _ h4 => h t h4⟩
section
variable {nl nt cl se vd lk : Int32} {op ar ln en so lv ed pa fp fc dp hd hc fp' fc' dp' hd' hc' : Nat → Int32}
theorem lx_thr1 {post : Int32 → Prop} {T j : Nat} (hj : j < T) (hT : T ≤ 4) (hp : post 1) : wpX_isThread post (nl, nI T, cl, se, vd, lk, op, ar, ln, en, so, lv, ed, pa, fp, fc, dp, hd, hc) (nI j) :=
  br_f (nI_pos (by omega)) (br_f (nI_ge hj (by omega)) hp)
theorem lx_thr0 {post : Int32 → Prop} {T : Nat} {x : Int32} (hx : x < 0 ∨ nI T ≤ x) (hp : post 0) : wpX_isThread post (nl, nI T, cl, se, vd, lk, op, ar, ln, en, so, lv, ed, pa, fp, fc, dp, hd, hc) x := by
  by_cases h : x < 0
  · exact br_t h hp
  · rcases hx with q | q
    · exact absurd q h
    · exact br_f h (br_t q hp)
theorem lx_lock1 {post : Int32 → Prop} {L j : Nat} (hj : j < L) (hL : L ≤ 8) (hp : post 1) : wpX_isLock post (nI L, nt, cl, se, vd, lk, op, ar, ln, en, so, lv, ed, pa, fp, fc, dp, hd, hc) (nI j) :=
  br_f (nI_pos (by omega)) (br_f (nI_ge hj (by omega)) hp)
theorem lx_lock0 {post : Int32 → Prop} {L : Nat} {x : Int32} (hx : x < 0 ∨ nI L ≤ x) (hp : post 0) : wpX_isLock post (nI L, nt, cl, se, vd, lk, op, ar, ln, en, so, lv, ed, pa, fp, fc, dp, hd, hc) x := by
  by_cases h : x < 0
  · exact br_t h hp
  · rcases hx with q | q
    · exact absurd q h
    · exact br_f h (br_t q hp)
theorem lx_run0 {post : Int32 → Prop} {T : Nat} {x : Int32} (hx : x < 0 ∨ nI T ≤ x) (hp : post 0) : wpX_isRunning post (nl, nI T, cl, 1, vd, lk, op, ar, ln, en, so, lv, ed, pa, fp, fc, dp, hd, hc) x :=
  br_f ll_1n0 (lx_thr0 hx (br_t rfl hp))
theorem lx_run1 {post : Int32 → Prop} {T t d : Nat} (ht : t < T) (hT : T ≤ 4) (hdp : dp t = nI d) (h8 : d ≤ 8) (h0 : d = 0 → post 0) (h1 : d ≠ 0 → post 1) : wpX_isRunning post (nl, nI T, cl, 1, vd, lk, op, ar, ln, en, so, lv, ed, pa, fp, fc, dp, hd, hc) (nI t) :=
  br_f ll_1n0 (lx_thr1 ht hT (br_f ll_1n0 (lx_isDone (by omega) hdp h8 (fun z => br_f ll_1n0 (h0 z)) (fun z => br_t rfl (h1 z)))))
theorem lx_wait0 {post : Int32 → Prop} {T : Nat} {x : Int32} (hx : x < 0 ∨ nI T ≤ x) (hp : post (-1)) : wpX_waitsFor post (nl, nI T, cl, 1, vd, lk, op, ar, ln, en, so, lv, ed, pa, fp, fc, dp, hd, hc) x := by
  unfold wpX_waitsFor
  exact lx_run0 hx (br_t rfl hp)
theorem lx_waitD {post : Int32 → Prop} {T t : Nat} (ht : t < T) (hT : T ≤ 4) (hdp : dp t = nI 0) (hp : post (-1)) : wpX_waitsFor post (nl, nI T, cl, 1, vd, lk, op, ar, ln, en, so, lv, ed, pa, fp, fc, dp, hd, hc) (nI t) := by
  unfold wpX_waitsFor
  exact lx_run1 ht hT hdp (by omega) (fun _ => br_t rfl hp) (fun z => absurd rfl z)
theorem lx_waitN {post : Int32 → Prop} {T t e p c : Nat} (ht : t < T) (hT : T ≤ 4) (he : e < 8) (hdp : dp t = nI (e + 1)) (h1 : fp (t * 8 + e) = nI p) (hp8 : p < 8) (h2 : fc (t * 8 + e) = nI c) (hc8 : c < 8) (ho : ¬ op (p * 8 + c) = 1) (hp : post (-1)) : wpX_waitsFor post (nl, nI T, cl, 1, vd, lk, op, ar, ln, en, so, lv, ed, pa, fp, fc, dp, hd, hc) (nI t) := by
  unfold wpX_waitsFor
  have c1 : (nI (p * 8 + c)).toNatClampNeg = p * 8 + c := nI_clamp (by omega)
  refine lx_run1 ht hT hdp (by omega) (fun z => absurd z (by omega)) (fun _ => br_f ll_1n0 ?_)
  refine lx_cell (by omega) hdp he h1 h2 ?_
  exact ⟨vp_in_nI (by omega) (by decide), br_f (by rw [c1]; exact ho) hp⟩
theorem lx_waitA {post : Int32 → Prop} {T t e p c a : Nat} (ht : t < T) (hT : T ≤ 4) (he : e < 8) (hdp : dp t = nI (e + 1)) (h1 : fp (t * 8 + e) = nI p) (hp8 : p < 8) (h2 : fc (t * 8 + e) = nI c) (hc8 : c < 8) (ho : op (p * 8 + c) = 1) (ha : ar (p * 8 + c) = nI a) (ha8 : a < 8) (hp1 : hd a = nI t → post (-1)) (hp0 : ¬ hd a = nI t → post (hd a)) : wpX_waitsFor post (nl, nI T, cl, 1, vd, lk, op, ar, ln, en, so, lv, ed, pa, fp, fc, dp, hd, hc) (nI t) := by
  unfold wpX_waitsFor
  have c1 : (nI (p * 8 + c)).toNatClampNeg = p * 8 + c := nI_clamp (by omega)
  have c2 : (nI a).toNatClampNeg = a := nI_clamp (by omega)
  have hz : vp_in (nI (p * 8 + c)) 64 := vp_in_nI (by omega) (by decide)
  refine lx_run1 ht hT hdp (by omega) (fun z => absurd z (by omega)) (fun _ => br_f ll_1n0 ?_)
  refine lx_cell (by omega) hdp he h1 h2 ?_
  exact ⟨hz, br_t (by rw [c1]; exact ho) ⟨hz, by rw [c1, ha]; exact vp_in_nI ha8 (by decide), nm_r (e' := hd a) (by rw [c1, ha, c2]) (br_c hp1 hp0)⟩⟩
theorem ll_CIu {L p n : Nat} {o a : Int32} (C : ll_CI L op ar ln) (hp8 : p < 8) (hl : ln p = nI n) (hn : n < 8) (hok : o = 0 ∨ (o = 1 ∧ ∃ b, b < L ∧ a = nI b) ∨ (o = 2 ∧ ∃ b, b < L ∧ a = nI b) ∨ (o = 3 ∧ ∃ b, p < b ∧ b < 8 ∧ a = nI b)) : ll_CI L (upd op (p * 8 + n) o) (upd ar (p * 8 + n) a) (upd ln p (nI (n + 1))) := by
  intro q hq
  obtain ⟨m, hm, hl', hcode⟩ := C q hq
  by_cases e : q = p
  · subst e
    have em : m = n := (nI_eq (by omega) (by omega)).mp (hl'.symm.trans hl)
    subst em
    refine ⟨m + 1, by omega, pk_us, fun i hi => ?_⟩
    by_cases x : i = m
    · rw [x, pk_us, pk_us]
      exact hok
    · rw [pk_un (show q * 8 + i ≠ q * 8 + m by omega), pk_un (show q * 8 + i ≠ q * 8 + m by omega)]
      exact hcode i (by omega)
  · refine ⟨m, hm, by rw [pk_un e]; exact hl', fun i hi => ?_⟩
    rw [pk_un (show q * 8 + i ≠ p * 8 + n by omega), pk_un (show q * 8 + i ≠ p * 8 + n by omega)]
    exact hcode i hi
theorem lx_em {post : Int32 → St2 → Prop} {p n : Nat} {o g a : Int32} (hp8 : p < 8) (hl : ln p = nI n) (hn8 : n ≤ 8) (ho0 : ¬ o < 0) (ho3 : o ≤ 3) (hfit : ∀ post' : Int32 → Prop, post' 1 → wpX_argumentFits post' (nl, nt, cl, 0, vd, lk, op, ar, ln, en, so, lv, ed, pa, fp, fc, dp, hd, hc) (nI p) o g) (hoa : (o = 0 ∧ a = 0) ∨ (¬ o = 0 ∧ a = g)) (hfull : 8 ≤ n ∨ ¬ cl < 32 → post (-5) (nl, nt, cl, 0, vd, lk, op, ar, ln, en, so, lv, ed, pa, fp, fc, dp, hd, hc)) (hok : n < 8 → cl < 32 → post (nI n) (nl, nt, cl + 1, 0, vd, lk, upd op (p * 8 + n) o, upd ar (p * 8 + n) a, upd ln p (nI (n + 1)), en, so, lv, ed, pa, fp, fc, dp, hd, hc)) : wpX_emit post (nl, nt, cl, 0, vd, lk, op, ar, ln, en, so, lv, ed, pa, fp, fc, dp, hd, hc) (nI p) o g := by
  have c1 : (nI p).toNatClampNeg = p := nI_clamp (by omega)
  have hi : vp_in (nI p) 8 := vp_in_nI hp8 (by decide)
  refine br_t rfl (br_f (nI_pos (by omega)) (br_f (nI_ge (b := 8) hp8 (by decide)) (br_f ll_1n0 (br_f ho0 (br_t ho3 ?_)))))
  refine hfit _ ?_
  refine br_f ll_1n0 ⟨hi, nm_r (e' := nI n) (by rw [c1]; exact hl) (pk_le 8 n (fun h => hfull (Or.inl h)) (fun h => br_c (fun hcl => ?_) (fun hcl => hfull (Or.inr hcl))))⟩
  have hok' := hok h hcl
  have c2 : (nI (p * 8 + n)).toNatClampNeg = p * 8 + n := nI_clamp (by omega)
  have hz : vp_in (nI (p * 8 + n)) 64 := vp_in_nI (by omega) (by decide)
  refine nm_r (e' := nI (p * 8 + n)) (ll_cel p n) ⟨hz, nm_r (e' := upd op (p * 8 + n) o) (by rw [c2]) ?_⟩
  have fin : wX_emit_103 post (nI p) (nI n) a (nI (p * 8 + n)) nl nt cl 0 vd lk (upd op (p * 8 + n) o) ar ln en so lv ed pa fp fc dp hd hc :=
    And.intro hz (nm_r (e' := upd ar (p * 8 + n) a) (by rw [c2]) ⟨hi, nm_r (e' := upd ln p (nI (n + 1))) (by rw [c1, nI_1]) (nm_e hok')⟩)
  rcases hoa with ⟨h0, ha⟩ | ⟨h0, ha⟩
  · subst ha
    exact br_t h0 fin
  · subst ha
    exact br_f h0 fin
theorem ll_o4 {o : Int32} (h0 : ¬ o < 0) (h3 : o ≤ 3) : o = 0 ∨ o = 1 ∨ o = 2 ∨ o = 3 := by
  obtain ⟨j, hj, rfl⟩ := nI_of2 (n := 3) (by decide) h0 h3
  have : j = 0 ∨ j = 1 ∨ j = 2 ∨ j = 3 := by omega
  rcases this with rfl | rfl | rfl | rfl
  · exact Or.inl rfl
  · exact Or.inr (Or.inl rfl)
  · exact Or.inr (Or.inr (Or.inl rfl))
  · exact Or.inr (Or.inr (Or.inr rfl))
theorem ll_ge0 {T : Nat} {x : Int32} (hT : T < 2 ^ 31) (hx : nI T ≤ x) : ¬ x < 0 := fun q => nI_pos hT (Int32.lt_of_le_of_lt hx q)
theorem ll_gel {T : Nat} {x : Int32} (hx : nI T ≤ x) : ¬ x < nI T := fun q => Int32.lt_irrefl (Int32.lt_of_lt_of_le q hx)
theorem ll_7 {x : Int32} (h : (8 : Int32) ≤ x) : ¬ x ≤ 7 := fun q => absurd (Int32.le_trans h q) (by decide)
theorem ll_7n {p : Nat} (h : p < 8) : nI p ≤ 7 := nI_le (b := 7) (by omega) (by decide)
end
