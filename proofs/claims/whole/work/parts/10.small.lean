/-! the relation; construction, emit, setEntry -/
def ll_CY (L : Nat) (vd lk : Int32) (re : Nat → Int32) : Prop :=
  (vd = 1 ∧ ∃ l, l < L ∧ lk = nI l ∧ ¬ re (l * 8 + l) = 0 ∧ ∀ j, j < l → re (j * 8 + j) = 0) ∨ (¬ vd = 1 ∧ lk = -1)
def i_Rel (k : Nat) (u : SX) (v : SY) : Prop :=
  ∃ (L T : Nat) (cl se vd lk vy : Int32) (op ar ln en so lv ed pa fp fc dp hd hc re lw hy cy : Nat → Int32),
    u = (nI L, nI T, cl, se, vd, lk, op, ar, ln, en, so, lv, ed, pa, fp, fc, dp, hd, hc) ∧ v = (nI L, nI T, cl, se, vy, 0, op, ar, ln, en, so, ed, re, lw, hy, cy, fp, fc, dp) ∧ 2 ≤ L ∧ L ≤ 8 ∧ 1 ≤ T ∧ T ≤ 4 ∧ ll_CI L op ar ln ∧ ll_EN en ∧ ll_EB L ed ∧
    ((se = 0 ∧ vd = -1 ∧ lk = -1 ∧ (∀ j, j < 8 → lv j = 0) ∧ (∀ j, j < 8 → lw j = 0) ∧ (∀ t, t < 4 → dp t = 0)) ∨
     (se = 1 ∧ vy = vd ∧ ll_TS T ln fp fc dp ∧ ll_LK L T hd hc hy cy ∧ (vd = 0 → ∀ l, l < L → lw l = lv l) ∧ ll_CY L vd lk re))
theorem i_up {k : Nat} {u : SX} {v : SY} (h : i_Rel k u v) : i_Rel (k + 4) u v := h
theorem ll_clamp (x : Int32) (a b : Nat) (hab : a ≤ b) (hb : b < 2 ^ 31) : ∃ L, a ≤ L ∧ L ≤ b ∧ ∀ F : Int32 → Prop, F (nI L) → ((nI a ≤ x → ((x ≤ nI b → F x) ∧ (¬ x ≤ nI b → F (nI b)))) ∧ (¬ nI a ≤ x → F (nI a))) := by
  by_cases h1 : nI a ≤ x
  · by_cases h2 : x ≤ nI b
    · have h0 : ¬ x < 0 := fun q => nI_pos (show a < 2 ^ 31 by omega) (Int32.lt_of_le_of_lt h1 q)
      obtain ⟨j, hj, rfl⟩ := nI_of h0
      rw [nI_leI (by omega) hj] at h1
      rw [nI_leI hj hb] at h2
      exact ⟨j, h1, h2, fun F hF => br_t (nI_le h1 hj) (br_t (nI_le h2 hb) hF)⟩
    · exact ⟨b, hab, Nat.le_refl _, fun F hF => br_t h1 (br_f h2 hF)⟩
  · exact ⟨a, Nat.le_refl _, hab, fun F hF => br_f h1 hF⟩
theorem ll_TS0 {T : Nat} {ln fp fc dp : Nat → Int32} (hT : T ≤ 4) (h : ∀ t, t < 4 → dp t = 0) : ll_TS T ln fp fc dp :=
  ⟨fun t ht => ⟨0, by omega, h t (by omega), fun i hi => absurd hi (by omega), rfl⟩, fun t _ h4 => h t h4⟩
section
variable {nl nt cl se vd lk rc vy : Int32} {op ar ln en so lv lw ed pa re fp fc dp hd hc hy cy fp' fc' dp' : Nat → Int32}
theorem lx_in2 {post : SX → Prop} (hp : post (nl, nt, cl, se, vd, lk, op, ar, ln, ll_cp 4 nI en, so, lv, ed, pa, fp, fc, dp, hd, hc)) : ∀ (r n k : Nat), k + r = 4 → r < n → wX_init_148 post nl nt cl se vd lk n (nI k) op ar ln (ll_cp k nI en) so lv ed pa fp fc dp hd hc := by
  intro r
  induction r with
  | zero =>
    intro n k hk hn
    obtain ⟨n, rfl⟩ : ∃ m, n = m + 1 := ⟨n - 1, by omega⟩
    have e : k = 4 := by omega
    subst e
    exact pk_le 4 4 (fun _ => hp) (fun h => absurd h (by omega))
  | succ r ih =>
    intro n k hk hn
    obtain ⟨n, rfl⟩ : ∃ m, n = m + 1 := ⟨n - 1, by omega⟩
    have c1 : (nI k).toNatClampNeg = k := nI_clamp (by omega)
    have q := ih n (k + 1) (by omega) (by omega)
    exact pk_le 4 k (fun h => absurd h (by omega)) (fun _ => And.intro (vp_in_nI (by omega) (by decide)) (nm_r (e' := ll_cp (k + 1) nI en) (by rw [c1, ll_cp_s]) (nm_r (nI_1 k) q)))
theorem ly_in2 {post : SY → Prop} (hp : post (nl, nt, cl, se, vd, rc, op, ar, ln, ll_cp 4 nI en, so, ed, re, lv, ll_fl 8 hd (-1), ll_fl 8 hc 0, fp, fc, dp)) : ∀ (r n k : Nat), k + r = 4 → r < n → wY_init_155 post nl nt cl se vd rc n (nI k) op ar ln (ll_cp k nI en) so ed re lv hd hc fp fc dp := by
  intro r
  induction r with
  | zero =>
    intro n k hk hn
    obtain ⟨n, rfl⟩ : ∃ m, n = m + 1 := ⟨n - 1, by omega⟩
    have e : k = 4 := by omega
    subst e
    refine pk_le 4 4 (fun _ => ?_) (fun h => absurd h (by omega))
    exact ly_free hp
  | succ r ih =>
    intro n k hk hn
    obtain ⟨n, rfl⟩ : ∃ m, n = m + 1 := ⟨n - 1, by omega⟩
    have c1 : (nI k).toNatClampNeg = k := nI_clamp (by omega)
    have q := ih n (k + 1) (by omega) (by omega)
    exact pk_le 4 k (fun h => absurd h (by omega)) (fun _ => And.intro (vp_in_nI (by omega) (by decide)) (nm_r (e' := ll_cp (k + 1) nI en) (by rw [c1, ll_cp_s]) (nm_r (nI_1 k) q)))
theorem ll_CIu {L p n : Nat} {o a : Int32} (C : ll_CI L op ar ln) (hp8 : p < 8) (hl : ln p = nI n) (hn : n < 8) (hok : o = 0 ∨ (o = 1 ∧ ∃ b, b < L ∧ a = nI b) ∨ (o = 2 ∧ ∃ b, b < L ∧ a = nI b) ∨ (o = 3 ∧ ∃ b, p < b ∧ b < 8 ∧ a = nI b)) : ll_CI L (upd op (p * 8 + n) o) (upd ar (p * 8 + n) a) (upd ln p (nI (n + 1))) := by
  intro q hq
  obtain ⟨m, hm, hl', hcode⟩ := C q hq
  by_cases e : q = p
  · subst e
    have em : m = n := (nI_eq (by omega) (by omega)).mp (hl'.symm.trans hl)
    subst em
    refine ⟨m + 1, by omega, pk_us, fun i hi => ?_⟩
    by_cases x : i = m
    · rw [x, pk_us, pk_us]
      exact hok
    · rw [pk_un (show q * 8 + i ≠ q * 8 + m by omega), pk_un (show q * 8 + i ≠ q * 8 + m by omega)]
      exact hcode i (by omega)
  · refine ⟨m, hm, by rw [pk_un e]; exact hl', fun i hi => ?_⟩
    rw [pk_un (show q * 8 + i ≠ p * 8 + n by omega), pk_un (show q * 8 + i ≠ p * 8 + n by omega)]
    exact hcode i hi
theorem lx_em {post : Int32 → SX → Prop} {p n : Nat} {o g a : Int32} (hp8 : p < 8) (hl : ln p = nI n) (hn8 : n ≤ 8) (ho0 : ¬ o < 0) (ho3 : o ≤ 3) (hfit : ∀ post' : Int32 → Prop, post' 1 → wpX_argumentFits post' (nl, nt, cl, 0, vd, lk, op, ar, ln, en, so, lv, ed, pa, fp, fc, dp, hd, hc) (nI p) o g) (hoa : (o = 0 ∧ a = 0) ∨ (¬ o = 0 ∧ a = g)) (hfull : 8 ≤ n ∨ ¬ cl < 32 → post (-5) (nl, nt, cl, 0, vd, lk, op, ar, ln, en, so, lv, ed, pa, fp, fc, dp, hd, hc)) (hok : n < 8 → cl < 32 → post (nI n) (nl, nt, cl + 1, 0, vd, lk, upd op (p * 8 + n) o, upd ar (p * 8 + n) a, upd ln p (nI (n + 1)), en, so, lv, ed, pa, fp, fc, dp, hd, hc)) : wpX_emit post (nl, nt, cl, 0, vd, lk, op, ar, ln, en, so, lv, ed, pa, fp, fc, dp, hd, hc) (nI p) o g := by
  have c1 : (nI p).toNatClampNeg = p := nI_clamp (by omega)
  have hi : vp_in (nI p) 8 := vp_in_nI hp8 (by decide)
  refine br_t rfl (br_f (nI_pos (by omega)) (br_f (nI_ge (b := 8) hp8 (by decide)) (br_f ll_1n0 (br_f ho0 (br_t ho3 ?_)))))
  refine hfit _ ?_
  refine br_f ll_1n0 ⟨hi, nm_r (e' := nI n) (by rw [c1]; exact hl) (pk_le 8 n (fun h => hfull (Or.inl h)) (fun h => br_c (fun hcl => ?_) (fun hcl => hfull (Or.inr hcl))))⟩
  have hok' := hok h hcl
  have c2 : (nI (p * 8 + n)).toNatClampNeg = p * 8 + n := nI_clamp (by omega)
  have hz : vp_in (nI (p * 8 + n)) 64 := vp_in_nI (by omega) (by decide)
  refine nm_r (e' := nI (p * 8 + n)) (ll_cel p n) ⟨hz, nm_r (e' := upd op (p * 8 + n) o) (by rw [c2]) ?_⟩
  have fin : wX_emit_103 post (nI p) (nI n) a (nI (p * 8 + n)) nl nt cl 0 vd lk (upd op (p * 8 + n) o) ar ln en so lv ed pa fp fc dp hd hc :=
    And.intro hz (nm_r (e' := upd ar (p * 8 + n) a) (by rw [c2]) ⟨hi, nm_r (e' := upd ln p (nI (n + 1))) (by rw [c1, nI_1]) (nm_e hok')⟩)
  rcases hoa with ⟨h0, ha⟩ | ⟨h0, ha⟩
  · subst ha
    exact br_t h0 fin
  · subst ha
    exact br_f h0 fin
theorem ly_em {post : Int32 → SY → Prop} {p n : Nat} {o a : Int32} (hp8 : p < 8) (hl : ln p = nI n) (hn8 : n ≤ 8) (hfull : 8 ≤ n ∨ ¬ cl < 32 → post (-5) (nl, nt, cl, se, vd, rc, op, ar, ln, en, so, ed, re, lv, hd, hc, fp, fc, dp)) (hok : n < 8 → cl < 32 → post (nI n) (nl, nt, cl + 1, se, vd, rc, upd op (p * 8 + n) o, upd ar (p * 8 + n) a, upd ln p (nI (n + 1)), en, so, ed, re, lv, hd, hc, fp, fc, dp)) : wY_emit_84 post (nI p) o a nl nt cl se vd rc op ar ln en so ed re lv hd hc fp fc dp := by
  have c1 : (nI p).toNatClampNeg = p := nI_clamp (by omega)
  have hi : vp_in (nI p) 8 := vp_in_nI hp8 (by decide)
  refine And.intro hi (pk_le 8 n (fun h => hfull (Or.inl h)) (fun h => br_c (fun hcl => ?_) (fun hcl => hfull (Or.inr hcl))) rfl (by rw [c1]; exact hl))
  have hok' := hok h hcl
  have c2 : (nI (p * 8 + n)).toNatClampNeg = p * 8 + n := nI_clamp (by omega)
  have hz : vp_in (nI (p * 8 + n)) 64 := vp_in_nI (by omega) (by decide)
  refine ⟨hi, nm_r (e' := nI n) (by rw [c1]; exact hl) ?_⟩
  rw [ll_cel p n, c2, c1]
  exact ⟨hz, nm_e ⟨hz, nm_e ⟨hi, nm_r (e' := upd ln p (nI (n + 1))) (by rw [nI_1]) (nm_e hok')⟩⟩⟩
theorem ll_o4 {o : Int32} (h0 : ¬ o < 0) (h3 : o ≤ 3) : o = 0 ∨ o = 1 ∨ o = 2 ∨ o = 3 := by
  obtain ⟨j, hj, rfl⟩ := nI_of2 (n := 3) (by decide) h0 h3
  have : j = 0 ∨ j = 1 ∨ j = 2 ∨ j = 3 := by omega
  rcases this with rfl | rfl | rfl | rfl
  · exact Or.inl rfl
  · exact Or.inr (Or.inl rfl)
  · exact Or.inr (Or.inr (Or.inl rfl))
  · exact Or.inr (Or.inr (Or.inr rfl))
theorem ll_ge0 {T : Nat} {x : Int32} (hT : T < 2 ^ 31) (hx : nI T ≤ x) : ¬ x < 0 := fun q => nI_pos hT (Int32.lt_of_le_of_lt hx q)
theorem ll_gel {T : Nat} {x : Int32} (hx : nI T ≤ x) : ¬ x < nI T := fun q => Int32.lt_irrefl (Int32.lt_of_lt_of_le q hx)
theorem ll_7 {x : Int32} (h : (8 : Int32) ≤ x) : ¬ x ≤ 7 := fun q => absurd (Int32.le_trans h q) (by decide)
theorem ll_7n {p : Nat} (h : p < 8) : nI p ≤ 7 := nI_le (b := 7) (by omega) (by decide)
end
theorem i_vc0 (k0 : Int32) (k1 : Int32) : wpX_init (fun u => wpY_init (fun v => i_Rel 2 u v) k0 k1) k0 k1 := by
  obtain ⟨L, hL2, hL, cL⟩ := ll_clamp k0 2 8 (by omega) (by decide)
  obtain ⟨T, hT1, hT, cT⟩ := ll_clamp k1 1 4 (by omega) (by decide)
  have cLX : ∀ post : Int32 → Prop, post (nI L) → wpX_clamp post k0 2 8 := fun post hp => cL post hp
  have cTX : ∀ post : Int32 → Prop, post (nI T) → wpX_clamp post k1 1 4 := fun post hp => cT post hp
  unfold wpX_init
  refine cLX _ ?_
  refine cTX _ ?_
  refine ⟨5, ?_⟩
  refine ek_v (P := fun z => wX_init_148 _ (nI L) (nI T) 0 0 (-1) (-1) 5 0 (fun _ => 0) (fun _ => 0) (fun _ => 0) z (fun _ => 0) (fun _ => 0) (fun _ => 0) (fun _ => 0) (fun _ => 0) (fun _ => 0) (fun _ => 0) (fun _ => 0) (fun _ => 0)) (ll_cp_0 nI (fun _ => 0)).symm ?_
  refine lx_in2 ?_ 4 5 0 (by omega) (by omega)
  refine cL (fun z => wY_init_127 (fun v => i_Rel 2 _ v) k1 z 0 0 0 0 0 0 (fun _ => 0) (fun _ => 0) (fun _ => 0) (fun _ => 0) (fun _ => 0) (fun _ => 0) (fun _ => 0) (fun _ => 0) (fun _ => 0) (fun _ => 0) (fun _ => 0) (fun _ => 0) (fun _ => 0)) ?_
  refine cT (fun z => ∃ n, wY_init_155 (fun v => i_Rel 2 _ v) (nI L) z 0 0 0 0 n 0 (fun _ => 0) (fun _ => 0) (fun _ => 0) (fun _ => 0) (fun _ => 0) (fun _ => 0) (fun _ => 0) (fun _ => 0) (fun _ => 0) (fun _ => 0) (fun _ => 0) (fun _ => 0) (fun _ => 0)) ?_
  refine ⟨5, ?_⟩
  refine ek_v (P := fun z => wY_init_155 _ (nI L) (nI T) 0 0 0 0 5 0 (fun _ => 0) (fun _ => 0) (fun _ => 0) z (fun _ => 0) (fun _ => 0) (fun _ => 0) (fun _ => 0) (fun _ => 0) (fun _ => 0) (fun _ => 0) (fun _ => 0) (fun _ => 0)) (ll_cp_0 nI (fun _ => 0)).symm ?_
  refine ly_in2 ?_ 4 5 0 (by omega) (by omega)
  refine ⟨L, T, 0, 0, -1, -1, 0, _, _, _, _, _, _, _, _, _, _, _, _, _, _, _, _, _, rfl, rfl, hL2, hL, hT1, hT, ?_, ?_, ?_, Or.inl ⟨rfl, rfl, rfl, fun _ _ => rfl, fun _ _ => rfl, fun _ _ => rfl⟩⟩
  · exact fun p _ => ⟨0, by omega, rfl, fun i hi => absurd hi (by omega)⟩
  · exact fun t ht => ⟨t, by omega, ll_cp_t ht⟩
  · exact ⟨ll_B0, fun a b _ _ h => absurd rfl h⟩
theorem i_vc_emit {k : Nat} {u : SX} {v : SY} (I : i_Rel k u v) (hk : k + 4 ≤ 2050) (v1 : Int32) (v2 : Int32) (v3 : Int32) : wpX_emit (fun r u' => wpY_emit (fun r' v' => r' = r ∧ i_Rel (k + 4) u' v') v v1 v2 v3) u v1 v2 v3 := by
  have I0 := I
  obtain ⟨L, T, cl, se, vd, lk, vy, op, ar, ln, en, so, lv, ed, pa, fp, fc, dp, hd, hc, re, lw, hy, cy, rfl, rfl, hL2, hL, hT1, hT, C, hen, B, M⟩ := I
  rcases M with ⟨rfl, rfl, rfl, hlv, hlw, hdp⟩ | ⟨rfl, M⟩
  · rcases pk_ix v1 (n := 8) (by decide) with h1 | h1 | ⟨p, hp8, rfl⟩
    · exact br_t rfl (br_t h1 (br_t rfl (br_t rfl (br_t h1 ⟨rfl, I0⟩))))
    · have h0 := ll_ge0 (by decide) h1
      exact br_t rfl (br_f h0 (br_t h1 (br_t rfl (br_t rfl (br_f h0 (br_f (ll_7 h1) ⟨rfl, I0⟩))))))
    · have q1 : ¬ nI p < 0 := nI_pos (by omega)
      have q2 : ¬ 8 ≤ nI p := nI_ge (b := 8) hp8 (by decide)
      have q3 := ll_7n hp8
      by_cases h2 : v2 < 0
      · exact br_t rfl (br_f q1 (br_f q2 (br_f ll_1n0 (br_t h2 (br_t rfl (br_f q1 (br_t q3 (br_t h2 ⟨rfl, I0⟩))))))))
      · by_cases h3 : v2 ≤ 3
        · obtain ⟨n, hn8, hl, _⟩ := C p hp8
          have rel : ∀ a, (v2 = 0 ∨ (v2 = 1 ∧ ∃ b, b < L ∧ a = nI b) ∨ (v2 = 2 ∧ ∃ b, b < L ∧ a = nI b) ∨ (v2 = 3 ∧ ∃ b, p < b ∧ b < 8 ∧ a = nI b)) → n < 8 → i_Rel (k + 4) (nI L, nI T, cl + 1, 0, -1, -1, upd op (p * 8 + n) v2, upd ar (p * 8 + n) a, upd ln p (nI (n + 1)), en, so, lv, ed, pa, fp, fc, dp, hd, hc) (nI L, nI T, cl + 1, 0, vy, 0, upd op (p * 8 + n) v2, upd ar (p * 8 + n) a, upd ln p (nI (n + 1)), en, so, ed, re, lw, hy, cy, fp, fc, dp) := by
            intro a hok hn
            exact ⟨L, T, _, _, _, _, _, _, _, _, _, _, _, _, _, _, _, _, _, _, _, _, _, _, rfl, rfl, hL2, hL, hT1, hT, ll_CIu C hp8 hl hn hok, hen, B, Or.inl ⟨rfl, rfl, rfl, hlv, hlw, hdp⟩⟩
          have go : ∀ a, (v2 = 0 ∨ (v2 = 1 ∧ ∃ b, b < L ∧ a = nI b) ∨ (v2 = 2 ∧ ∃ b, b < L ∧ a = nI b) ∨ (v2 = 3 ∧ ∃ b, p < b ∧ b < 8 ∧ a = nI b)) → ((v2 = 0 ∧ a = 0) ∨ (¬ v2 = 0 ∧ a = v3)) → (∀ post' : Int32 → Prop, post' 1 → wpX_argumentFits post' (nI L, nI T, cl, 0, -1, -1, op, ar, ln, en, so, lv, ed, pa, fp, fc, dp, hd, hc) (nI p) v2 v3) → (∀ post : Int32 → SY → Prop, wY_emit_84 post (nI p) v2 a (nI L) (nI T) cl 0 vy 0 op ar ln en so ed re lw hy cy fp fc dp → wpY_emit post (nI L, nI T, cl, 0, vy, 0, op, ar, ln, en, so, ed, re, lw, hy, cy, fp, fc, dp) (nI p) v2 v3) → wpX_emit (fun r u' => wpY_emit (fun r' v' => r' = r ∧ i_Rel (k + 4) u' v') (nI L, nI T, cl, 0, vy, 0, op, ar, ln, en, so, ed, re, lw, hy, cy, fp, fc, dp) (nI p) v2 v3) (nI L, nI T, cl, 0, -1, -1, op, ar, ln, en, so, lv, ed, pa, fp, fc, dp, hd, hc) (nI p) v2 v3 := by
            intro a hok hoa hfit hY
            refine lx_em (a := a) hp8 hl hn8 h2 h3 hfit hoa (fun hf => hY _ (ly_em hp8 hl hn8 (fun _ => ⟨rfl, I0⟩) (fun z1 z2 => ?_))) (fun z1 z2 => hY _ (ly_em hp8 hl hn8 (fun hf => ?_) (fun _ _ => ⟨rfl, rel a hok z1⟩)))
            · rcases hf with hf | hf
              · omega
              · exact absurd z2 hf
            · rcases hf with hf | hf
              · omega
              · exact absurd z2 hf
          have no : (∀ post' : Int32 → Prop, post' 0 → wpX_argumentFits post' (nI L, nI T, cl, 0, -1, -1, op, ar, ln, en, so, lv, ed, pa, fp, fc, dp, hd, hc) (nI p) v2 v3) → (∀ post : Int32 → SY → Prop, post (-4) (nI L, nI T, cl, 0, vy, 0, op, ar, ln, en, so, ed, re, lw, hy, cy, fp, fc, dp) → wpY_emit post (nI L, nI T, cl, 0, vy, 0, op, ar, ln, en, so, ed, re, lw, hy, cy, fp, fc, dp) (nI p) v2 v3) → wpX_emit (fun r u' => wpY_emit (fun r' v' => r' = r ∧ i_Rel (k + 4) u' v') (nI L, nI T, cl, 0, vy, 0, op, ar, ln, en, so, ed, re, lw, hy, cy, fp, fc, dp) (nI p) v2 v3) (nI L, nI T, cl, 0, -1, -1, op, ar, ln, en, so, lv, ed, pa, fp, fc, dp, hd, hc) (nI p) v2 v3 := by
            intro hfit hY
            refine br_t rfl (br_f q1 (br_f q2 (br_f ll_1n0 (br_f h2 (br_t h3 ?_)))))
            exact hfit _ (br_t rfl (hY _ ⟨rfl, I0⟩))
          rcases ll_o4 h2 h3 with rfl | rfl | rfl | rfl
          · refine go 0 (Or.inl rfl) (Or.inl ⟨rfl, rfl⟩) (fun post' hp => br_t rfl hp) (fun post hp => br_t rfl (br_f q1 (br_t q3 (br_f h2 (br_t h3 (br_f (by decide) (br_f (by decide) (br_f (by decide) hp))))))))
          · rcases pk_ix v3 (n := L) (by omega) with g | g | ⟨b, hb, rfl⟩
            · exact no (fun post' hp => br_f (by decide) (br_f (by decide) (lx_lock0 (Or.inl g) ⟨rfl, hp⟩))) (fun post hp => br_t rfl (br_f q1 (br_t q3 (br_f h2 (br_t h3 (br_t rfl (br_t g hp)))))))
            · exact no (fun post' hp => br_f (by decide) (br_f (by decide) (lx_lock0 (Or.inr g) ⟨rfl, hp⟩))) (fun post hp => br_t rfl (br_f q1 (br_t q3 (br_f h2 (br_t h3 (br_t rfl (br_f (ll_ge0 (by omega) g) (br_f (ll_gel g) hp))))))))
            · exact go (nI b) (Or.inr (Or.inl ⟨rfl, b, hb, rfl⟩)) (Or.inr ⟨by decide, rfl⟩) (fun post' hp => br_f (by decide) (br_f (by decide) (lx_lock1 hb hL ⟨rfl, hp⟩))) (fun post hp => br_t rfl (br_f q1 (br_t q3 (br_f h2 (br_t h3 (br_t rfl (br_f (nI_pos (by omega)) (br_t (nI_lt hb (by omega)) hp))))))))
          · rcases pk_ix v3 (n := L) (by omega) with g | g | ⟨b, hb, rfl⟩
            · exact no (fun post' hp => br_f (by decide) (br_f (by decide) (lx_lock0 (Or.inl g) ⟨rfl, hp⟩))) (fun post hp => br_t rfl (br_f q1 (br_t q3 (br_f h2 (br_t h3 (br_f (by decide) (br_t rfl (br_t g hp))))))))
            · exact no (fun post' hp => br_f (by decide) (br_f (by decide) (lx_lock0 (Or.inr g) ⟨rfl, hp⟩))) (fun post hp => br_t rfl (br_f q1 (br_t q3 (br_f h2 (br_t h3 (br_f (by decide) (br_t rfl (br_f (ll_ge0 (by omega) g) (br_f (ll_gel g) hp)))))))))
            · exact go (nI b) (Or.inr (Or.inr (Or.inl ⟨rfl, b, hb, rfl⟩))) (Or.inr ⟨by decide, rfl⟩) (fun post' hp => br_f (by decide) (br_f (by decide) (lx_lock1 hb hL ⟨rfl, hp⟩))) (fun post hp => br_t rfl (br_f q1 (br_t q3 (br_f h2 (br_t h3 (br_f (by decide) (br_t rfl (br_f (nI_pos (by omega)) (br_t (nI_lt hb (by omega)) hp)))))))))
          · by_cases g : v3 ≤ nI p
            · exact no (fun post' hp => br_f (by decide) (br_t rfl (br_t g hp))) (fun post hp => br_t rfl (br_f q1 (br_t q3 (br_f h2 (br_t h3 (br_f (by decide) (br_f (by decide) (br_t rfl (br_t g hp)))))))))
            · by_cases g8 : 8 ≤ v3
              · exact no (fun post' hp => br_f (by decide) (br_t rfl (br_f g (br_t g8 hp)))) (fun post hp => br_t rfl (br_f q1 (br_t q3 (br_f h2 (br_t h3 (br_f (by decide) (br_f (by decide) (br_t rfl (br_f g (br_f (ll_7 g8) hp))))))))))
              · have g0 : ¬ v3 < 0 := fun q => g (Int32.le_of_lt (Int32.lt_of_lt_of_le q (nI_pos' (by omega))))
                obtain ⟨b, hb, rfl⟩ := ll_ix (n := 8) g0 g8 (by decide)
                have hpb : p < b := by
                  rw [nI_leI (by omega) (by omega)] at g
                  omega
                exact go (nI b) (Or.inr (Or.inr (Or.inr ⟨rfl, b, hpb, hb, rfl⟩))) (Or.inr ⟨by decide, rfl⟩) (fun post' hp => br_f (by decide) (br_t rfl (br_f g (br_f g8 hp)))) (fun post hp => br_t rfl (br_f q1 (br_t q3 (br_f h2 (br_t h3 (br_f (by decide) (br_f (by decide) (br_t rfl (br_f g (br_t (ll_7n hb) hp))))))))))
        · exact br_t rfl (br_f q1 (br_f q2 (br_f ll_1n0 (br_f h2 (br_f h3 (br_t rfl (br_f q1 (br_t q3 (br_f h2 (br_f h3 ⟨rfl, I0⟩))))))))))
  · exact br_f ll_1n0 (br_f ll_1n0 ⟨rfl, I0⟩)
theorem i_vc_setEntry {k : Nat} {u : SX} {v : SY} (I : i_Rel k u v) (hk : k + 4 ≤ 2050) (v1 : Int32) (v2 : Int32) : wpX_setEntry (fun r u' => wpY_setEntry (fun r' v' => r' = r ∧ i_Rel (k + 4) u' v') v v1 v2) u v1 v2 := by
  have I0 := I
  obtain ⟨L, T, cl, se, vd, lk, vy, op, ar, ln, en, so, lv, ed, pa, fp, fc, dp, hd, hc, re, lw, hy, cy, rfl, rfl, hL2, hL, hT1, hT, C, hen, B, M⟩ := I
  rcases M with ⟨rfl, rfl, rfl, M⟩ | ⟨rfl, M⟩
  · rcases pk_ix v1 (n := T) (by omega) with h1 | h1 | ⟨t, ht, rfl⟩
    · exact br_t rfl (lx_thr0 (Or.inl h1) (br_t rfl (br_t rfl (br_t h1 ⟨rfl, I0⟩))))
    · exact br_t rfl (lx_thr0 (Or.inr h1) (br_t rfl (br_t rfl (br_f (ll_ge0 (by omega) h1) (br_t h1 ⟨rfl, I0⟩)))))
    · have q1 : ¬ nI t < 0 := nI_pos (by omega)
      have q2 : ¬ nI T ≤ nI t := nI_ge ht (by omega)
      rcases pk_ix v2 (n := 8) (by decide) with h2 | h2 | ⟨p, hp8, rfl⟩
      · exact br_t rfl (lx_thr1 ht hT (br_f ll_1n0 (br_t h2 (br_t rfl (br_t rfl (br_f q1 (br_f q2 (br_t h2 ⟨rfl, I0⟩))))))))
      · have h0 := ll_ge0 (by decide) h2
        exact br_t rfl (lx_thr1 ht hT (br_f ll_1n0 (br_f h0 (br_t h2 (br_t rfl (br_t rfl (br_f q1 (br_f q2 (br_f h0 (br_f (ll_7 h2) ⟨rfl, I0⟩))))))))))
      · have c1 : (nI t).toNatClampNeg = t := nI_clamp (by omega)
        have hi : vp_in (nI t) 4 := vp_in_nI (by omega) (by decide)
        refine br_t rfl (lx_thr1 ht hT (br_f ll_1n0 (br_f (nI_pos (by omega)) (br_f (nI_ge (b := 8) hp8 (by decide)) (br_f ll_1n0 ⟨hi, nm_r (e' := upd en t (nI p)) (by rw [c1]) ?_⟩)))))
        refine br_t rfl (br_f q1 (br_f q2 (br_f (nI_pos (by omega)) (br_t (ll_7n hp8) ⟨hi, nm_r (e' := upd en t (nI p)) (by rw [c1]) ⟨rfl, ?_⟩⟩))))
        refine ⟨L, T, _, _, _, _, _, _, _, _, _, _, _, _, _, _, _, _, _, _, _, _, _, _, rfl, rfl, hL2, hL, hT1, hT, C, fun s hs => ?_, B, Or.inl ⟨rfl, rfl, rfl, M⟩⟩
        by_cases e : s = t
        · rw [e, pk_us]
          exact ⟨p, hp8, rfl⟩
        · rw [pk_un e]
          exact hen s hs
  · exact br_f ll_1n0 (br_f ll_1n0 ⟨rfl, I0⟩)
