/-! freeing, starting, the solo runs in lockstep -/
def ll_fl (L : Nat) (f : Nat → Int32) (x : Int32) : Nat → Int32 := fun j => if j < L then x else f j
def ll_EN (en : Nat → Int32) : Prop := ∀ t, t < 4 → ∃ p, p < 8 ∧ en t = nI p
def ll_EB (L : Nat) (ed : Nat → Int32) : Prop := ll_B ed ∧ ∀ a b, a < 8 → b < 8 → ¬ ed (a * 8 + b) = 0 → a < L ∧ b < L
section
variable {nl nt cl se vd lk rc vy : Int32} {op ar ln en so lv lw ed pa re fp fc dp hd hc hy cy fp' fc' dp' : Nat → Int32}
theorem ll_fl_s (f : Nat → Int32) (k : Nat) (x : Int32) : upd (ll_fl k f x) k x = ll_fl (k + 1) f x := by
  funext j
  by_cases e : j = k
  · rw [e, pk_us]
    exact (if_pos (by omega)).symm
  · rw [pk_un e]
    show (if j < k then x else f j) = (if j < k + 1 then x else f j)
    by_cases h : j < k
    · rw [if_pos h, if_pos (by omega)]
    · rw [if_neg h, if_neg (by omega)]
theorem ll_fl_0 (f : Nat → Int32) (x : Int32) : ll_fl 0 f x = f := by
  funext j
  exact if_neg (by omega)
theorem ll_fl_t {f : Nat → Int32} {L j : Nat} {x : Int32} (h : j < L) : ll_fl L f x j = x := if_pos h
theorem ll_fl_f {f : Nat → Int32} {L j : Nat} {x : Int32} (h : L ≤ j) : ll_fl L f x j = f j := if_neg (by omega)
theorem lx_free2 {post : SX → Prop} {L : Nat} (hL : L ≤ 8) (hp : post (nI L, nt, cl, se, vd, lk, op, ar, ln, en, so, lv, ed, pa, fp, fc, dp, ll_fl L hd (-1), ll_fl L hc 0)) : ∀ (r n k : Nat), k + r = L → r < n → wX_freeAllLocks_2 post (nI L) nt cl se vd lk n (nI k) op ar ln en so lv ed pa fp fc dp (ll_fl k hd (-1)) (ll_fl k hc 0) := by
  intro r
  induction r with
  | zero =>
    intro n k hk hn
    obtain ⟨n, rfl⟩ : ∃ m, n = m + 1 := ⟨n - 1, by omega⟩
    have e : k = L := by omega
    subst e
    exact pk_le k k (fun _ => hp) (fun h => absurd h (by omega))
  | succ r ih =>
    intro n k hk hn
    obtain ⟨n, rfl⟩ : ∃ m, n = m + 1 := ⟨n - 1, by omega⟩
    have c1 : (nI k).toNatClampNeg = k := nI_clamp (by omega)
    have q := ih n (k + 1) (by omega) (by omega)
    have hi : vp_in (nI k) 8 := vp_in_nI (by omega) (by decide)
    exact pk_le L k (fun h => absurd h (by omega)) (fun _ => And.intro hi (nm_r (e' := ll_fl (k + 1) hd (-1)) (by rw [c1, ll_fl_s]) ⟨hi, nm_r (e' := ll_fl (k + 1) hc 0) (by rw [c1, ll_fl_s]) (nm_r (nI_1 k) q)⟩))
theorem lx_free {post : SX → Prop} {L : Nat} (hL : L ≤ 8) (hp : post (nI L, nt, cl, se, vd, lk, op, ar, ln, en, so, lv, ed, pa, fp, fc, dp, ll_fl L hd (-1), ll_fl L hc 0)) : wpX_freeAllLocks post (nI L, nt, cl, se, vd, lk, op, ar, ln, en, so, lv, ed, pa, fp, fc, dp, hd, hc) := by
  have q := lx_free2 hL hp L (L + 1) 0 (by omega) (by omega)
  rw [ll_fl_0, ll_fl_0] at q
  exact ⟨L + 1, q⟩
theorem ly_free2 {post : SY → Prop} (hp : post (nl, nt, cl, se, vd, rc, op, ar, ln, en, so, ed, re, lv, ll_fl 8 hd (-1), ll_fl 8 hc 0, fp, fc, dp)) : ∀ (r n k : Nat), k + r = 8 → r < n → wY_freeLocks_2 post nl nt cl se vd rc n (nI k) op ar ln en so ed re lv (ll_fl k hd (-1)) (ll_fl k hc 0) fp fc dp := by
  intro r
  induction r with
  | zero =>
    intro n k hk hn
    obtain ⟨n, rfl⟩ : ∃ m, n = m + 1 := ⟨n - 1, by omega⟩
    have e : k = 8 := by omega
    subst e
    exact pk_le 8 8 (fun _ => hp) (fun h => absurd h (by omega))
  | succ r ih =>
    intro n k hk hn
    obtain ⟨n, rfl⟩ : ∃ m, n = m + 1 := ⟨n - 1, by omega⟩
    have c1 : (nI k).toNatClampNeg = k := nI_clamp (by omega)
    have q := ih n (k + 1) (by omega) (by omega)
    have hi : vp_in (nI k) 8 := vp_in_nI (by omega) (by decide)
    exact pk_le 8 k (fun h => absurd h (by omega)) (fun _ => And.intro hi (nm_r (e' := ll_fl (k + 1) hd (-1)) (by rw [c1, ll_fl_s]) ⟨hi, nm_r (e' := ll_fl (k + 1) hc 0) (by rw [c1, ll_fl_s]) (nm_r (nI_1 k) q)⟩))
theorem ly_free {post : SY → Prop} (hp : post (nl, nt, cl, se, vd, rc, op, ar, ln, en, so, ed, re, lv, ll_fl 8 hd (-1), ll_fl 8 hc 0, fp, fc, dp)) : wpY_freeLocks post (nl, nt, cl, se, vd, rc, op, ar, ln, en, so, ed, re, lv, hd, hc, fp, fc, dp) := by
  have q := ly_free2 hp 8 9 0 (by omega) (by omega)
  rw [ll_fl_0, ll_fl_0] at q
  exact ⟨9, q⟩
theorem ll_TOs {t p m : Nat} (hp8 : p < 8) (hl : ln p = nI m) (hm : m ≤ 8) : ll_TO ln (upd fp (t * 8) (nI p)) (upd fc (t * 8) 0) (upd dp t (nI (if 0 < m then 1 else 0))) t := by
  have f1 : upd fp (t * 8) (nI p) (t * 8 + 0) = nI p := pk_us
  have f2 : upd fc (t * 8) 0 (t * 8 + 0) = nI 0 := pk_us
  by_cases h : 0 < m
  · rw [if_pos h]
    refine ⟨1, by omega, pk_us, fun i hi => ?_, ll_sd_t f1 hp8 f2 hl h hm⟩
    have e : i = 0 := by omega
    subst e
    exact ⟨p, 0, m, f1, by omega, hp8, f2, hl, by omega, hm⟩
  · rw [if_neg h]
    exact ⟨0, by omega, pk_us, fun i hi => absurd hi (by omega), rfl⟩
theorem ll_TSs {T t p m : Nat} (S : ll_TS T ln fp fc dp) (ht : t < T) (hp8 : p < 8) (hl : ln p = nI m) (hm : m ≤ 8) : ll_TS T ln (upd fp (t * 8) (nI p)) (upd fc (t * 8) 0) (upd dp t (nI (if 0 < m then 1 else 0))) := by
  refine ⟨fun s hs => ?_, fun s hs h4 => ?_⟩
  · by_cases e : s = t
    · subst e
      exact ll_TOs hp8 hl hm
    · exact ll_TOo (S.1 s hs) (fun i hi => ⟨pk_un (by omega), pk_un (by omega)⟩) (pk_un e)
  · rw [pk_un (by omega)]
    exact S.2 s hs h4
theorem lm_reset {L T : Nat} (hT : T ≤ 4) (C : ll_CI L op ar ln) (hen : ll_EN en) : ∀ (r k : Nat) (fp fc dx dy : Nat → Int32), k + r = T → (∀ s, s < k → ll_TO ln fp fc dx s) → (∀ j, (j < k ∨ T ≤ j) → dy j = dx j) → (∀ j, T ≤ j → j < 4 → dx j = 0) →
    ∃ fp' fc' dp', ll_TS T ln fp' fc' dp' ∧ (∀ (post : SX → Prop) (nl cl se vd lk : Int32) (so lv ed pa hd hc : Nat → Int32) (n : Nat), r < n → post (nl, nI T, cl, se, vd, lk, op, ar, ln, en, so, lv, ed, pa, fp', fc', dp', hd, hc) → wX_resetMachine_6 post n (nI k) nl (nI T) cl se vd lk op ar ln en so lv ed pa fp fc dx hd hc) ∧ (∀ (post : SY → Prop) (nl cl se vy rc : Int32) (so ed re lw hy cy : Nat → Int32) (n : Nat), r < n → post (nl, nI T, cl, se, vy, rc, op, ar, ln, en, so, ed, re, lw, hy, cy, fp', fc', dp') → wY_restartMachine_26 post n (nI k) nl (nI T) cl se vy rc op ar ln en so ed re lw hy cy fp fc dy) := by
  intro r
  induction r with
  | zero =>
    intro k fp fc dx dy hk hs hj h0
    have e : k = T := by omega
    subst e
    have edy : dy = dx := funext (fun j => hj j (by omega))
    subst edy
    refine ⟨fp, fc, dy, ⟨hs, h0⟩, fun post nl cl se vd lk so lv ed pa hd hc n hn hp => ?_, fun post nl cl se vy rc so ed re lw hy cy n hn hp => ?_⟩
    · obtain ⟨n, rfl⟩ : ∃ m, n = m + 1 := ⟨n - 1, by omega⟩
      exact pk_le k k (fun _ => hp) (fun h => absurd h (by omega))
    · obtain ⟨n, rfl⟩ : ∃ m, n = m + 1 := ⟨n - 1, by omega⟩
      exact pk_le k k (fun _ => hp) (fun h => absurd h (by omega))
  | succ r ih =>
    intro k fp fc dx dy hk hs hj h0
    obtain ⟨p, hp8, he⟩ := hen k (by omega)
    obtain ⟨m, hm, hl, _⟩ := C p hp8
    obtain ⟨fp', fc', dp', S, hX, hY⟩ := ih (k + 1) (upd fp (k * 8) (nI p)) (upd fc (k * 8) 0) (upd dx k (nI (if 0 < m then 1 else 0))) (upd dy k (nI (if 0 < m then 1 else 0))) (by omega) (fun s hs' => by
        by_cases e : s = k
        · subst e
          exact ll_TOs hp8 hl hm
        · exact ll_TOo (hs s (by omega)) (fun i hi => ⟨pk_un (by omega), pk_un (by omega)⟩) (pk_un e)) (fun j hj' => by
        by_cases e : j = k
        · rw [e, pk_us, pk_us]
        · rw [pk_un e, pk_un e]
          exact hj j (by omega)) (fun j h1 h2 => by
        rw [pk_un (by omega)]
        exact h0 j h1 h2)
    refine ⟨fp', fc', dp', S, fun post nl cl se vd lk so lv ed pa hd hc n hn hp => ?_, fun post nl cl se vy rc so ed re lw hy cy n hn hp => ?_⟩
    · obtain ⟨n, rfl⟩ : ∃ m, n = m + 1 := ⟨n - 1, by omega⟩
      exact pk_le T k (fun h => absurd h (by omega)) (fun _ => lx_start (by omega) he hp8 hl hm (nm_r (nI_1 k) (hX post nl cl se vd lk so lv ed pa hd hc n (by omega) hp)))
    · obtain ⟨n, rfl⟩ : ∃ m, n = m + 1 := ⟨n - 1, by omega⟩
      exact pk_le T k (fun h => absurd h (by omega)) (fun _ => ly_start (by omega) he hp8 hl hm (nm_r (nI_1 k) (hY post nl cl se vy rc so ed re lw hy cy n (by omega) hp)))
theorem ly_zero {post : SY → Prop} {T : Nat} (hp : ∃ n, wY_restartMachine_26 post n 0 nl nt cl se vd rc op ar ln en so ed re lv hd hc fp fc (ll_fl 4 dp 0)) : ∀ (r n k : Nat), k + r = 4 → r < n → wY_restartMachine_6 post nl nt cl se vd rc n (nI k) op ar ln en so ed re lv hd hc fp fc (ll_fl k dp 0) := by
  intro r
  induction r with
  | zero =>
    intro n k hk hn
    obtain ⟨n, rfl⟩ : ∃ m, n = m + 1 := ⟨n - 1, by omega⟩
    have e : k = 4 := by omega
    subst e
    exact pk_le 4 4 (fun _ => hp) (fun h => absurd h (by omega))
  | succ r ih =>
    intro n k hk hn
    obtain ⟨n, rfl⟩ : ∃ m, n = m + 1 := ⟨n - 1, by omega⟩
    have c1 : (nI k).toNatClampNeg = k := nI_clamp (by omega)
    have q := ih n (k + 1) (by omega) (by omega)
    have hi : vp_in (nI k) 4 := vp_in_nI (by omega) (by decide)
    exact pk_le 4 k (fun h => absurd h (by omega)) (fun _ => And.intro hi (nm_r (e' := ll_fl (k + 1) dp 0) (by rw [c1, ll_fl_s]) (nm_r (nI_1 k) q)))
theorem lm_restart {L T : Nat} (hL : L ≤ 8) (hT : T ≤ 4) (C : ll_CI L op ar ln) (hen : ll_EN en) (S : ll_TS T ln fp fc dp) :
    ∃ fp' fc' dp', ll_TS T ln fp' fc' dp' ∧ (∀ (post : SX → Prop) (cl se vd lk : Int32) (so lv ed pa hd hc : Nat → Int32), post (nI L, nI T, cl, se, vd, lk, op, ar, ln, en, so, lv, ed, pa, fp', fc', dp', ll_fl L hd (-1), ll_fl L hc 0) → wpX_resetMachine post (nI L, nI T, cl, se, vd, lk, op, ar, ln, en, so, lv, ed, pa, fp, fc, dp, hd, hc)) ∧ (∀ (post : SY → Prop) (cl se vy rc : Int32) (so ed re lw hy cy : Nat → Int32), post (nI L, nI T, cl, se, vy, rc, op, ar, ln, en, so, ed, re, lw, ll_fl 8 hy (-1), ll_fl 8 cy 0, fp', fc', dp') → wpY_restartMachine post (nI L, nI T, cl, se, vy, rc, op, ar, ln, en, so, ed, re, lw, hy, cy, fp, fc, dp)) := by
  obtain ⟨fp', fc', dp', S', hX, hY⟩ := lm_reset hT C hen T 0 fp fc dp (ll_fl 4 dp 0) (by omega) (fun s hs => absurd hs (by omega)) (fun j hj => by
    by_cases h : j < 4
    · rw [ll_fl_t h, S.2 j (by omega) h]
    · rw [ll_fl_f (by omega)]) S.2
  refine ⟨fp', fc', dp', S', fun post cl se vd lk so lv ed pa hd hc hp => ?_, fun post cl se vy rc so ed re lw hy cy hp => ?_⟩
  · unfold wpX_resetMachine
    refine lx_free hL ⟨T + 1, ?_⟩
    exact hX post _ _ _ _ _ _ _ _ _ _ _ (T + 1) (by omega) hp
  · unfold wpY_restartMachine
    refine ly_free ⟨5, ?_⟩
    have q := ly_zero (T := T) (post := post) ⟨T + 1, hY post (nI L) cl se vy rc so ed re lw (ll_fl 8 hy (-1)) (ll_fl 8 cy 0) (T + 1) (by omega) hp⟩ 4 5 0 (by omega) (by omega)
    rw [ll_fl_0] at q
    exact q
theorem ll_LKf {L T : Nat} (hL : L ≤ 8) : ll_LK L T (ll_fl L hd (-1)) (ll_fl L hc 0) (ll_fl 8 hy (-1)) (ll_fl 8 cy 0) := by
  refine ⟨fun l hl => ?_, fun l hl h8 => ll_fl_t h8⟩
  rw [ll_fl_t hl, ll_fl_t hl, ll_fl_t (by omega), ll_fl_t (by omega)]
  exact ⟨rfl, rfl, Or.inl ⟨rfl, rfl⟩⟩
theorem ll_SKf {L t : Nat} (hL : L ≤ 8) : ll_SK L t 0 (ll_fl L hd (-1)) (ll_fl L hc 0) (ll_fl 8 hy (-1)) (ll_fl 8 cy 0) := by
  refine ⟨fun l hl => ?_, fun l hl h8 => ll_fl_t h8⟩
  rw [ll_fl_t hl, ll_fl_t hl, ll_fl_t (by omega), ll_fl_t (by omega)]
  exact ⟨rfl, rfl, Or.inl ⟨rfl, rfl⟩⟩
theorem ll_EBu {L k a : Nat} (h : ll_EB L ed) (hL : L ≤ 8) (hk : k < L) (ha : a < L) : ll_EB L (upd ed (k * 8 + a) 1) := by
  refine ⟨ll_Bu h.1 _ (Or.inr rfl), fun x y hx hy hne => ?_⟩
  by_cases e : x * 8 + y = k * 8 + a
  · exact ⟨by omega, by omega⟩
  · rw [pk_un e] at hne
    exact h.2 x y hx hy hne
theorem ll_EBa {L a : Nat} {t : Int32} (h : ll_EB L ed) (hL : L ≤ 8) (ha : a < L) : ∀ k, k ≤ L → ll_EB L (ll_ae hd t a k ed) := by
  intro k
  induction k with
  | zero => intro _; exact h
  | succ k ih =>
    intro hk
    by_cases z : hd k = t
    · have e : ll_ae hd t a (k + 1) ed = upd (ll_ae hd t a k ed) (k * 8 + a) 1 := if_pos z
      rw [e]
      exact ll_EBu (ih (by omega)) hL (by omega) ha
    · have e : ll_ae hd t a (k + 1) ed = ll_ae hd t a k ed := if_neg z
      rw [e]
      exact ih (by omega)
theorem ly_idle {post : SY → Prop} {t : Nat} {x : Int32} (ht : t < 4) (hdp : dp t = nI 0) (hp : post (nl, nt, cl, se, vd, rc, op, ar, ln, en, upd so t x, ed, re, lv, hd, hc, fp, fc, dp)) : ∀ (r n k : Nat), k + r = 513 → r < n → wY_soloRun_13 post (nI t) n x (nI k) nl nt cl se vd rc op ar ln en so ed re lv hd hc fp fc dp := by
  have ht1 : vp_in (nI t) 4 := vp_in_nI ht (by decide)
  have c3 : (nI t).toNatClampNeg = t := nI_clamp (by omega)
  intro r
  induction r with
  | zero =>
    intro n k hk hn
    obtain ⟨n, rfl⟩ : ∃ m, n = m + 1 := ⟨n - 1, by omega⟩
    have e : k = 513 := by omega
    subst e
    exact pk_le 513 513 (fun _ => And.intro ht1 (nm_r (e' := upd so t x) (by rw [c3]) hp)) (fun h => absurd h (by omega))
  | succ r ih =>
    intro n k hk hn
    obtain ⟨n, rfl⟩ : ∃ m, n = m + 1 := ⟨n - 1, by omega⟩
    exact pk_le 513 k (fun h => absurd h (by omega)) (fun _ => And.intro ht1 (pk_le 0 0 (fun _ => nm_r (nI_1 k) (ih n (k + 1) (by omega) (by omega))) (fun h => absurd h (by omega)) (by rw [c3]; exact hdp)))
theorem lm_solo {L T t : Nat} (hL : L ≤ 8) (hT : T ≤ 4) (ht : t < T) (C : ll_CI L op ar ln) : ∀ (r k : Nat) (fp fc dp hd hc hy cy ed : Nat → Int32), k + r = 513 → ll_TS T ln fp fc dp → ll_SK L t k hd hc hy cy → ll_EB L ed →
    ∃ fp' fc' dp' hd' hc' hy' cy' ed' m, m ≤ 513 ∧ ll_TS T ln fp' fc' dp' ∧ ll_EB L ed' ∧ (∀ (post : Int32 → SX → Prop) (n : Nat), r < n → post (nI m) (nI L, nt, cl, se, vd, lk, op, ar, ln, en, so, lv, ed', pa, fp', fc', dp', hd', hc') → wX_runAlone_11 post (nI t) n (nI k) (nI L) nt cl se vd lk op ar ln en so lv ed pa fp fc dp hd hc) ∧ (∀ (post : SY → Prop) (n : Nat), r < n → post (nI L, nt, cl, se, vy, 1, op, ar, ln, en, upd so t (nI m), ed', re, lw, hy', cy', fp', fc', dp') → wY_soloRun_13 post (nI t) n (nI k) (nI k) (nI L) nt cl se vy 1 op ar ln en so ed re lw hy cy fp fc dp) := by
  have ht4 : t < 4 := by omega
  have ht1 : vp_in (nI t) 4 := vp_in_nI ht4 (by decide)
  have c3 : (nI t).toNatClampNeg = t := nI_clamp (by omega)
  intro r
  induction r with
  | zero =>
    intro k fp fc dp hd hc hy cy ed hk S K B
    have e : k = 513 := by omega
    subst e
    refine ⟨fp, fc, dp, hd, hc, hy, cy, ed, 513, Nat.le_refl _, S, B, fun post n hn hp => ?_, fun post n hn hp => ?_⟩
    · obtain ⟨n, rfl⟩ : ∃ m, n = m + 1 := ⟨n - 1, by omega⟩
      exact pk_lt 512 513 (fun _ => hp) (fun h => absurd h (by omega))
    · obtain ⟨n, rfl⟩ : ∃ m, n = m + 1 := ⟨n - 1, by omega⟩
      exact pk_le 513 513 (fun _ => And.intro ht1 (nm_r (e' := upd so t (nI 513)) (by rw [c3]) hp)) (fun h => absurd h (by omega))
  | succ r ih =>
    intro k fp fc dp hd hc hy cy ed hk S K B
    obtain ⟨d, hd8, hdp, hF, hsd⟩ := S.1 t ht
    cases d with
    | zero =>
      refine ⟨fp, fc, dp, hd, hc, hy, cy, ed, k, by omega, S, B, fun post n hn hp => ?_, fun post n hn hp => ?_⟩
      · obtain ⟨n, rfl⟩ : ∃ m, n = m + 1 := ⟨n - 1, by omega⟩
        exact pk_lt 512 k (fun h => absurd h (by omega)) (fun _ => lx_isDone ht4 hdp (by omega) (fun _ => br_f (by decide) hp) (fun h => absurd rfl h))
      · exact ly_idle ht4 hdp hp (r + 1) n k hk hn
    | succ e =>
      obtain ⟨fp1, fc1, dp1, hd1, hc1, hy1, cy1, ed1, S1, K1, E1, hA, hX, hY⟩ := lm_solo1 (nt := nt) (cl := cl) (se := se) (vd := vd) (lk := lk) (vy := vy) (en := en) (so := so) (lv := lv) (lw := lw) (ed := ed) (pa := pa) (re := re) hL hT (show k ≤ 600 by omega) ht C S K hdp (by omega)
      have B1 : ll_EB L ed1 := by
        rcases E1 with q | ⟨a, ha, q⟩
        · rw [q]; exact B
        · rw [q]; exact ll_EBa B hL ha L (Nat.le_refl _)
      obtain ⟨fp', fc', dp', hd', hc', hy', cy', ed', m, hm, S', B', gX, gY⟩ := ih (k + 1) fp1 fc1 dp1 hd1 hc1 hy1 cy1 ed1 (by omega) S1 K1 B1
      refine ⟨fp', fc', dp', hd', hc', hy', cy', ed', m, hm, S', B', fun post n hn hp => ?_, fun post n hn hp => ?_⟩
      · obtain ⟨n, rfl⟩ : ∃ m, n = m + 1 := ⟨n - 1, by omega⟩
        refine pk_lt 512 k (fun h => absurd h (by omega)) (fun _ => lx_isDone ht4 hdp (by omega) (fun h => absurd h (by omega)) (fun _ => br_t rfl ?_))
        exact hA _ (hX _ (nm_r (nI_1 k) (gX post n (by omega) hp)))
      · obtain ⟨n, rfl⟩ : ∃ m, n = m + 1 := ⟨n - 1, by omega⟩
        refine pk_le 513 k (fun h => absurd h (by omega)) (fun _ => And.intro ht1 (pk_le (e + 1) 0 (fun h => absurd h (by omega)) (fun _ => ?_) (by rw [c3]; exact hdp)))
        exact hY _ (nm_r (nI_1 k) (nm_r (nI_1 k) (gY post n (by omega) hp)))
theorem lm_alone {L T t : Nat} (hL : L ≤ 8) (hT : T ≤ 4) (ht : t < T) (C : ll_CI L op ar ln) (hen : ll_EN en) (S : ll_TS T ln fp fc dp) (B : ll_EB L ed) :
    ∃ fp' fc' dp' hd' hc' hy' cy' ed' m, m ≤ 513 ∧ ll_TS T ln fp' fc' dp' ∧ ll_EB L ed' ∧ (∀ (post : Int32 → SX → Prop), post (nI m) (nI L, nt, cl, se, vd, lk, op, ar, ln, en, so, lv, ed', pa, fp', fc', dp', hd', hc') → wpX_runAlone post (nI L, nt, cl, se, vd, lk, op, ar, ln, en, so, lv, ed, pa, fp, fc, dp, hd, hc) (nI t)) ∧ (∀ (post : SY → Prop), post (nI L, nt, cl, se, vy, 1, op, ar, ln, en, upd so t (nI m), ed', re, lw, hy', cy', fp', fc', dp') → wpY_soloRun post (nI L, nt, cl, se, vy, 1, op, ar, ln, en, so, ed, re, lw, hy, cy, fp, fc, dp) (nI t)) := by
  obtain ⟨p, hp8, he⟩ := hen t (by omega)
  obtain ⟨m0, hm0, hl, _⟩ := C p hp8
  obtain ⟨fp', fc', dp', hd', hc', hy', cy', ed', m, hm, S', B', gX, gY⟩ := lm_solo (nt := nt) (cl := cl) (se := se) (vd := vd) (lk := lk) (vy := vy) (en := en) (so := so) (lv := lv) (lw := lw) (pa := pa) (re := re) hL hT ht C 513 0 _ _ _ _ _ _ _ ed (by omega) (ll_TSs S ht hp8 hl hm0) (ll_SKf (hd := hd) (hc := hc) (hy := hy) (cy := cy) hL) B
  refine ⟨fp', fc', dp', hd', hc', hy', cy', ed', m, hm, S', B', fun post hp => ?_, fun post hp => ?_⟩
  · unfold wpX_runAlone
    exact lx_free hL (lx_start (by omega) he hp8 hl hm0 ⟨514, gX post 514 (by omega) hp⟩)
  · unfold wpY_soloRun
    exact ly_free (ly_start (by omega) he hp8 hl hm0 ⟨514, gY post 514 (by omega) hp⟩)
theorem lm_checks {L T : Nat} (hL : L ≤ 8) (hT : T ≤ 4) (C : ll_CI L op ar ln) (hen : ll_EN en) : ∀ (r k : Nat) (so fp fc dp hd hc hy cy ed : Nat → Int32), k + r = T → ll_TS T ln fp fc dp → ll_EB L ed → (∀ s, s < k → ∃ m, m ≤ 513 ∧ so s = nI m) →
    ∃ so' fp' fc' dp' hd' hc' hy' cy' ed', ll_TS T ln fp' fc' dp' ∧ ll_EB L ed' ∧ (∀ s, s < T → ∃ m, m ≤ 513 ∧ so' s = nI m) ∧ (∀ (post : Int32 → SX → Prop) (n : Nat), r < n → (∀ n', wX_check_14 post (n' + 1) (nI T) (nI L) (nI T) cl se vd lk op ar ln en so' lv ed' pa fp' fc' dp' hd' hc') → wX_check_14 post n (nI k) (nI L) (nI T) cl se vd lk op ar ln en so lv ed pa fp fc dp hd hc) ∧ (∀ (post : Int32 → SY → Prop) (n : Nat), r < n → (∀ n', wY_check_24 post (n' + 1) (nI T) (nI L) (nI T) cl se vy 1 op ar ln en so' ed' re lw hy' cy' fp' fc' dp') → wY_check_24 post n (nI k) (nI L) (nI T) cl se vy 1 op ar ln en so ed re lw hy cy fp fc dp) := by
  intro r
  induction r with
  | zero =>
    intro k so fp fc dp hd hc hy cy ed hk S B hso
    have e : k = T := by omega
    subst e
    refine ⟨so, fp, fc, dp, hd, hc, hy, cy, ed, S, B, hso, fun post n hn hp => ?_, fun post n hn hp => ?_⟩
    · obtain ⟨n, rfl⟩ : ∃ m, n = m + 1 := ⟨n - 1, by omega⟩
      exact hp n
    · obtain ⟨n, rfl⟩ : ∃ m, n = m + 1 := ⟨n - 1, by omega⟩
      exact hp n
  | succ r ih =>
    intro k so fp fc dp hd hc hy cy ed hk S B hso
    have c1 : (nI k).toNatClampNeg = k := nI_clamp (by omega)
    obtain ⟨fp1, fc1, dp1, hd1, hc1, hy1, cy1, ed1, m1, hm1, S1, B1, hX, hY⟩ := lm_alone (t := k) (nt := nI T) (cl := cl) (se := se) (vd := vd) (lk := lk) (vy := vy) (so := so) (lv := lv) (lw := lw) (pa := pa) (re := re) (hd := hd) (hc := hc) (hy := hy) (cy := cy) hL hT (by omega) C hen S B
    obtain ⟨so', fp', fc', dp', hd', hc', hy', cy', ed', S', B', hso', gX, gY⟩ := ih (k + 1) (upd so k (nI m1)) fp1 fc1 dp1 hd1 hc1 hy1 cy1 ed1 (by omega) S1 B1 (fun s hs => by
      by_cases e : s = k
      · subst e
        exact ⟨m1, hm1, pk_us⟩
      · rw [pk_un e]
        exact hso s (by omega))
    refine ⟨so', fp', fc', dp', hd', hc', hy', cy', ed', S', B', hso', fun post n hn hp => ?_, fun post n hn hp => ?_⟩
    · obtain ⟨n, rfl⟩ : ∃ m, n = m + 1 := ⟨n - 1, by omega⟩
      refine pk_le T k (fun h => absurd h (by omega)) (fun _ => hX _ ?_)
      exact And.intro (vp_in_nI (by omega) (by decide)) (nm_r (e' := upd so k (nI m1)) (by rw [c1]) (nm_r (nI_1 k) (gX post n (by omega) hp)))
    · obtain ⟨n, rfl⟩ : ∃ m, n = m + 1 := ⟨n - 1, by omega⟩
      refine pk_le T k (fun h => absurd h (by omega)) (fun _ => hY _ ?_)
      exact nm_r (nI_1 k) (gY post n (by omega) hp)
end
