/-! the solo runs, the verdict, the machine's start -/
def tk_MI (L T : Nat) (op ar ln en ed fp fc dp hd hc : Nat → Int32) : Prop :=
  ll_TS T ln fp fc dp ∧ (∀ l, l < L → (hd l = -1 ∧ hc l = 0) ∨ ∃ s, s < T ∧ hd l = nI s) ∧ (∀ t, t < T → ∃ k n, k ≤ n ∧ n ≤ 512 ∧ (tk_T op ar ln en t n).1 = [] ∧ (∀ j, j < n → tk_EC L op ar ed (tk_T op ar ln en t j)) ∧ tk_TR L t (tk_T op ar ln en t k) fp fc dp hd hc)
/-- not sealed -/
def tk_U (L T : Nat) (u : St2) : Prop :=
  ∃ (cl : Int32) (op ar ln en so lv ed pa fp fc dp hd hc : Nat → Int32), u = (nI L, nI T, cl, 0, -1, -1, op, ar, ln, en, so, lv, ed, pa, fp, fc, dp, hd, hc) ∧ ll_CI L op ar ln ∧ ll_EN en ∧ ll_EB L ed ∧ (∀ j, j < 8 → lv j = 0) ∧ (∀ t, t < 4 → dp t = 0)
/-- accepted -/
def tk_G (L T : Nat) (u : St2) : Prop :=
  ∃ (cl lk : Int32) (op ar ln en so lv ed pa fp fc dp hd hc : Nat → Int32) (lev : Nat → Nat), u = (nI L, nI T, cl, 1, 0, lk, op, ar, ln, en, so, lv, ed, pa, fp, fc, dp, hd, hc) ∧ ll_CI L op ar ln ∧ ll_EN en ∧ (∀ j, j < 8 → lv j = nI (lev j) ∧ lev j ≤ 8) ∧ (∀ a b, a < L → b < L → ¬ ed (a * 8 + b) = 0 → lev a < lev b) ∧ tk_MI L T op ar ln en ed fp fc dp hd hc
theorem tk_stle (ln : Nat → Int32) : ∀ s, (tk_stl ln s).length ≤ s.length := by
  intro s
  induction s with
  | nil => exact Nat.le_refl _
  | cons y s ih =>
    obtain ⟨p, c⟩ := y
    by_cases h : c < (ln p).toNatClampNeg
    · have q : tk_stl ln ((p, c) :: s) = (p, c) :: s := if_pos h
      rw [q]
      exact Nat.le_refl _
    · have q : tk_stl ln ((p, c) :: s) = tk_stl ln s := if_neg h
      rw [q, List.length_cons]
      omega
section
variable {nl nt cl se vd lk : Int32} {op ar ln en so lv ed pa fp fc dp hd hc fp' fc' dp' hd' hc' : Nat → Int32}
theorem tk_lb (t : Nat) : ∀ k, (tk_T op ar ln en t k).1.length ≤ k + 1 := by
  intro k
  induction k with
  | zero => exact tk_stle ln [((en t).toNatClampNeg, 0)]
  | succ k ih =>
    show (tk_nx op ar ln (tk_T op ar ln en t k)).1.length ≤ k + 1 + 1
    generalize tk_T op ar ln en t k = x at ih
    obtain ⟨s, q⟩ := x
    cases s with
    | nil => exact Nat.zero_le _
    | cons y s =>
      obtain ⟨p, c⟩ := y
      have h : s.length + 1 ≤ k + 1 := ih
      have g1 := tk_stle ln ((p, c + 1) :: s)
      have g2 := tk_stle ln (((ar (p * 8 + c)).toNatClampNeg, 0) :: (p, c + 1) :: s)
      rw [List.length_cons] at g1
      rw [List.length_cons, List.length_cons] at g2
      by_cases o1 : op (p * 8 + c) = 1
      · have e : tk_nx op ar ln ((p, c) :: s, q) = (tk_stl ln ((p, c + 1) :: s), tk_up q (ar (p * 8 + c)).toNatClampNeg) := if_pos o1
        rw [e]
        show (tk_stl ln ((p, c + 1) :: s)).length ≤ k + 1 + 1
        omega
      · by_cases o2 : op (p * 8 + c) = 2
        · have e : tk_nx op ar ln ((p, c) :: s, q) = (tk_stl ln ((p, c + 1) :: s), tk_dn q (ar (p * 8 + c)).toNatClampNeg) := (if_neg o1).trans (if_pos o2)
          rw [e]
          show (tk_stl ln ((p, c + 1) :: s)).length ≤ k + 1 + 1
          omega
        · by_cases o3 : op (p * 8 + c) = 3
          · have e : tk_nx op ar ln ((p, c) :: s, q) = (tk_stl ln (((ar (p * 8 + c)).toNatClampNeg, 0) :: (p, c + 1) :: s), q) := (if_neg o1).trans ((if_neg o2).trans (if_pos o3))
            rw [e]
            show (tk_stl ln (((ar (p * 8 + c)).toNatClampNeg, 0) :: (p, c + 1) :: s)).length ≤ k + 1 + 1
            omega
          · have e : tk_nx op ar ln ((p, c) :: s, q) = (tk_stl ln ((p, c + 1) :: s), q) := (if_neg o1).trans ((if_neg o2).trans (if_neg o3))
            rw [e]
            show (tk_stl ln ((p, c + 1) :: s)).length ≤ k + 1 + 1
            omega
theorem tk_l8 {L T t k : Nat} (hk : k ≤ 600) (S : ll_TS T ln fp fc dp) (ht : t < T) (R : tk_TR L t (tk_T op ar ln en t k) fp fc dp hd hc) : (tk_T op ar ln en t k).1.length ≤ 8 := by
  have := tk_lb (op := op) (ar := ar) (ln := ln) (en := en) t k
  exact tk_len S ht (by omega) R
theorem tk_TR0 {t p m : Nat} (he : en t = nI p) (hp8 : p < 8) (hl : ln p = nI m) (hm : m ≤ 8) : upd dp t (nI (if 0 < m then 1 else 0)) t = nI (tk_T op ar ln en t 0).1.length ∧ tk_RS (upd fp (t * 8) (nI p)) (upd fc (t * 8) 0) (t * 8) (tk_T op ar ln en t 0).1 := by
  have e : (tk_T op ar ln en t 0).1 = tk_stl ln [(p, 0)] := by
    show tk_stl ln [((en t).toNatClampNeg, 0)] = _
    rw [he, nI_clamp (by omega)]
  have hn : (ln p).toNatClampNeg = m := by rw [hl]; exact nI_clamp (by omega)
  rw [e, pk_us]
  by_cases h : 0 < m
  · have q : tk_stl ln [(p, 0)] = [(p, 0)] := if_pos (by rw [hn]; exact h)
    rw [q, if_pos h]
    exact ⟨rfl, hp8, by omega, pk_us, pk_us, trivial⟩
  · have q : tk_stl ln [(p, 0)] = [] := if_neg (by rw [hn]; exact h)
    rw [q, if_neg h]
    exact ⟨rfl, trivial⟩
theorem tx_solo {L T t : Nat} (hL : L ≤ 8) (hT : T ≤ 4) (ht : t < T) (C : ll_CI L op ar ln) : ∀ (r k : Nat) (fp fc dp hd hc ed : Nat → Int32), k + r = 513 → ll_TS T ln fp fc dp → tk_TR L t (tk_T op ar ln en t k) fp fc dp hd hc → (∀ l, l < L → hd l = nI t ∨ (hd l = -1 ∧ hc l = 0)) → ll_EB L ed → (∀ j, j < k → tk_EC L op ar ed (tk_T op ar ln en t j)) →
    ∃ fp' fc' dp' hd' hc' ed' m, m ≤ 513 ∧ ll_TS T ln fp' fc' dp' ∧ ll_EB L ed' ∧ (∀ j, ¬ ed j = 0 → ¬ ed' j = 0) ∧ (∀ j, j < m → tk_EC L op ar ed' (tk_T op ar ln en t j)) ∧ (m ≤ 512 → (tk_T op ar ln en t m).1 = []) ∧ (∀ (post : Int32 → St2 → Prop) (n : Nat), r < n → post (nI m) (nI L, nt, cl, se, vd, lk, op, ar, ln, en, so, lv, ed', pa, fp', fc', dp', hd', hc') → wX_runAlone_11 post (nI t) n (nI k) (nI L) nt cl se vd lk op ar ln en so lv ed pa fp fc dp hd hc) := by
  have ht4 : t < 4 := by omega
  intro r
  induction r with
  | zero =>
    intro k fp fc dp hd hc ed hk S R K B E
    have e : k = 513 := by omega
    subst e
    refine ⟨fp, fc, dp, hd, hc, ed, 513, Nat.le_refl _, S, B, fun _ h => h, E, fun h => absurd h (by omega), fun post n hn hp => ?_⟩
    obtain ⟨n, rfl⟩ : ∃ m, n = m + 1 := ⟨n - 1, by omega⟩
    exact pk_lt 512 513 (fun _ => hp) (fun h => absurd h (by omega))
  | succ r ih =>
    intro k fp fc dp hd hc ed hk S R K B E
    have hlen := tk_l8 (by omega) S ht R
    by_cases z : (tk_T op ar ln en t k).1 = []
    · have hdp : dp t = nI 0 := by
        have := R.1
        rw [z] at this
        exact this
      refine ⟨fp, fc, dp, hd, hc, ed, k, by omega, S, B, fun _ h => h, E, fun _ => z, fun post n hn hp => ?_⟩
      obtain ⟨n, rfl⟩ : ∃ m, n = m + 1 := ⟨n - 1, by omega⟩
      exact pk_lt 512 k (fun h => absurd h (by omega)) (fun _ => lx_isDone ht4 hdp (by omega) (fun _ => br_f (by decide) hp) (fun h => absurd rfl h))
    · have hl0 : (tk_T op ar ln en t k).1.length ≠ 0 := fun q => z (List.eq_nil_of_length_eq_zero q)
      obtain ⟨ed1, B1, M1, E1, aX⟩ := tx_add (nt := nt) (cl := cl) (se := se) (vd := vd) (lk := lk) (en := en) (so := so) (lv := lv) (pa := pa) hL hT ht C S R hlen z B
      obtain ⟨fp1, fc1, dp1, hd1, hc1, S1, R1, _, ch, eX⟩ := tx_exec (nl := nI L) (nt := nt) (cl := cl) (se := se) (vd := vd) (lk := lk) (en := en) (so := so) (lv := lv) (ed := ed1) (pa := pa) hL hT ht C S R hlen (fun l => by have := tk_b (op := op) (ar := ar) (ln := ln) (en := en) t k l; omega) z (fun p c s a _ _ _ haL => K a haL)
      obtain ⟨fp', fc', dp', hd', hc', ed', m, hm, S', B', M', E', hz, gX⟩ := ih (k + 1) fp1 fc1 dp1 hd1 hc1 ed1 (by omega) S1 R1 (fun l hl => by
        rcases ch l hl with ⟨h1, h2⟩ | ⟨_, h⟩
        · rw [h1, h2]; exact K l hl
        · exact h) B1 (fun j hj => by
        by_cases x : j = k
        · rw [x]; exact E1
        · exact tk_ECm (E j (by omega)) M1)
      refine ⟨fp', fc', dp', hd', hc', ed', m, hm, S', B', fun j h => M' j (M1 j h), E', hz, fun post n hn hp => ?_⟩
      obtain ⟨n, rfl⟩ : ∃ m, n = m + 1 := ⟨n - 1, by omega⟩
      refine pk_lt 512 k (fun h => absurd h (by omega)) (fun _ => lx_isDone ht4 R.1 hlen (fun h => absurd h hl0) (fun _ => br_t rfl ?_))
      exact aX _ (eX _ (nm_r (nI_1 k) (gX post n (by omega) hp)))
theorem tx_alone {L T t : Nat} (hL : L ≤ 8) (hT : T ≤ 4) (ht : t < T) (C : ll_CI L op ar ln) (hen : ll_EN en) (S : ll_TS T ln fp fc dp) (B : ll_EB L ed) :
    ∃ fp' fc' dp' hd' hc' ed' m, m ≤ 513 ∧ ll_TS T ln fp' fc' dp' ∧ ll_EB L ed' ∧ (∀ j, ¬ ed j = 0 → ¬ ed' j = 0) ∧ (∀ j, j < m → tk_EC L op ar ed' (tk_T op ar ln en t j)) ∧ (m ≤ 512 → (tk_T op ar ln en t m).1 = []) ∧ (∀ (post : Int32 → St2 → Prop), post (nI m) (nI L, nt, cl, se, vd, lk, op, ar, ln, en, so, lv, ed', pa, fp', fc', dp', hd', hc') → wpX_runAlone post (nI L, nt, cl, se, vd, lk, op, ar, ln, en, so, lv, ed, pa, fp, fc, dp, hd, hc) (nI t)) := by
  obtain ⟨p, hp8, he⟩ := hen t (by omega)
  obtain ⟨m0, hm0, hl, _⟩ := C p hp8
  have R0 := tk_TR0 (op := op) (ar := ar) (fp := fp) (fc := fc) (dp := dp) he hp8 hl hm0
  have ne1 : ¬ (-1 : Int32) = nI t := ll_m1 t (by omega)
  obtain ⟨fp', fc', dp', hd', hc', ed', m, hm, S', B', M', E', hz, gX⟩ := tx_solo (nt := nt) (cl := cl) (se := se) (vd := vd) (lk := lk) (en := en) (so := so) (lv := lv) (pa := pa) hL hT ht C 513 0 _ _ _ (ll_fl L hd (-1)) (ll_fl L hc 0) ed (by omega) (ll_TSs S ht hp8 hl hm0) ⟨R0.1, R0.2, fun l hl => ⟨fun z => absurd z (Nat.lt_irrefl 0), fun _ => by rw [ll_fl_t hl]; exact ne1⟩⟩ (fun l hl => Or.inr ⟨ll_fl_t hl, ll_fl_t hl⟩) B (fun j hj => absurd hj (by omega))
  refine ⟨fp', fc', dp', hd', hc', ed', m, hm, S', B', M', E', hz, fun post hp => ?_⟩
  unfold wpX_runAlone
  exact lx_free_2 hL (lx_start_2 (by omega) he hp8 hl hm0 ⟨514, gX post 514 (by omega) hp⟩)
theorem tx_checks {L T : Nat} (hL : L ≤ 8) (hT : T ≤ 4) (C : ll_CI L op ar ln) (hen : ll_EN en) : ∀ (r k : Nat) (so fp fc dp hd hc ed : Nat → Int32), k + r = T → ll_TS T ln fp fc dp → ll_EB L ed → (∀ s, s < k → ∃ m, m ≤ 513 ∧ so s = nI m ∧ (∀ j, j < m → tk_EC L op ar ed (tk_T op ar ln en s j)) ∧ (m ≤ 512 → (tk_T op ar ln en s m).1 = [])) →
    ∃ so' fp' fc' dp' hd' hc' ed', ll_TS T ln fp' fc' dp' ∧ ll_EB L ed' ∧ (∀ s, s < T → ∃ m, m ≤ 513 ∧ so' s = nI m ∧ (∀ j, j < m → tk_EC L op ar ed' (tk_T op ar ln en s j)) ∧ (m ≤ 512 → (tk_T op ar ln en s m).1 = [])) ∧ (∀ (post : Int32 → St2 → Prop) (n : Nat), r < n → (∀ n', wX_check_14 post (n' + 1) (nI T) (nI L) (nI T) cl se vd lk op ar ln en so' lv ed' pa fp' fc' dp' hd' hc') → wX_check_14 post n (nI k) (nI L) (nI T) cl se vd lk op ar ln en so lv ed pa fp fc dp hd hc) := by
  intro r
  induction r with
  | zero =>
    intro k so fp fc dp hd hc ed hk S B hso
    have e : k = T := by omega
    subst e
    refine ⟨so, fp, fc, dp, hd, hc, ed, S, B, hso, fun post n hn hp => ?_⟩
    obtain ⟨n, rfl⟩ : ∃ m, n = m + 1 := ⟨n - 1, by omega⟩
    exact hp n
  | succ r ih =>
    intro k so fp fc dp hd hc ed hk S B hso
    have c1 : (nI k).toNatClampNeg = k := nI_clamp (by omega)
    obtain ⟨fp1, fc1, dp1, hd1, hc1, ed1, m1, hm1, S1, B1, M1, E1, z1, hX⟩ := tx_alone (t := k) (nt := nI T) (cl := cl) (se := se) (vd := vd) (lk := lk) (so := so) (lv := lv) (pa := pa) (hd := hd) (hc := hc) hL hT (by omega) C hen S B
    obtain ⟨so', fp', fc', dp', hd', hc', ed', S', B', hso', gX⟩ := ih (k + 1) (upd so k (nI m1)) fp1 fc1 dp1 hd1 hc1 ed1 (by omega) S1 B1 (fun s hs => by
      by_cases e : s = k
      · subst e
        exact ⟨m1, hm1, pk_us, E1, z1⟩
      · rw [pk_un e]
        obtain ⟨m, h1, h2, h3, h4⟩ := hso s (by omega)
        exact ⟨m, h1, h2, fun j hj => tk_ECm (h3 j hj) M1, h4⟩)
    refine ⟨so', fp', fc', dp', hd', hc', ed', S', B', hso', fun post n hn hp => ?_⟩
    obtain ⟨n, rfl⟩ : ∃ m, n = m + 1 := ⟨n - 1, by omega⟩
    refine pk_le T k (fun h => absurd h (by omega)) (fun _ => hX _ ?_)
    exact And.intro (vp_in_nI (by omega) (by decide)) (nm_r (e' := upd so k (nI m1)) (by rw [c1]) (nm_r (nI_1 k) (gX post n (by omega) hp)))
theorem tx_reset {L T : Nat} (hT : T ≤ 4) (C : ll_CI L op ar ln) (hen : ll_EN en) : ∀ (r k : Nat) (fp fc dp : Nat → Int32), k + r = T → (∀ s, s < k → ll_TO ln fp fc dp s ∧ dp s = nI (tk_T op ar ln en s 0).1.length ∧ tk_RS fp fc (s * 8) (tk_T op ar ln en s 0).1) → (∀ j, T ≤ j → j < 4 → dp j = 0) →
    ∃ fp' fc' dp', ll_TS T ln fp' fc' dp' ∧ (∀ s, s < T → dp' s = nI (tk_T op ar ln en s 0).1.length ∧ tk_RS fp' fc' (s * 8) (tk_T op ar ln en s 0).1) ∧ (∀ (post : St2 → Prop) (nl cl se vd lk : Int32) (so lv ed pa hd hc : Nat → Int32) (n : Nat), r < n → post (nl, nI T, cl, se, vd, lk, op, ar, ln, en, so, lv, ed, pa, fp', fc', dp', hd, hc) → wX_resetMachine_6 post n (nI k) nl (nI T) cl se vd lk op ar ln en so lv ed pa fp fc dp hd hc) := by
  intro r
  induction r with
  | zero =>
    intro k fp fc dp hk hs h0
    have e : k = T := by omega
    subst e
    refine ⟨fp, fc, dp, ⟨fun s h => (hs s h).1, h0⟩, fun s h => (hs s h).2, fun post nl cl se vd lk so lv ed pa hd hc n hn hp => ?_⟩
    obtain ⟨n, rfl⟩ : ∃ m, n = m + 1 := ⟨n - 1, by omega⟩
    exact pk_le k k (fun _ => hp) (fun h => absurd h (by omega))
  | succ r ih =>
    intro k fp fc dp hk hs h0
    obtain ⟨p, hp8, he⟩ := hen k (by omega)
    obtain ⟨m, hm, hl, _⟩ := C p hp8
    have R0 := tk_TR0 (op := op) (ar := ar) (fp := fp) (fc := fc) (dp := dp) he hp8 hl hm
    obtain ⟨fp', fc', dp', S, hR, hX⟩ := ih (k + 1) (upd fp (k * 8) (nI p)) (upd fc (k * 8) 0) (upd dp k (nI (if 0 < m then 1 else 0))) (by omega) (fun s hs' => by
        by_cases e : s = k
        · subst e
          exact ⟨ll_TOs hp8 hl hm, R0⟩
        · obtain ⟨a1, a2, a3⟩ := hs s (by omega)
          have hl1 : (tk_T op ar ln en s 0).1.length ≤ 1 := tk_stle ln [((en s).toNatClampNeg, 0)]
          exact ⟨ll_TOo a1 (fun i hi => ⟨pk_un (by omega), pk_un (by omega)⟩) (pk_un e), by rw [pk_un e]; exact a2, tk_RScg _ (fun i hi => ⟨pk_un (by omega), pk_un (by omega)⟩) a3⟩) (fun j h1 h2 => by
        rw [pk_un (by omega)]
        exact h0 j h1 h2)
    refine ⟨fp', fc', dp', S, hR, fun post nl cl se vd lk so lv ed pa hd hc n hn hp => ?_⟩
    obtain ⟨n, rfl⟩ : ∃ m, n = m + 1 := ⟨n - 1, by omega⟩
    exact pk_le T k (fun h => absurd h (by omega)) (fun _ => lx_start (by omega) he hp8 hl hm (nm_r (nI_1 k) (hX post nl cl se vd lk so lv ed pa hd hc n (by omega) hp)))
theorem tx_restart {L T : Nat} (hL : L ≤ 8) (hT : T ≤ 4) (C : ll_CI L op ar ln) (hen : ll_EN en) (S : ll_TS T ln fp fc dp) :
    ∃ fp' fc' dp', ll_TS T ln fp' fc' dp' ∧ (∀ s, s < T → dp' s = nI (tk_T op ar ln en s 0).1.length ∧ tk_RS fp' fc' (s * 8) (tk_T op ar ln en s 0).1) ∧ (∀ (post : St2 → Prop) (cl se vd lk : Int32) (so lv ed pa hd hc : Nat → Int32), post (nI L, nI T, cl, se, vd, lk, op, ar, ln, en, so, lv, ed, pa, fp', fc', dp', ll_fl L hd (-1), ll_fl L hc 0) → wpX_resetMachine post (nI L, nI T, cl, se, vd, lk, op, ar, ln, en, so, lv, ed, pa, fp, fc, dp, hd, hc)) := by
  obtain ⟨fp', fc', dp', S', hR, hX⟩ := tx_reset hT C hen T 0 fp fc dp (by omega) (fun s hs => absurd hs (by omega)) S.2
  refine ⟨fp', fc', dp', S', hR, fun post cl se vd lk so lv ed pa hd hc hp => ?_⟩
  unfold wpX_resetMachine
  refine lx_free hL ⟨T + 1, ?_⟩
  exact hX post _ _ _ _ _ _ _ _ _ _ _ (T + 1) (by omega) hp
theorem tk_MI0 {L T : Nat} (hT : T ≤ 4) (S : ll_TS T ln fp fc dp) (hR : ∀ s, s < T → dp s = nI (tk_T op ar ln en s 0).1.length ∧ tk_RS fp fc (s * 8) (tk_T op ar ln en s 0).1) (hS : ∀ t, t < T → ∃ n, n ≤ 512 ∧ (tk_T op ar ln en t n).1 = [] ∧ (∀ j, j < n → tk_EC L op ar ed (tk_T op ar ln en t j))) : tk_MI L T op ar ln en ed fp fc dp (ll_fl L hd (-1)) (ll_fl L hc 0) := by
  refine ⟨S, fun l hl => Or.inl ⟨ll_fl_t hl, ll_fl_t hl⟩, fun t ht => ?_⟩
  obtain ⟨n, h1, h2, h3⟩ := hS t ht
  refine ⟨0, n, Nat.zero_le _, h1, h2, h3, (hR t ht).1, (hR t ht).2, fun l hl => ⟨fun z => absurd z (Nat.lt_irrefl 0), fun _ => ?_⟩⟩
  rw [ll_fl_t hl]
  exact ll_m1 t (by omega)
end
theorem tx_check {post : Int32 → St2 → Prop} {L T : Nat} {u : St2} (hL2 : 2 ≤ L) (hL : L ≤ 8) (hT : T ≤ 4) (U : tk_U L T u) (h0 : ∀ u', tk_G L T u' → post 0 u') (h1 : ∀ r u', ¬ r = 0 → post r u') : wpX_check post u := by
  obtain ⟨cl, op, ar, ln, en, so, lv, ed, pa, fp, fc, dp, hd, hc, rfl, C, hen, B, hlv, hdp⟩ := U
  obtain ⟨so', fp', fc', dp', hd', hc', ed', S', B', hso, cX⟩ := tx_checks (cl := cl) (se := 1) (vd := -1) (lk := -1) (lv := lv) (pa := pa) hL hT C hen T 0 so fp fc dp hd hc ed (by omega) (ll_TS0 hT hdp) B (fun s hs => absurd hs (by omega))
  obtain ⟨fp2, fc2, dp2, S2, hR, rX⟩ := tx_restart hL hT C hen S'
  refine br_t rfl ⟨T + 1, cX _ (T + 1) (by omega) (fun n => ?_)⟩
  refine pk_le T T (fun _ => ?_) (fun h => absurd h (by omega))
  by_cases lg : ∃ s, s < T ∧ so' s = nI 513
  · refine lx_verL hT (fun s hs => ?_) lg ?_
    · obtain ⟨m, h1, h2, _⟩ := hso s hs
      exact ⟨m, h1, h2⟩
    · refine rX _ _ _ _ _ _ _ _ _ _ _ ?_
      exact h1 2 _ (by decide)
  · have hs : ∀ s, s < T → ∃ m, m ≤ 512 ∧ so' s = nI m ∧ (∀ j, j < m → tk_EC L op ar ed' (tk_T op ar ln en s j)) ∧ (tk_T op ar ln en s m).1 = [] := by
      intro s hs
      obtain ⟨m, hm, e, e2, e3⟩ := hso s hs
      have x : m ≠ 513 := fun x => lg ⟨s, hs, by rw [e, x]⟩
      exact ⟨m, by omega, e, e2, e3 (by omega)⟩
    refine lx_verN hL2 hL hT (fun s h => ?_) B' hlv (fun pa' l hl hP hlo => ?_) (fun pa' lv' lev' hac q1 q2 => ?_)
    · obtain ⟨m, a1, a2, _⟩ := hs s h
      exact ⟨m, a1, a2⟩
    · refine rX _ _ _ _ _ _ _ _ _ _ _ ?_
      exact h1 1 _ (by decide)
    · refine rX _ _ _ _ _ _ _ _ _ _ _ ?_
      refine h0 _ ⟨_, _, op, ar, ln, en, _, lv', ed', pa', fp2, fc2, dp2, _, _, lev', rfl, C, hen, fun j hj => ⟨q1 j hj, ?_⟩, fun a b ha hb he => ?_, tk_MI0 hT S2 hR (fun t ht => ?_)⟩
      · exact Nat.le_trans (q2.1 j) (Nat.le_trans (gr_cle _ L) hL)
      · have e : ll_E ed' a b := ⟨by omega, by omega, he⟩
        have g := gr_An hac hb
        exact q2.2.2.1 a b e (by omega)
      · obtain ⟨m, a1, a2, a3, a4⟩ := hs t ht
        exact ⟨m, a1, a4, a3⟩
