/-! the reference: what holds in all admissible instantiations -/
def zq_sv (D n j : Nat) : Nat := if j = 0 then n / (D * D) + 1 else if j = 1 then n / D % D + 1 else n % D + 1
theorem zq_d1 {D m : Nat} (h2 : 2 ≤ D) (h6 : D ≤ 6) (hm : m < 2 ^ 31) : nI m / (nI D * nI D) + 1 = nI (m / (D * D) + 1) := by
  have h36 := zq_36 h6
  have h4 : 2 * 2 ≤ D * D := Nat.mul_le_mul h2 h2
  rw [pk_mul, pk_div hm (by omega) (by omega), nI_1]
theorem zq_d2 {D m : Nat} (h2 : 2 ≤ D) (h6 : D ≤ 6) (hm : m < 2 ^ 31) : nI m / nI D - nI m / nI D / nI D * nI D + 1 = nI (m / D % D + 1) := by
  rw [pk_div hm (by omega) (by omega), pk_rem (Nat.lt_of_le_of_lt (Nat.div_le_self m D) hm) (by omega) (by omega), nI_1]
theorem zq_d3 {D m : Nat} (h2 : 2 ≤ D) (h6 : D ≤ 6) (hm : m < 2 ^ 31) : nI m - nI m / nI D * nI D + 1 = nI (m % D + 1) := by
  rw [pk_rem hm (by omega) (by omega), nI_1]
theorem zq_dd {D : Nat} (h2 : 2 ≤ D) (h6 : D ≤ 6) : ¬ nI D * nI D = 0 := by
  have h36 := zq_36 h6
  have h4 : 2 * 2 ≤ D * D := Nat.mul_le_mul h2 h2
  rw [pk_mul]
  exact nI_ne0 (by omega) (by omega)
section
variable {mx cnt st tp : Int32} {K X Y Z dt bd rq sr sd vr vd el : Nat → Int32} {sz tr : Nat → Int32} {D c N : Nat} {rk : Nat → Nat}
/-- shapes at the n-th instantiation -/
theorem zy_sat {post : Int32 → SY → Prop} {n : Nat} (h2 : 2 ≤ D) (h6 : D ≤ 6) (hc : c ≤ 16) (hn : ∀ i, i < c → zq_nd D i rk (K i) (X i) (Y i) (Z i)) (hr : ∀ j, j < c → rk j ≤ 2) (hnN : n < D * D * D) (ht : zq_tb D c K X Y Z rk sz tr n)
    (hp : ∀ r sr' sd', ((r = nI c ∧ tr n = -1 ∧ ∀ i s, i < c → s < rk i → sd' (2 * i + s) = sz (n * 35 + (i * 2 + 2 - rk i + s))) ∨ (¬ r = nI c ∧ ¬ tr n = -1)) → post r (nI D, nI c, st, tp, K, X, Y, Z, dt, bd, rq, sr', sd', vr, vd, el)) :
    wpY_shapes post (nI D, nI c, st, tp, K, X, Y, Z, dt, bd, rq, sr, sd, vr, vd, el) (nI (n / (D * D) + 1)) (nI (n / D % D + 1)) (nI (n % D + 1)) := by
  obtain ⟨t1, t2, t3, t, R, C, t4, t5, t6⟩ := ht
  have hd := zq_dec h2 h6 hnN
  refine zy_shapes h6 hc hn hr (fun p q hs => zq_spec_good h2 h6 hs ⟨Nat.succ_le_succ (Nat.zero_le _), hd.1⟩ ⟨Nat.succ_le_succ (Nat.zero_le _), hd.2.1⟩ ⟨Nat.succ_le_succ (Nat.zero_le _), hd.2.2.1⟩) t4 (fun sr' sd' hA => hp _ sr' sd' ?_)
  have htc := t4.1
  rcases t6 with ⟨rfl, e⟩ | ⟨hlt, e⟩
  · refine Or.inl ⟨rfl, e, fun i s hi hs => ?_⟩
    have a := hA i hi
    have b := t5 i hi
    have r2 := hr i hi
    have e1 : rk i = 1 ∨ rk i = 2 := by omega
    rcases e1 with e1 | e1
    · have s0 : s = 0 := by omega
      subst s0
      have l0 : zq_l0 1 (R i) (C i) = C i := if_neg (by omega)
      rw [e1, l0] at a
      rw [e1, show i * 2 + 2 - 1 + 0 = i * 2 + 1 by omega, ← Nat.add_assoc, b.2]
      exact a.2.1
    · have l0 : zq_l0 2 (R i) (C i) = R i := if_pos rfl
      have l1 : zq_l1 2 (C i) = C i := if_pos rfl
      rw [e1, l0, l1] at a
      have s01 : s = 0 ∨ s = 1 := by omega
      rcases s01 with rfl | rfl
      · rw [e1, show i * 2 + 2 - 2 + 0 = i * 2 by omega, b.1]
        exact a.2.1
      · rw [e1, show i * 2 + 2 - 2 + 1 = i * 2 + 1 by omega, ← Nat.add_assoc, b.2]
        exact a.2.2
  · refine Or.inr ⟨fun z => ?_, fun z => ?_⟩
    · have w := (nI_eq (by omega) (by omega)).mp z
      omega
    · rw [e] at z
      exact zq_m1 (by omega) z
theorem zy_acc_l {post : Int32 → SY → Prop} (h2 : 2 ≤ D) (h6 : D ≤ 6) (hN : N = D * D * D) (hc : c ≤ 16) (hn : ∀ i, i < c → zq_nd D i rk (K i) (X i) (Y i) (Z i)) (hr : ∀ j, j < c → rk j ≤ 2) (ht : ∀ n, n < N → zq_tb D c K X Y Z rk sz tr n)
    (ok : zq_any (fun n => tr n = -1) N → ∀ sr' sd', post 1 (nI D, nI c, st, tp, K, X, Y, Z, dt, bd, rq, sr', sd', vr, vd, el)) (no : ¬ zq_any (fun n => tr n = -1) N → ∀ sr' sd', post 0 (nI D, nI c, st, tp, K, X, Y, Z, dt, bd, rq, sr', sd', vr, vd, el)) :
    ∀ d m fu : Nat, ∀ sr sd : Nat → Int32, m + d = N → d < fu → ¬ zq_any (fun n => tr n = -1) m → wY_accepted_17 post (nI N) fu (nI m) (nI D) (nI c) st tp K X Y Z dt bd rq sr sd vr vd el := by
  have h216 := zq_216 h6
  intro d
  induction d with
  | zero =>
    intro m fu sr sd hm hf h
    obtain ⟨f, rfl⟩ : ∃ f, fu = f + 1 := ⟨fu - 1, by omega⟩
    have e : m = N := by omega
    subst e
    rw [wY_accepted_17]
    exact br_t (Int32.le_refl _) (no h sr sd)
  | succ d ih =>
    intro m fu sr sd hm hf h
    obtain ⟨f, rfl⟩ : ∃ f, fu = f + 1 := ⟨fu - 1, by omega⟩
    have hD0 : ¬ nI D = 0 := nI_ne0 (by omega) (by omega)
    rw [wY_accepted_17]
    refine br_f (nI_ge (by omega) (by omega)) ⟨zq_dd h2 h6, hD0, hD0, hD0, ?_⟩
    rw [zq_d1 h2 h6 (by omega), zq_d2 h2 h6 (by omega), zq_d3 h2 h6 (by omega)]
    refine zy_sat h2 h6 hc hn hr (by omega) (ht m (by omega)) (fun r sr' sd' w => ?_)
    rcases w with ⟨e, hA, _⟩ | ⟨e, hA⟩
    · exact br_t e (ok ⟨m, by omega, hA⟩ sr' sd')
    · exact br_f e (nm_r (nI_1 m) (ih (m + 1) f sr' sd' (by omega) (by omega) (fun z => h ((zq_any_n (A := fun n => tr n = -1) hA).mpr z))))
theorem zy_acc {post : Int32 → SY → Prop} (h2 : 2 ≤ D) (h6 : D ≤ 6) (hc : c ≤ 16) (hn : ∀ i, i < c → zq_nd D i rk (K i) (X i) (Y i) (Z i)) (hr : ∀ j, j < c → rk j ≤ 2) (ht : ∀ n, n < D * D * D → zq_tb D c K X Y Z rk sz tr n)
    (ok : zq_any (fun n => tr n = -1) (D * D * D) → ∀ sr' sd', post 1 (nI D, nI c, st, tp, K, X, Y, Z, dt, bd, rq, sr', sd', vr, vd, el)) (no : ¬ zq_any (fun n => tr n = -1) (D * D * D) → ∀ sr' sd', post 0 (nI D, nI c, st, tp, K, X, Y, Z, dt, bd, rq, sr', sd', vr, vd, el)) : wpY_accepted post (nI D, nI c, st, tp, K, X, Y, Z, dt, bd, rq, sr, sd, vr, vd, el) := by
  unfold wpY_accepted
  dsimp only
  refine nm_r (e' := nI (D * D * D)) (by rw [pk_mul, pk_mul]) ⟨D * D * D + 1, ?_⟩
  exact zy_acc_l h2 h6 rfl hc hn hr ht ok no (D * D * D) 0 _ sr sd (by omega) (by omega) zq_any_0
/-- the three comparisons at the end of a turn of dimOf -/
theorem zy_dtail {post : Int32 → SY → Prop} {J : Int32 → Int32 → Int32 → Int32 → Int32 → Int32 → Int32 → Int32 → Int32 → Int32 → Int32 → (Nat → Int32) → (Nat → Int32) → (Nat → Int32) → (Nat → Int32) → (Nat → Int32) → (Nat → Int32) → (Nat → Int32) → (Nat → Int32) → (Nat → Int32) → (Nat → Int32) → (Nat → Int32) → (Nat → Int32) → Prop}
    {A : Nat → Prop} {g s0 s1 s2 : Nat → Int32} {m : Nat} {x1 x2 x4 x5 x6 x7 x8 x9 x10 : Int32} (hA : A m) (f0 : zq_fl x6 (zq_eqs A g s0 m)) (f1 : zq_fl x7 (zq_eqs A g s1 m)) (f2 : zq_fl x8 (zq_eqs A g s2 m))
    (hJ : ∀ y6 y7 y8, zq_fl y6 (zq_eqs A g s0 (m + 1)) → zq_fl y7 (zq_eqs A g s1 (m + 1)) → zq_fl y8 (zq_eqs A g s2 (m + 1)) → J x4 x5 y6 y7 y8 x9 (nI (m + 1)) mx cnt st tp K X Y Z dt bd rq sr sd vr vd el) :
    wY_dimOf_175 post J x1 x2 x4 x5 x6 x7 x8 x9 x10 (nI m) (s0 m) (s1 m) (s2 m) (g m) mx cnt st tp K X Y Z dt bd rq sr sd vr vd el := by
  have l195 : ∀ y6 y7, zq_fl y6 (zq_eqs A g s0 (m + 1)) → zq_fl y7 (zq_eqs A g s1 (m + 1)) → wY_dimOf_195 post J x1 x2 x4 x5 y6 y7 x8 x9 x10 (nI m) (s2 m) (g m) mx cnt st tp K X Y Z dt bd rq sr sd vr vd el := by
    intro y6 y7 g0 g1
    unfold wY_dimOf_195
    refine br_c (fun e => nm_r (nI_1 m) ?_) (fun e => nm_r (nI_1 m) ?_)
    · exact hJ y6 y7 x8 g0 g1 (zq_fl_i f2 (zq_eqs_y e))
    · exact hJ y6 y7 0 g0 g1 (zq_fl_0 (zq_eqs_f hA (by omega) e))
  have l185 : ∀ y6, zq_fl y6 (zq_eqs A g s0 (m + 1)) → wY_dimOf_185 post J x1 x2 x4 x5 y6 x7 x8 x9 x10 (nI m) (s1 m) (s2 m) (g m) mx cnt st tp K X Y Z dt bd rq sr sd vr vd el := by
    intro y6 g0
    unfold wY_dimOf_185
    refine br_c (fun e => ?_) (fun e => ?_)
    · exact l195 y6 x7 g0 (zq_fl_i f1 (zq_eqs_y e))
    · exact l195 y6 0 g0 (zq_fl_0 (zq_eqs_f hA (by omega) e))
  unfold wY_dimOf_175
  refine br_c (fun e => ?_) (fun e => ?_)
  · exact l185 x6 (zq_fl_i f0 (zq_eqs_y e))
  · exact l185 0 (zq_fl_0 (zq_eqs_f hA (by omega) e))
theorem zy_dim_l {post : Int32 → SY → Prop} {p s : Nat} (h2 : 2 ≤ D) (h6 : D ≤ 6) (hN : N = D * D * D) (hc : c ≤ 16) (hn : ∀ i, i < c → zq_nd D i rk (K i) (X i) (Y i) (Z i)) (hr : ∀ j, j < c → rk j ≤ 2) (ht : ∀ n, n < N → zq_tb D c K X Y Z rk sz tr n) (hp : p < c) (hs : s < rk p)
    (ok : ∀ r sr' sd', zq_dr (fun n => tr n = -1) (fun n => sz (n * 35 + (p * 2 + 2 - rk p + s))) (fun n => sz (n * 35 + 32)) (fun n => sz (n * 35 + 33)) (fun n => sz (n * 35 + 34)) N r → post r (nI D, nI c, st, tp, K, X, Y, Z, dt, bd, rq, sr', sd', vr, vd, el)) :
    ∀ d m fu : Nat, ∀ x4 x5 x6 x7 x8 x9 : Int32, ∀ sr sd : Nat → Int32, m + d = N → d < fu →
      zq_fl x4 (zq_any (fun n => tr n = -1) m) → zq_fl x5 (zq_same (fun n => tr n = -1) (fun n => sz (n * 35 + (p * 2 + 2 - rk p + s))) m) →
      zq_fl x6 (zq_eqs (fun n => tr n = -1) (fun n => sz (n * 35 + (p * 2 + 2 - rk p + s))) (fun n => sz (n * 35 + 32)) m) →
      zq_fl x7 (zq_eqs (fun n => tr n = -1) (fun n => sz (n * 35 + (p * 2 + 2 - rk p + s))) (fun n => sz (n * 35 + 33)) m) →
      zq_fl x8 (zq_eqs (fun n => tr n = -1) (fun n => sz (n * 35 + (p * 2 + 2 - rk p + s))) (fun n => sz (n * 35 + 34)) m) →
      (zq_any (fun n => tr n = -1) m → ∃ j, j < m ∧ tr j = -1 ∧ x9 = sz (j * 35 + (p * 2 + 2 - rk p + s))) →
      wY_dimOf_68 post (nI p) (nI s) (nI N) fu x4 x5 x6 x7 x8 x9 (nI m) (nI D) (nI c) st tp K X Y Z dt bd rq sr sd vr vd el := by
  have h216 := zq_216 h6
  have rp := hr p hp
  intro d
  induction d with
  | zero =>
    intro m fu x4 x5 x6 x7 x8 x9 sr sd hm hf f4 f5 f6 f7 f8 h9
    obtain ⟨f, rfl⟩ : ∃ f, fu = f + 1 := ⟨fu - 1, by omega⟩
    have e : m = N := by omega
    subst e
    rw [wY_dimOf_68]
    refine br_t (Int32.le_refl _) (br_c (fun e4 => ok _ _ _ (Or.inl ⟨zq_fl_e0 f4 e4, rfl⟩)) (fun e4 => ?_))
    have ha := zq_fl_n0 f4 e4
    refine br_c (fun e5 => ?_) (fun e5 => ?_)
    · have ok := fun r w => ok r sr sd (Or.inr (Or.inr ⟨ha, zq_fl_e0 f5 e5, w⟩))
      refine br_c (fun e6 => br_c (fun e7 => br_c (fun e8 => ?_) (fun e8 => ?_)) (fun e7 => ?_)) (fun e6 => ?_)
      · exact ok _ (Or.inr (Or.inr (Or.inr ⟨zq_fl_e0 f6 e6, zq_fl_e0 f7 e7, zq_fl_e0 f8 e8, rfl⟩)))
      · exact ok _ (Or.inr (Or.inr (Or.inl ⟨zq_fl_e0 f6 e6, zq_fl_e0 f7 e7, zq_fl_n0 f8 e8, rfl⟩)))
      · exact ok _ (Or.inr (Or.inl ⟨zq_fl_e0 f6 e6, zq_fl_n0 f7 e7, rfl⟩))
      · exact ok _ (Or.inl ⟨zq_fl_n0 f6 e6, rfl⟩)
    · obtain ⟨j, hj, hA, e9⟩ := h9 ha
      exact ok _ _ _ (Or.inr (Or.inl ⟨zq_fl_n0 f5 e5, j, hj, hA, e9⟩))
  | succ d ih =>
    intro m fu x4 x5 x6 x7 x8 x9 sr sd hm hf f4 f5 f6 f7 f8 h9
    obtain ⟨f, rfl⟩ : ∃ f, fu = f + 1 := ⟨fu - 1, by omega⟩
    have hD0 : ¬ nI D = 0 := nI_ne0 (by omega) (by omega)
    have htm := ht m (by omega)
    rw [wY_dimOf_68]
    refine br_f (nI_ge (by omega) (by omega)) ⟨zq_dd h2 h6, nm_r (zq_d1 h2 h6 (by omega)) ⟨hD0, hD0, nm_r (zq_d2 h2 h6 (by omega)) ⟨hD0, nm_r (zq_d3 h2 h6 (by omega)) ?_⟩⟩⟩
    refine zy_sat h2 h6 hc hn hr (by omega) htm (fun r sr' sd' w => ?_)
    rcases w with ⟨e, hA, hv⟩ | ⟨e, hA⟩
    · have ev := hv p s hp hs
      refine br_t e ?_
      rw [zq_2m, nI_add, nI_clamp (by omega), ev, ← htm.1, ← htm.2.1, ← htm.2.2.1]
      refine ⟨vp_in_nI (by omega) (by omega), nm_e (br_c (fun e4 => ?_) (fun e4 => br_c (fun e9 => ?_) (fun e9 => ?_)))⟩
      · have hna := zq_fl_e0 f4 e4
        refine zy_dtail (A := fun n => tr n = -1) (g := fun n => sz (n * 35 + (p * 2 + 2 - rk p + s))) (s0 := fun n => sz (n * 35 + 32)) (s1 := fun n => sz (n * 35 + 33)) (s2 := fun n => sz (n * 35 + 34)) hA f6 f7 f8 (fun y6 y7 y8 g6 g7 g8 => ?_)
        refine ih (m + 1) f 1 x5 y6 y7 y8 _ sr' sd' (by omega) (by omega) (zq_fl_1 (zq_any_y (A := fun n => tr n = -1) hA)) (zq_fl_i f5 ⟨fun _ => zq_same_1 hna, fun z => zq_same_d z (by omega)⟩) g6 g7 g8 (fun _ => ⟨m, by omega, hA, rfl⟩)
      · obtain ⟨j, hj, hAj, e9'⟩ := h9 (zq_fl_n0 f4 e4)
        refine zy_dtail (A := fun n => tr n = -1) (g := fun n => sz (n * 35 + (p * 2 + 2 - rk p + s))) (s0 := fun n => sz (n * 35 + 32)) (s1 := fun n => sz (n * 35 + 33)) (s2 := fun n => sz (n * 35 + 34)) hA f6 f7 f8 (fun y6 y7 y8 g6 g7 g8 => ?_)
        refine ih (m + 1) f x4 x5 y6 y7 y8 _ sr' sd' (by omega) (by omega) (zq_fl_i f4 ⟨fun _ => zq_any_y (A := fun n => tr n = -1) hA, fun _ => zq_fl_n0 f4 e4⟩) (zq_fl_i f5 (zq_same_y (A := fun n => tr n = -1) (g := fun n => sz (n * 35 + (p * 2 + 2 - rk p + s))) hj hAj (e9.trans e9'))) g6 g7 g8 (fun _ => ⟨j, by omega, hAj, e9'⟩)
      · obtain ⟨j, hj, hAj, e9'⟩ := h9 (zq_fl_n0 f4 e4)
        refine zy_dtail (A := fun n => tr n = -1) (g := fun n => sz (n * 35 + (p * 2 + 2 - rk p + s))) (s0 := fun n => sz (n * 35 + 32)) (s1 := fun n => sz (n * 35 + 33)) (s2 := fun n => sz (n * 35 + 34)) hA f6 f7 f8 (fun y6 y7 y8 g6 g7 g8 => ?_)
        refine ih (m + 1) f x4 0 y6 y7 y8 _ sr' sd' (by omega) (by omega) (zq_fl_i f4 ⟨fun _ => zq_any_y (A := fun n => tr n = -1) hA, fun _ => zq_fl_n0 f4 e4⟩) (zq_fl_0 (zq_same_f (A := fun n => tr n = -1) (g := fun n => sz (n * 35 + (p * 2 + 2 - rk p + s))) (i := m) (m0 := j) (by omega) (by omega) hAj hA (fun w => e9 (w.trans e9'.symm)))) g6 g7 g8 (fun _ => ⟨j, by omega, hAj, e9'⟩)
    · refine br_f e (nm_r (nI_1 m) ?_)
      refine ih (m + 1) f x4 x5 x6 x7 x8 x9 sr' sd' (by omega) (by omega) (zq_fl_i f4 (zq_any_n (A := fun n => tr n = -1) hA)) (zq_fl_i f5 (zq_same_n (A := fun n => tr n = -1) hA)) (zq_fl_i f6 (zq_eqs_n (A := fun n => tr n = -1) hA)) (zq_fl_i f7 (zq_eqs_n (A := fun n => tr n = -1) hA)) (zq_fl_i f8 (zq_eqs_n (A := fun n => tr n = -1) hA)) (fun z => ?_)
      obtain ⟨j, hj, hAj, e9⟩ := h9 ((zq_any_n (A := fun n => tr n = -1) hA).mpr z)
      exact ⟨j, by omega, hAj, e9⟩
theorem zy_dim {post : Int32 → SY → Prop} {x y : Int32} (h2 : 2 ≤ D) (h6 : D ≤ 6) (hc : c ≤ 16) (hn : ∀ i, i < c → zq_nd D i rk (K i) (X i) (Y i) (Z i)) (hr : ∀ j, j < c → rk j ≤ 2) (ht : ∀ n, n < D * D * D → zq_tb D c K X Y Z rk sz tr n)
    (no : ¬ (∃ p s, p < c ∧ x = nI p ∧ y = nI s ∧ s < rk p) → ∀ rq', post 0 (nI D, nI c, st, tp, K, X, Y, Z, dt, bd, rq', sr, sd, vr, vd, el))
    (ok : ∀ p s r, p < c → x = nI p → y = nI s → s < rk p → ∀ rq' sr' sd', zq_dr (fun n => tr n = -1) (fun n => sz (n * 35 + (p * 2 + 2 - rk p + s))) (fun n => sz (n * 35 + 32)) (fun n => sz (n * 35 + 33)) (fun n => sz (n * 35 + 34)) (D * D * D) r → post r (nI D, nI c, st, tp, K, X, Y, Z, dt, bd, rq', sr', sd', vr, vd, el)) : wpY_dimOf post (nI D, nI c, st, tp, K, X, Y, Z, dt, bd, rq, sr, sd, vr, vd, el) x y := by
  unfold wpY_dimOf
  dsimp only
  refine zq_ckl (by omega) (fun p hp ex => ?_) (fun h => no (fun ⟨p, _, hp, e, _⟩ => h ⟨p, hp, e⟩) rq)
  subst ex
  refine zy_rank hc hp hn hr (fun rq' => ?_)
  have rp := hr p hp
  refine zq_ckl (by omega) (fun s hs ey => ?_) (fun h => no ?_ rq')
  · subst ey
    refine nm_r (e' := nI (D * D * D)) (by rw [pk_mul, pk_mul]) ⟨D * D * D + 1, ?_⟩
    exact zy_dim_l h2 h6 rfl hc hn hr ht hp hs (fun r sr' sd' w => ok p s r hp rfl rfl hs rq' sr' sd' w) (D * D * D) 0 _ 0 1 1 1 1 0 sr sd (by omega) (by omega) (zq_fl_0 zq_any_0) (zq_fl_1 zq_same_0) (zq_fl_1 zq_eqs_0) (zq_fl_1 zq_eqs_0) (zq_fl_1 zq_eqs_0) (fun z => absurd z zq_any_0)
  · rintro ⟨p', s, hp', e1, e2, hs⟩
    have := (nI_eq (by omega) (by omega)).mp e1
    subst this
    exact h ⟨s, hs, e2⟩
theorem zy_syv_l {post : Int32 → SY → Prop} {j : Nat} (h2 : 2 ≤ D) (h6 : D ≤ 6) (hN : N = D * D * D) (hc : c ≤ 16) (hn : ∀ i, i < c → zq_nd D i rk (K i) (X i) (Y i) (Z i)) (hr : ∀ j, j < c → rk j ≤ 2) (ht : ∀ n, n < N → zq_tb D c K X Y Z rk sz tr n) (hj3 : j < 3)
    (ok : ∀ r sr' sd', zq_cm (fun n => tr n = -1) (fun n => nI (zq_sv D n j)) N r → post r (nI D, nI c, st, tp, K, X, Y, Z, dt, bd, rq, sr', sd', vr, vd, el)) :
    ∀ d m fu : Nat, ∀ x2 x3 x4 : Int32, ∀ sr sd : Nat → Int32, m + d = N → d < fu →
      zq_fl x2 (zq_any (fun n => tr n = -1) m) → zq_fl x3 (zq_same (fun n => tr n = -1) (fun n => nI (zq_sv D n j)) m) →
      (zq_any (fun n => tr n = -1) m → ∃ i, i < m ∧ tr i = -1 ∧ x4 = nI (zq_sv D i j)) →
      wY_symbolValue_37 post (nI j) (nI N) fu x2 x3 x4 (nI m) (nI D) (nI c) st tp K X Y Z dt bd rq sr sd vr vd el := by
  have h216 := zq_216 h6
  intro d
  induction d with
  | zero =>
    intro m fu x2 x3 x4 sr sd hm hf f2 f3 h4
    obtain ⟨f, rfl⟩ : ∃ f, fu = f + 1 := ⟨fu - 1, by omega⟩
    have e : m = N := by omega
    subst e
    rw [wY_symbolValue_37]
    refine br_t (Int32.le_refl _) (br_c (fun e2 => ok _ _ _ (Or.inr ⟨fun z => zq_fl_e0 f2 e2 z.1, rfl⟩)) (fun e2 => br_c (fun e3 => ok _ _ _ (Or.inr ⟨fun z => zq_fl_e0 f3 e3 z.2, rfl⟩)) (fun e3 => ?_)))
    obtain ⟨i, hi, hA, e4⟩ := h4 (zq_fl_n0 f2 e2)
    exact ok _ _ _ (Or.inl ⟨zq_fl_n0 f3 e3, i, hi, hA, e4⟩)
  | succ d ih =>
    intro m fu x2 x3 x4 sr sd hm hf f2 f3 h4
    obtain ⟨f, rfl⟩ : ∃ f, fu = f + 1 := ⟨fu - 1, by omega⟩
    have hD0 : ¬ nI D = 0 := nI_ne0 (by omega) (by omega)
    rw [wY_symbolValue_37]
    refine br_f (nI_ge (by omega) (by omega)) ⟨zq_dd h2 h6, nm_r (zq_d1 h2 h6 (by omega)) ⟨hD0, hD0, nm_r (zq_d2 h2 h6 (by omega)) ⟨hD0, nm_r (zq_d3 h2 h6 (by omega)) ?_⟩⟩⟩
    refine zy_sat h2 h6 hc hn hr (by omega) (ht m (by omega)) (fun r sr' sd' w => ?_)
    rcases w with ⟨e, hA, _⟩ | ⟨e, hA⟩
    · have l128 : ∀ z0, z0 = nI (zq_sv D m j) → wY_symbolValue_128 post (wY_symbolValue_37 post (nI j) (nI N) f) (nI j) x2 x3 x4 (nI N) (nI m) z0 (nI D) (nI c) st tp K X Y Z dt bd rq sr' sd' vr vd el := by
        intro z0 ez
        subst ez
        unfold wY_symbolValue_128
        refine br_c (fun e2 => nm_r (nI_1 m) ?_) (fun e2 => br_c (fun e4 => nm_r (nI_1 m) ?_) (fun e4 => nm_r (nI_1 m) ?_))
        · have hna := zq_fl_e0 f2 e2
          exact ih (m + 1) f 1 x3 _ sr' sd' (by omega) (by omega) (zq_fl_1 (zq_any_y (A := fun n => tr n = -1) hA)) (zq_fl_i f3 ⟨fun _ => zq_same_1 hna, fun z => zq_same_d z (by omega)⟩) (fun _ => ⟨m, by omega, hA, rfl⟩)
        · obtain ⟨i, hi, hAi, e4'⟩ := h4 (zq_fl_n0 f2 e2)
          exact ih (m + 1) f x2 x3 _ sr' sd' (by omega) (by omega) (zq_fl_i f2 ⟨fun _ => zq_any_y (A := fun n => tr n = -1) hA, fun _ => zq_fl_n0 f2 e2⟩) (zq_fl_i f3 (zq_same_y (A := fun n => tr n = -1) (g := fun n => nI (zq_sv D n j)) hi hAi (e4.trans e4'))) (fun _ => ⟨i, by omega, hAi, e4'⟩)
        · obtain ⟨i, hi, hAi, e4'⟩ := h4 (zq_fl_n0 f2 e2)
          exact ih (m + 1) f x2 0 _ sr' sd' (by omega) (by omega) (zq_fl_i f2 ⟨fun _ => zq_any_y (A := fun n => tr n = -1) hA, fun _ => zq_fl_n0 f2 e2⟩) (zq_fl_0 (zq_same_f (A := fun n => tr n = -1) (g := fun n => nI (zq_sv D n j)) (i := m) (m0 := i) (by omega) (by omega) hAi hA (fun w => e4 (w.trans e4'.symm)))) (fun _ => ⟨i, by omega, hAi, e4'⟩)
      refine br_t e (pk_eq j 0 (fun z => l128 _ ?_) (fun z => pk_eq j 1 (fun z1 => l128 _ ?_) (fun z1 => l128 _ ?_)))
      · unfold zq_sv; rw [if_pos z]
      · unfold zq_sv; rw [if_neg z, if_pos z1]
      · unfold zq_sv; rw [if_neg z, if_neg z1]
    · refine br_f e (nm_r (nI_1 m) ?_)
      refine ih (m + 1) f x2 x3 x4 sr' sd' (by omega) (by omega) (zq_fl_i f2 (zq_any_n (A := fun n => tr n = -1) hA)) (zq_fl_i f3 (zq_same_n (A := fun n => tr n = -1) hA)) (fun z => ?_)
      obtain ⟨i, hi, hAi, e4⟩ := h4 ((zq_any_n (A := fun n => tr n = -1) hA).mpr z)
      exact ⟨i, by omega, hAi, e4⟩
theorem zy_sye_l {post : Int32 → SY → Prop} {j j' : Nat} (h2 : 2 ≤ D) (h6 : D ≤ 6) (hN : N = D * D * D) (hc : c ≤ 16) (hn : ∀ i, i < c → zq_nd D i rk (K i) (X i) (Y i) (Z i)) (hr : ∀ j, j < c → rk j ≤ 2) (ht : ∀ n, n < N → zq_tb D c K X Y Z rk sz tr n) (hj3 : j < 3) (hj3' : j' < 3)
    (ok : (zq_any (fun n => tr n = -1) N ∧ zq_eqs (fun n => tr n = -1) (fun n => nI (zq_sv D n j)) (fun n => nI (zq_sv D n j')) N) → ∀ sr' sd', post 1 (nI D, nI c, st, tp, K, X, Y, Z, dt, bd, rq, sr', sd', vr, vd, el))
    (no : ¬ (zq_any (fun n => tr n = -1) N ∧ zq_eqs (fun n => tr n = -1) (fun n => nI (zq_sv D n j)) (fun n => nI (zq_sv D n j')) N) → ∀ sr' sd', post 0 (nI D, nI c, st, tp, K, X, Y, Z, dt, bd, rq, sr', sd', vr, vd, el)) :
    ∀ d m fu : Nat, ∀ x3 x4 : Int32, ∀ sr sd : Nat → Int32, m + d = N → d < fu →
      zq_fl x3 (zq_any (fun n => tr n = -1) m) → zq_fl x4 (zq_eqs (fun n => tr n = -1) (fun n => nI (zq_sv D n j)) (fun n => nI (zq_sv D n j')) m) →
      wY_symbolsEqual_44 post (nI j) (nI j') (nI N) fu x3 x4 (nI m) (nI D) (nI c) st tp K X Y Z dt bd rq sr sd vr vd el := by
  have h216 := zq_216 h6
  intro d
  induction d with
  | zero =>
    intro m fu x3 x4 sr sd hm hf f3 f4
    obtain ⟨f, rfl⟩ : ∃ f, fu = f + 1 := ⟨fu - 1, by omega⟩
    have e : m = N := by omega
    subst e
    rw [wY_symbolsEqual_44]
    exact br_t (Int32.le_refl _) (br_c (fun e3 => no (fun z => zq_fl_e0 f3 e3 z.1) sr sd) (fun e3 => br_c (fun e4 => no (fun z => zq_fl_e0 f4 e4 z.2) sr sd) (fun e4 => ok ⟨zq_fl_n0 f3 e3, zq_fl_n0 f4 e4⟩ sr sd)))
  | succ d ih =>
    intro m fu x3 x4 sr sd hm hf f3 f4
    obtain ⟨f, rfl⟩ : ∃ f, fu = f + 1 := ⟨fu - 1, by omega⟩
    have hD0 : ¬ nI D = 0 := nI_ne0 (by omega) (by omega)
    rw [wY_symbolsEqual_44]
    refine br_f (nI_ge (by omega) (by omega)) ⟨zq_dd h2 h6, nm_r (zq_d1 h2 h6 (by omega)) ⟨hD0, hD0, nm_r (zq_d2 h2 h6 (by omega)) ⟨hD0, nm_r (zq_d3 h2 h6 (by omega)) ?_⟩⟩⟩
    refine zy_sat h2 h6 hc hn hr (by omega) (ht m (by omega)) (fun r sr' sd' w => ?_)
    rcases w with ⟨e, hA, _⟩ | ⟨e, hA⟩
    · have l160 : ∀ y0 z0, y0 = nI (zq_sv D m j) → z0 = nI (zq_sv D m j') → wY_symbolsEqual_160 post (wY_symbolsEqual_44 post (nI j) (nI j') (nI N) f) (nI j) (nI j') 1 x4 (nI N) (nI m) y0 z0 (nI D) (nI c) st tp K X Y Z dt bd rq sr' sd' vr vd el := by
        intro y0 z0 ey ez
        subst ey ez
        unfold wY_symbolsEqual_160
        refine br_c (fun e4 => nm_r (nI_1 m) ?_) (fun e4 => nm_r (nI_1 m) ?_)
        · exact ih (m + 1) f 1 x4 sr' sd' (by omega) (by omega) (zq_fl_1 (zq_any_y (A := fun n => tr n = -1) hA)) (zq_fl_i f4 (zq_eqs_y (A := fun n => tr n = -1) (g := fun n => nI (zq_sv D n j)) (f := fun n => nI (zq_sv D n j')) e4))
        · exact ih (m + 1) f 1 0 sr' sd' (by omega) (by omega) (zq_fl_1 (zq_any_y (A := fun n => tr n = -1) hA)) (zq_fl_0 (zq_eqs_f (A := fun n => tr n = -1) (g := fun n => nI (zq_sv D n j)) (f := fun n => nI (zq_sv D n j')) (i := m) hA (by omega) e4))
      have l137 : ∀ y0, y0 = nI (zq_sv D m j) → wY_symbolsEqual_137 post (wY_symbolsEqual_44 post (nI j) (nI j') (nI N) f) (nI j) (nI j') 1 x4 (nI N) (nI m) (nI (m / (D * D) + 1)) (nI (m / D % D + 1)) (nI (m % D + 1)) y0 (nI D) (nI c) st tp K X Y Z dt bd rq sr' sd' vr vd el := by
        intro y0 ey
        unfold wY_symbolsEqual_137
        refine pk_eq j' 0 (fun z => l160 _ _ ey ?_) (fun z => pk_eq j' 1 (fun z1 => l160 _ _ ey ?_) (fun z1 => l160 _ _ ey ?_))
        · unfold zq_sv; rw [if_pos z]
        · unfold zq_sv; rw [if_neg z, if_pos z1]
        · unfold zq_sv; rw [if_neg z, if_neg z1]
      refine br_t e (pk_eq j 0 (fun z => l137 _ ?_) (fun z => pk_eq j 1 (fun z1 => l137 _ ?_) (fun z1 => l137 _ ?_)))
      · unfold zq_sv; rw [if_pos z]
      · unfold zq_sv; rw [if_neg z, if_pos z1]
      · unfold zq_sv; rw [if_neg z, if_neg z1]
    · refine br_f e (nm_r (nI_1 m) ?_)
      exact ih (m + 1) f x3 x4 sr' sd' (by omega) (by omega) (zq_fl_i f3 (zq_any_n (A := fun n => tr n = -1) hA)) (zq_fl_i f4 (zq_eqs_n (A := fun n => tr n = -1) hA))
end
