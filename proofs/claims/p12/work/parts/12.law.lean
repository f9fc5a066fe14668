/-! the law -/
theorem zl_cell {post : Int32 → Prop} {L : Nat} {xs : Nat → Int32} {p : Int32} {j : Nat} (hL : L ≤ 260) (hj : j < 2 ^ 31) (e : p = nI j) (h : ∀ r, post r) : wpL_cell post L xs () p := by
  subst e
  unfold wpL_cell
  refine br_c (fun _ => h 0) (fun hn => ⟨?_, h _⟩)
  have hlt : ¬ L ≤ j := fun z => hn ((nI_leI (by omega) hj).mpr z)
  exact vp_in_nI (by omega) (by omega)
theorem zl_m {post : Int32 → Prop} {x k : Int32} {m : Nat} (e : k = nI m) (h0 : 0 < m) (hm : m < 2 ^ 31) (h : ∀ j, j < m → post (nI j)) : wpL_m post () x k := by
  subst e
  unfold wpL_m
  have ti := nI_toInt hm
  have b := fmv_bounds (a := x) (m := nI m) (by rw [ti]; omega)
  rw [ti] at b
  have key : ∀ y : Int32, 0 ≤ y.toInt → y.toInt < m → post y := by
    intro y y0 y1
    have hn : ¬ y < 0 := by
      intro z
      have w := Int32.lt_iff_toInt_lt.mp z
      rw [show (0 : Int32).toInt = 0 from by decide] at w
      omega
    obtain ⟨j, hj, rfl⟩ := nI_of hn
    rw [nI_toInt hj] at y1
    exact h j (by omega)
  refine ⟨nI_ne0 h0 hm, fun y ey => ?_⟩
  unfold fmv fmOf at b
  rw [← ey] at b
  refine br_c (fun hy => ?_) (fun hy => ?_)
  · rw [if_pos hy] at b
    exact key y b.1 b.2
  · rw [if_neg hy] at b
    exact key _ b.1 b.2
theorem zl_code {post : Int32 → Prop} {x : Int32} {D : Nat} (h6 : D ≤ 6) (h : ∀ r, post r) : wpL_code post () x (nI D) := by
  unfold wpL_code
  refine zl_m (m := D + 3) (nI_add D 3) (by omega) (by omega) (fun j _ => ?_)
  exact br_c (fun _ => h _) (fun _ => h _)
section
variable {mx ins cnt st cp : Int32} {K X Y Z rs dt sz tr bd el : Nat → Int32} {post : Int32 → Prop} {L : Nat} {xs : Nat → Int32} {x4 x5 : Int32} {kc ks D c : Nat} {rk : Nat → Nat}
  {J : Int32 → Int32 → Int32 → Int32 → Int32 → Int32 → Int32 → (Nat → Int32) → (Nat → Int32) → (Nat → Int32) → (Nat → Int32) → (Nat → Int32) → (Nat → Int32) → (Nat → Int32) → (Nat → Int32) → (Nat → Int32) → (Nat → Int32) → Prop}
theorem zl_370 (hI : zq_inv D c rk K X Y Z rs sz tr bd)
    (H : ∀ (c : Nat) (rk : Nat → Nat) (st cp : Int32) (K X Y Z rs dt sz tr bd el : Nat → Int32), zq_inv D c rk K X Y Z rs sz tr bd → wL_law_706 post L xs J (nI D) (nI c) x4 x5 kc ks (nI D) (nI (D * D * D)) (nI c) st cp K X Y Z rs dt sz tr bd el) (k x y z : Int32) :
    wpX_addNode (fun r u => match u with | (mx, ins, cnt, st, cp, K, X, Y, Z, rs, dt, sz, tr, bd, el) => wL_law_370 post L xs J (nI D) (nI c) x4 x5 r kc ks mx ins cnt st cp K X Y Z rs dt sz tr bd el) (nI D, nI (D * D * D), nI c, st, cp, K, X, Y, Z, rs, dt, sz, tr, bd, el) k x y z := by
  have hI' := hI
  obtain ⟨h2, h6, hc, hr, hn, ht, hb⟩ := hI'
  have bad : wL_law_370 post L xs J (nI D) (nI c) x4 x5 (-1) kc ks (nI D) (nI (D * D * D)) (nI c) st cp K X Y Z rs dt sz tr bd el := by
    unfold wL_law_370
    refine br_t (by decide) ?_
    unfold wL_law_378
    exact H c rk st cp K X Y Z rs dt sz tr bd el hI
  refine zx_add h2 h6 hc hr hn ht (fun _ => bad) (fun _ _ => bad) (fun hlt _ r dt' sz' tr' hnd r2 _ ht' => ?_)
  dsimp only
  unfold wL_law_370
  refine br_f (nI_pos (by omega)) (nm_r (nI_1 c) ?_)
  unfold wL_law_378
  exact H (c + 1) _ 0 0 _ _ _ _ _ dt' sz' tr' bd el (zr_add hI hlt hnd r2 ht')
theorem zl_143 (hI : zq_inv D c rk K X Y Z rs sz tr bd) {x8 x9 x10 x11 x12 : Int32} (h1 : x12 = 1 ∨ 0 < c)
    (H : ∀ (c : Nat) (rk : Nat → Nat) (st cp : Int32) (K X Y Z rs dt sz tr bd el : Nat → Int32), zq_inv D c rk K X Y Z rs sz tr bd → wL_law_706 post L xs J (nI D) (nI c) x4 x5 kc ks (nI D) (nI (D * D * D)) (nI c) st cp K X Y Z rs dt sz tr bd el) :
    wL_law_143 post L xs J (nI D) (nI c) x4 x5 x8 x9 x10 x11 x12 kc ks (nI D) (nI (D * D * D)) (nI c) st cp K X Y Z rs dt sz tr bd el := by
  have h6 := hI.2.1
  have hc := hI.2.2.1
  have A := zl_370 (st := st) (cp := cp) (dt := dt) (el := el) hI H
  have l193 : ∀ x15 z0, wL_law_193 post L xs J (nI D) (nI c) x4 x5 x12 x15 z0 kc ks (nI D) (nI (D * D * D)) (nI c) st cp K X Y Z rs dt sz tr bd el := by
    intro x15 z0
    unfold wL_law_193
    exact A _ _ _ _
  have l175 : ∀ x14 z0, wL_law_175 post L xs J (nI D) (nI c) x4 x5 x10 x12 x14 z0 kc ks (nI D) (nI (D * D * D)) (nI c) st cp K X Y Z rs dt sz tr bd el := by
    intro x14 z0
    unfold wL_law_175
    exact br_c (fun _ => zl_code h6 (fun r => l193 _ r)) (fun _ => l193 _ _)
  have l326 : 0 < c → ∀ x15 z0, wL_law_326 post L xs J (nI D) (nI c) x4 x5 x8 x12 x15 z0 kc ks (nI D) (nI (D * D * D)) (nI c) st cp K X Y Z rs dt sz tr bd el := by
    intro hc0 x15 z0
    unfold wL_law_326
    exact zl_m rfl hc0 (by omega) (fun j _ => A _ _ _ _)
  have l308 : 0 < c → ∀ x14 z0, wL_law_308 post L xs J (nI D) (nI c) x4 x5 x8 x11 x12 x14 z0 kc ks (nI D) (nI (D * D * D)) (nI c) st cp K X Y Z rs dt sz tr bd el := by
    intro hc0 x14 z0
    unfold wL_law_308
    exact br_c (fun _ => zl_code h6 (fun r => l326 hc0 _ r)) (fun _ => l326 hc0 _ _)
  have l229 : 0 < c → wL_law_229 post L xs J (nI D) (nI c) x4 x5 x8 x9 x12 kc ks (nI D) (nI (D * D * D)) (nI c) st cp K X Y Z rs dt sz tr bd el := by
    intro hc0
    unfold wL_law_229
    exact zl_m rfl hc0 (by omega) (fun j _ => zl_m rfl hc0 (by omega) (fun j' _ => A _ _ _ _))
  unfold wL_law_143
  refine br_c (fun _ => ?_) (fun h12 => ?_)
  · exact zl_m (m := 3) rfl (by omega) (by omega) (fun j _ => br_c (fun _ => l175 _ _) (fun _ => zl_code h6 (fun r => l175 _ r)))
  · have hc0 : 0 < c := by
      rcases h1 with h1 | h1
      · exact absurd h1 h12
      · exact h1
    refine br_c (fun _ => l229 hc0) (fun _ => br_c (fun _ => l229 hc0) (fun _ => br_c (fun _ => l229 hc0) (fun _ => br_c (fun _ => ?_) (fun _ => br_c (fun _ => ?_) (fun _ => ?_)))))
    · exact zl_m rfl hc0 (by omega) (fun j _ => A _ _ _ _)
    · exact zl_m (m := 3) rfl (by omega) (by omega) (fun j _ => br_c (fun _ => l308 hc0 _ _) (fun _ => zl_code h6 (fun r => l308 hc0 _ r)))
    · exact zl_m rfl hc0 (by omega) (fun j _ => zl_m (m := 2) rfl (by omega) (by omega) (fun j' _ => A _ _ _ _))
/-- a cell of a computed node -/
theorem zl_cel {n v s R C : Nat} {r : Nat} (g : zq_good D r R C) (e0 : sz (n * 35 + v * 2) = nI R) (e1 : sz (n * 35 + v * 2 + 1) = nI C) (hs : s < r) : ∃ w, 1 ≤ w ∧ w ≤ D ∧ sz (n * 35 + (v * 2 + 2 - r + s)) = nI w := by
  unfold zq_good at g
  have e : v * 2 + 2 - r + s = v * 2 ∨ v * 2 + 2 - r + s = v * 2 + 1 := by omega
  rcases e with e | e
  · exact ⟨R, by omega, by omega, by rw [e]; exact e0⟩
  · exact ⟨C, by omega, by omega, by rw [e, ← Nat.add_assoc]; exact e1⟩
theorem zl_645 {J627 : Int32 → Prop} {x14 : Int32} {b0 b1 b2 t v : Nat} {R C : Nat → Nat} (hI : zq_inv D c rk K X Y Z rs sz tr bd) (hb0 : b0 < D) (hb1 : b1 < D) (hb2 : b2 < D) (e0 : bd 0 = nI (b0 + 1)) (e1 : bd 1 = nI (b1 + 1)) (e2 : bd 2 = nI (b2 + 1)) (htc : t ≤ c) (hv : v < t)
    (hcell : ∀ i, i < t → zq_good D (rk i) (R i) (C i) ∧ sz (((b0 * D + b1) * D + b2) * 35 + i * 2) = nI (R i) ∧ sz (((b0 * D + b1) * D + b2) * 35 + i * 2 + 1) = nI (C i)) (hJ : J627 (nI (v + 1))) :
    ∀ d s fu : Nat, s + d = rk v → d < fu → wL_law_645 post L xs J J627 (nI D) (nI c) x4 x5 x14 (nI v) (nI (rk v)) kc ks (nI D) (nI (D * D * D)) (nI c) st (nI t) K X Y Z rs dt sz tr bd el fu (nI s) := by
  obtain ⟨h2, h6, hc, hr, hn, ht, _⟩ := hI
  have rv := (hr v (by omega)).2
  intro d
  induction d with
  | zero =>
    intro s fu hs hf
    obtain ⟨f, rfl⟩ : ∃ f, fu = f + 1 := ⟨fu - 1, by omega⟩
    have e : s = rk v := by omega
    subst e
    rw [wL_law_645]
    exact br_t (Int32.le_refl _) (nm_r (nI_1 v) hJ)
  | succ d ih =>
    intro s fu hs hf
    obtain ⟨f, rfl⟩ : ∃ f, fu = f + 1 := ⟨fu - 1, by omega⟩
    rw [wL_law_645]
    refine br_f (nI_ge (by omega) (by omega)) (br_f (nI_ge (b := 2) (by omega) (by decide)) ?_)
    refine zx_vd h2 h6 hc htc hr hb0 hb1 hb2 e0 e1 e2 hv (by omega) ?_
    obtain ⟨g, q0, q1⟩ := hcell v hv
    obtain ⟨w, w1, w2, ew⟩ := zl_cel g q0 q1 (show s < rk v by omega)
    rw [ew]
    refine br_f (nI_nlt (b := 1) (by omega) (by omega)) (br_t (nI_le w2 (by omega)) (nm_r (nI_1 s) ?_))
    exact ih (s + 1) f (by omega) (by omega)
theorem zl_627 {b0 b1 b2 t : Nat} {R C : Nat → Nat} (hI : zq_inv D c rk K X Y Z rs sz tr bd) (hb0 : b0 < D) (hb1 : b1 < D) (hb2 : b2 < D) (e0 : bd 0 = nI (b0 + 1)) (e1 : bd 1 = nI (b1 + 1)) (e2 : bd 2 = nI (b2 + 1)) (htc : t < c)
    (hcell : ∀ i, i < t → zq_good D (rk i) (R i) (C i) ∧ sz (((b0 * D + b1) * D + b2) * 35 + i * 2) = nI (R i) ∧ sz (((b0 * D + b1) * D + b2) * 35 + i * 2 + 1) = nI (C i))
    (H : wL_law_706 post L xs J (nI D) (nI c) x4 x5 kc ks (nI D) (nI (D * D * D)) (nI c) st (nI t) K X Y Z rs dt sz tr bd el) :
    ∀ d v fu : Nat, v + d = t → d < fu → wL_law_627 post L xs J (nI D) (nI c) x4 x5 (nI t) kc ks (nI D) (nI (D * D * D)) (nI c) st (nI t) K X Y Z rs dt sz tr bd el fu (nI v) := by
  have hI' := hI
  obtain ⟨h2, h6, hc, hr, hn, ht, _⟩ := hI'
  intro d
  induction d with
  | zero =>
    intro v fu hs hf
    obtain ⟨f, rfl⟩ : ∃ f, fu = f + 1 := ⟨fu - 1, by omega⟩
    have e : v = t := by omega
    subst e
    rw [wL_law_627]
    refine br_t (Int32.le_refl _) (zx_vd0 (by omega) ?_ (br_t rfl H))
    rintro ⟨j, hj, ej⟩
    have w := (nI_eq (by omega) (by omega)).mp ej
    omega
  | succ d ih =>
    intro v fu hs hf
    obtain ⟨f, rfl⟩ : ∃ f, fu = f + 1 := ⟨fu - 1, by omega⟩
    rw [wL_law_627]
    refine br_f (nI_ge (by omega) (by omega)) (zx_rkO hc (by omega) ?_)
    rw [(hr v (by omega)).1]
    exact ⟨rk v + 1, zl_645 hI hb0 hb1 hb2 e0 e1 e2 (by omega) (by omega) hcell (ih (v + 1) f (by omega) (by omega)) (rk v) 0 (rk v + 1) (by omega) (by omega)⟩
theorem zl_480 {J463 : Int32 → Prop} {b0 b1 b2 v : Nat} {R C : Nat → Nat} (hI : zq_inv D c rk K X Y Z rs sz tr bd) (hb0 : b0 < D) (hb1 : b1 < D) (hb2 : b2 < D) (e0 : bd 0 = nI (b0 + 1)) (e1 : bd 1 = nI (b1 + 1)) (e2 : bd 2 = nI (b2 + 1)) (hv : v < c)
    (hA : tr ((b0 * D + b1) * D + b2) = -1)
    (hcell : ∀ i, i < c → zq_good D (rk i) (R i) (C i) ∧ sz (((b0 * D + b1) * D + b2) * 35 + i * 2) = nI (R i) ∧ sz (((b0 * D + b1) * D + b2) * 35 + i * 2 + 1) = nI (C i)) (hJ : J463 (nI (v + 1))) :
    ∀ d s fu : Nat, s + d = rk v → d < fu → wL_law_480 post L xs J J463 (nI D) (nI c) x4 x5 (nI v) (nI (rk v)) kc ks (nI D) (nI (D * D * D)) (nI c) st (nI c) K X Y Z rs dt sz tr bd el fu (nI s) := by
  obtain ⟨h2, h6, hc, hr, hn, ht, _⟩ := hI
  have rv := (hr v (by omega)).2
  have en := zq_enc h2 h6 hb0 hb1 hb2
  intro d
  induction d with
  | zero =>
    intro s fu hs hf
    obtain ⟨f, rfl⟩ : ∃ f, fu = f + 1 := ⟨fu - 1, by omega⟩
    have e : s = rk v := by omega
    subst e
    rw [wL_law_480]
    exact br_t (Int32.le_refl _) (nm_r (nI_1 v) hJ)
  | succ d ih =>
    intro s fu hs hf
    obtain ⟨f, rfl⟩ : ∃ f, fu = f + 1 := ⟨fu - 1, by omega⟩
    have next := ih (s + 1) f (by omega) (by omega)
    obtain ⟨g, q0, q1⟩ := hcell v hv
    obtain ⟨w, w1, w2, ew⟩ := zl_cel g q0 q1 (show s < rk v by omega)
    rw [wL_law_480]
    refine br_f (nI_ge (by omega) (by omega)) (br_f (nI_ge (b := 2) (by omega) (by decide)) ?_)
    refine zx_dim (rk := rk) (zq_216 h6) hc hr (fun n i hnN hA hi => zr_nz h6 (ht n hnN) hc hA hi) (fun h => absurd ⟨v, s, hv, rfl, rfl, by omega⟩ h) (fun p s' r hp ex ey hs' hd => ?_)
    have ep := (nI_eq (by omega) (by omega)).mp ex
    have es := (nI_eq (by omega) (by have := (hr p hp).2; omega)).mp ey
    subst ep es
    refine zx_vd h2 h6 hc (Nat.le_refl c) hr hb0 hb1 hb2 e0 e1 e2 hv hs' ?_
    have anyA : zq_any (fun n => tr n = -1) (D * D * D) := ⟨_, en.1, hA⟩
    have sym : sz (((b0 * D + b1) * D + b2) * 35 + 32) = bd 0 ∧ sz (((b0 * D + b1) * D + b2) * 35 + 33) = bd 1 ∧ sz (((b0 * D + b1) * D + b2) * 35 + 34) = bd 2 := by
      obtain ⟨t1, t2, t3, _⟩ := ht _ en.1
      rw [en.2.1] at t1
      rw [en.2.2.1] at t2
      rw [en.2.2.2] at t3
      exact ⟨t1.trans e0.symm, t2.trans e1.symm, t3.trans e2.symm⟩
    rcases hd with ⟨h, _⟩ | ⟨hsame, m, hm, hAm, er⟩ | ⟨_, _, h3⟩
    · exact absurd anyA h
    · have eg : sz (((b0 * D + b1) * D + b2) * 35 + (v * 2 + 2 - rk v + s)) = r := (hsame _ m en.1 hm hA hAm).trans er.symm
      refine br_f ?_ (br_t eg (nm_r (nI_1 s) next))
      rw [← eg, ew]
      exact nI_nlt (b := 1) (by omega) (by omega)
    · rcases h3 with ⟨q, rfl⟩ | ⟨_, q, rfl⟩ | ⟨_, _, q, rfl⟩ | ⟨_, _, _, rfl⟩
      · refine br_t (by decide) (br_f (by decide) (br_f (by decide) ?_))
        rw [show -(-1 : Int32) - 1 = nI 0 from by decide]
        exact zx_bva (by omega) (br_t ((q _ en.1 hA).trans sym.1) (nm_r (nI_1 s) next))
      · refine br_t (by decide) (br_f (by decide) (br_f (by decide) ?_))
        rw [show -(-2 : Int32) - 1 = nI 1 from by decide]
        exact zx_bva (by omega) (br_t ((q _ en.1 hA).trans sym.2.1) (nm_r (nI_1 s) next))
      · refine br_t (by decide) (br_f (by decide) (br_f (by decide) ?_))
        rw [show -(-3 : Int32) - 1 = nI 2 from by decide]
        exact zx_bva (by omega) (br_t ((q _ en.1 hA).trans sym.2.2) (nm_r (nI_1 s) next))
      · refine br_t (by decide) (br_t (by decide) ?_)
        unfold wL_law_557
        rw [ew]
        exact br_t rfl (br_f (nI_nlt (b := 1) (by omega) (by omega)) (br_t (nI_le w2 (by omega)) (nm_r (nI_1 s) next)))
theorem zl_463 {b0 b1 b2 : Nat} {R C : Nat → Nat} (hI : zq_inv D c rk K X Y Z rs sz tr bd) (hb0 : b0 < D) (hb1 : b1 < D) (hb2 : b2 < D) (e0 : bd 0 = nI (b0 + 1)) (e1 : bd 1 = nI (b1 + 1)) (e2 : bd 2 = nI (b2 + 1))
    (hA : tr ((b0 * D + b1) * D + b2) = -1)
    (hcell : ∀ i, i < c → zq_good D (rk i) (R i) (C i) ∧ sz (((b0 * D + b1) * D + b2) * 35 + i * 2) = nI (R i) ∧ sz (((b0 * D + b1) * D + b2) * 35 + i * 2 + 1) = nI (C i))
    (H : wL_law_706 post L xs J (nI D) (nI c) x4 x5 kc ks (nI D) (nI (D * D * D)) (nI c) st (nI c) K X Y Z rs dt sz tr bd el) :
    ∀ d v fu : Nat, v + d = c → d < fu → wL_law_463 post L xs J (nI D) (nI c) x4 x5 kc ks (nI D) (nI (D * D * D)) (nI c) st (nI c) K X Y Z rs dt sz tr bd el fu (nI v) := by
  have hI' := hI
  obtain ⟨h2, h6, hc, hr, hn, ht, _⟩ := hI'
  intro d
  induction d with
  | zero =>
    intro v fu hs hf
    obtain ⟨f, rfl⟩ : ∃ f, fu = f + 1 := ⟨fu - 1, by omega⟩
    have e : v = c := by omega
    subst e
    rw [wL_law_463]
    exact br_t (Int32.le_refl _) H
  | succ d ih =>
    intro v fu hs hf
    obtain ⟨f, rfl⟩ : ∃ f, fu = f + 1 := ⟨fu - 1, by omega⟩
    rw [wL_law_463]
    refine br_f (nI_ge (by omega) (by omega)) (zx_rkO hc (by omega) ?_)
    rw [(hr v (by omega)).1]
    exact ⟨rk v + 1, zl_480 hI hb0 hb1 hb2 e0 e1 e2 (by omega) hA hcell (ih (v + 1) f (by omega) (by omega)) (rk v) 0 (rk v + 1) (by omega) (by omega)⟩
theorem zl_61 {q : Nat} {z0 : Int32} (hL : L ≤ 260) (hq : q < 300) (hI : zq_inv D c rk K X Y Z rs sz tr bd)
    (H : ∀ (c : Nat) (rk : Nat → Nat) (st cp : Int32) (K X Y Z rs dt sz tr bd el : Nat → Int32), zq_inv D c rk K X Y Z rs sz tr bd → wL_law_706 post L xs J (nI D) (nI c) (nI q) x5 kc ks (nI D) (nI (D * D * D)) (nI c) st cp K X Y Z rs dt sz tr bd el) :
    wL_law_61 post L xs J (nI D) (nI c) (nI q) x5 z0 kc ks (nI D) (nI (D * D * D)) (nI c) st cp K X Y Z rs dt sz tr bd el := by
  have hI' := hI
  obtain ⟨h2, h6, hc, hr, hn, ht, b0, b1, b2, hb0, hb1, hb2, e0, e1, e2⟩ := hI'
  unfold wL_law_61
  refine zl_cell (j := q + 1) hL (by omega) (nI_add q 1) (fun r49 => zl_cell (j := q + 2) hL (by omega) (nI_add q 2) (fun r50 => zl_cell (j := q + 3) hL (by omega) (nI_add q 3) (fun r51 => zl_cell (j := q + 4) hL (by omega) (nI_add q 4) (fun r52 => zl_cell (j := q + 5) hL (by omega) (nI_add q 5) (fun r53 => ?_)))))
  refine br_c (fun _ => br_c (fun _ => ?_) (fun _ => ?_)) (fun _ => br_c (fun _ => ?_) (fun h16 => ?_))
  · refine zx_bva (j := 0) (by omega) (zx_bva (j := 1) (by omega) (zx_bva (j := 2) (by omega) ?_))
    rw [e0, e1, e2]
    refine zx_adm h2 h6 hb0 hb1 hb2 (fun hA => ?_) (fun hA => ?_)
    · refine zx_run hI hb0 hb1 hb2 e0 e1 e2 (fun R C el' _ hcell => ?_) (fun t R C el' hA' _ _ => absurd hA hA')
      refine br_t rfl (br_f (by decide) ?_)
      unfold wpX_runState
      exact br_t rfl ⟨c + 1, zl_463 hI hb0 hb1 hb2 e0 e1 e2 hA hcell (H c rk _ _ K X Y Z rs dt sz tr bd el' hI) c 0 (c + 1) (by omega) (by omega)⟩
    · refine zx_run hI hb0 hb1 hb2 e0 e1 e2 (fun R C el' hA' _ => absurd hA' hA) (fun t R C el' _ htc hcell => ?_)
      refine br_t rfl (br_t rfl ?_)
      unfold wpX_runState
      refine br_t rfl ?_
      unfold wpX_trapNode
      refine br_t rfl (br_f (nI_pos (by omega)) (br_t (nI_lt htc (by omega)) ⟨t + 1, ?_⟩))
      exact zl_627 hI hb0 hb1 hb2 e0 e1 e2 htc hcell (H c rk _ _ K X Y Z rs dt sz tr bd el' hI) t 0 (t + 1) (by omega) (by omega)
  · refine zl_m (m := 3) rfl (by omega) (by omega) (fun j hj => zl_m (m := D) rfl (by omega) (by omega) (fun d hd => ?_))
    have e : (1 : Int32) + nI d = nI (d + 1) := by
      rw [Nat.add_comm]
      exact nI_add 1 d
    rw [e]
    refine zx_bnd hj h6 hd ?_
    refine H c rk 0 0 K X Y Z rs dt sz tr _ el ⟨h2, h6, hc, hr, hn, ht, ?_⟩
    have ej : j = 0 ∨ j = 1 ∨ j = 2 := by omega
    rcases ej with rfl | rfl | rfl
    · exact ⟨d, b1, b2, hd, hb1, hb2, pk_us, by rw [pk_un (by omega)]; exact e1, by rw [pk_un (by omega)]; exact e2⟩
    · exact ⟨b0, d, b2, hb0, hd, hb2, by rw [pk_un (by omega)]; exact e0, pk_us, by rw [pk_un (by omega)]; exact e2⟩
    · exact ⟨b0, b1, d, hb0, hb1, hd, by rw [pk_un (by omega)]; exact e0, by rw [pk_un (by omega)]; exact e1, pk_us⟩
  · exact H c rk st cp K X Y Z rs dt sz tr bd el hI
  · refine zl_m (m := 7) rfl (by omega) (by omega) (fun j hj => nm_e (br_c (fun _ => ?_) (fun hz => ?_)))
    · exact zl_143 hI (Or.inl rfl) H
    · have hc0 : 0 < c := by
        refine Nat.pos_of_ne_zero (fun z => hz ?_)
        rw [z]
        rfl
      exact zl_143 hI (Or.inr hc0) H
end
section
variable {L : Nat} {xs : Nat → Int32} {kc ks D : Nat}
theorem zl_26 (hL : L ≤ 260) : ∀ d q fu c : Nat, ∀ (rk : Nat → Nat) (st cp : Int32) (K X Y Z rs dt sz tr bd el : Nat → Int32), L ≤ q + d → d < fu → q < 300 → zq_inv D c rk K X Y Z rs sz tr bd →
    wL_law_26 (fun r => r = 1) L xs (nI D) kc ks fu (nI c) (nI q) (nI D) (nI (D * D * D)) (nI c) st cp K X Y Z rs dt sz tr bd el := by
  intro d
  induction d with
  | zero =>
    intro q fu c rk st cp K X Y Z rs dt sz tr bd el hd hf hq hI
    obtain ⟨f, rfl⟩ : ∃ f, fu = f + 1 := ⟨fu - 1, by omega⟩
    rw [wL_law_26]
    refine br_f (nI_nlt (b := L) (by omega) (by omega)) ?_
    unfold wL_law_38
    refine br_f (by decide) (zl_61 hL hq hI (fun c rk st cp K X Y Z rs dt sz tr bd el _ => ?_))
    unfold wL_law_706
    exact br_f (by decide) rfl
  | succ d ih =>
    intro q fu c rk st cp K X Y Z rs dt sz tr bd el hd hf hq hI
    obtain ⟨f, rfl⟩ : ∃ f, fu = f + 1 := ⟨fu - 1, by omega⟩
    rw [wL_law_26]
    refine br_c (fun hlt => ?_) (fun _ => ?_)
    · have hqL : q < L := (nI_ltI (by omega) (by omega)).mp hlt
      unfold wL_law_38
      refine br_t rfl (zl_cell hL (by omega) rfl (fun r => zl_m (m := 8) rfl (by omega) (by omega) (fun j _ => ?_)))
      refine zl_61 hL hq hI (fun c rk st cp K X Y Z rs dt sz tr bd el hI' => ?_)
      unfold wL_law_706
      exact br_t rfl (nm_r (nI_add q 6) (ih (q + 6) f c rk st cp K X Y Z rs dt sz tr bd el (by omega) (by omega) (by omega) hI'))
    · unfold wL_law_38
      refine br_f (by decide) (zl_61 hL hq hI (fun c rk st cp K X Y Z rs dt sz tr bd el _ => ?_))
      unfold wL_law_706
      exact br_f (by decide) rfl
end
theorem i_vc (xs : Nat → Int32) (L : Nat) (hL : L ≤ 260) : wpL_law (fun r => r = 1) L xs := by
  unfold wpL_law
  refine zl_cell (j := 0) hL (by omega) rfl (fun r => zl_m (m := 5) rfl (by omega) (by omega) (fun j hj => nm_r (nI_add 2 j) ⟨10, 9011, by omega, by omega, ?_⟩))
  refine zx_init (D := 2 + j) (by omega) (by omega) (fun sz' tr' hE => ⟨L + 1, ?_⟩)
  refine zl_26 (D := 2 + j) hL L 1 (L + 1) 0 (fun _ => 0) 0 0 _ _ _ _ _ _ sz' tr' _ _ (by omega) (by omega) (by omega) ⟨by omega, by omega, by omega, fun j hj => absurd hj (by omega), fun j hj => absurd hj (by omega), fun n hn => ?_, 0, 0, 0, by omega, by omega, by omega, rfl, rfl, rfl⟩
  obtain ⟨e1, e2, e3, e4⟩ := hE n hn
  exact ⟨e2, e3, e4, 0, fun _ => 0, fun _ => 0, ⟨Nat.le_refl _, fun i hi => absurd hi (by omega), fun z => absurd z (by omega)⟩, fun i hi => absurd hi (by omega), Or.inl ⟨rfl, e1⟩⟩
