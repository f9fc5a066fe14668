/-! what is owed -/
theorem zq_ck2 {x : Int32} {A B : Prop} (ok : ∀ j, j < 3 → x = nI j → A) (no : ¬ (∃ j, j < 3 ∧ x = nI j) → B) : (x < 0 → B) ∧ (¬ x < 0 → ((x ≤ 2 → A) ∧ (¬ x ≤ 2 → B))) := by
  refine br_c (fun h => no ?_) (fun h => br_c (fun h1 => ?_) (fun h1 => no ?_))
  · intro ⟨j, hj, e⟩
    rw [e] at h
    exact nI_pos (by omega) h
  · obtain ⟨j, hj, rfl⟩ := nI_of h
    have w : j ≤ 2 := (nI_leI (b := 2) hj (by omega)).mp h1
    exact ok j (by omega) rfl
  · intro ⟨j, hj, e⟩
    rw [e] at h1
    exact h1 (nI_le (b := 2) (by omega) (by omega))
theorem zq_ck3 {x : Int32} {A B : Prop} (ok : ∀ j, j < 3 → x = nI j → A) (no : ¬ (∃ j, j < 3 ∧ x = nI j) → B) : (x < 0 → B) ∧ (¬ x < 0 → ((2 < x → B) ∧ (¬ 2 < x → A))) := by
  refine br_c (fun h => no ?_) (fun h => br_c (fun h1 => no ?_) (fun h1 => ?_))
  · intro ⟨j, hj, e⟩
    rw [e] at h
    exact nI_pos (by omega) h
  · intro ⟨j, hj, e⟩
    rw [e] at h1
    exact nI_nlt (b := j) (a := 2) (by omega) (by omega) h1
  · obtain ⟨j, hj, rfl⟩ := nI_of h
    have w : ¬ 2 < j := fun z => h1 ((nI_ltI (a := 2) (by omega) hj).mpr z)
    exact ok j (by omega) rfl
theorem i_vc0 (k0 : Int32) : wpX_init (fun u => wpY_init (fun v => i_Rel 1 u v) k0) k0 := by
  refine zx_init (fun D sz' tr' h2 h6 hk hE => ?_)
  have main : i_Rel 1 (nI D, nI (D * D * D), 0, 0, 0, (fun _ => 0), (fun _ => 0), (fun _ => 0), (fun _ => 0), (fun _ => 0), (fun _ => 0), sz', tr', upd (upd (upd (fun _ => 0) 0 1) 1 1) 2 1, (fun _ => 0)) (nI D, 0, 0, -1, (fun _ => 0), (fun _ => 0), (fun _ => 0), (fun _ => 0), (fun _ => 0), upd (upd (upd (fun _ => 0) 0 1) 1 1) 2 1, (fun _ => 0), (fun _ => 0), (fun _ => 0), (fun _ => 0), (fun _ => 0), (fun _ => 0)) := by
    refine zr_mk (D := D) (c := 0) (rk := fun _ => 0) (st := 0) (cp := 0) (tp := -1) ⟨h2, h6, by omega, fun j hj => absurd hj (by omega), fun j hj => absurd hj (by omega), fun n hn => ?_, 0, 0, 0, by omega, by omega, by omega, rfl, rfl, rfl⟩ (Or.inl ⟨rfl, rfl⟩)
    obtain ⟨e1, e2, e3, e4⟩ := hE n hn
    exact ⟨e2, e3, e4, 0, fun _ => 0, fun _ => 0, ⟨Nat.le_refl _, fun i hi => absurd hi (by omega), fun z => absurd z (by omega)⟩, fun i hi => absurd hi (by omega), Or.inl ⟨rfl, e1⟩⟩
  unfold wpY_init
  rcases hk with ⟨q2, q6, e⟩ | ⟨q2, q6, e⟩ | ⟨q2, e⟩
  · subst e
    refine br_t q2 (br_t q6 ?_)
    unfold wY_init_123
    exact nm_e (nm_e (nm_e main))
  · subst e
    refine br_t q2 (br_f q6 ?_)
    unfold wY_init_123
    exact nm_e (nm_e (nm_e main))
  · subst e
    refine br_f q2 ?_
    unfold wY_init_123
    exact nm_e (nm_e (nm_e main))
theorem i_vc_addNode {k : Nat} {u : SX} {v : SY} (I : i_Rel k u v) (hk : k + 5 ≤ 2561) (v1 : Int32) (v2 : Int32) (v3 : Int32) (v4 : Int32) : wpX_addNode (fun r u' => wpY_addNode (fun r' v' => r' = r ∧ i_Rel (k + 5) u' v') v v1 v2 v3 v4) u v1 v2 v3 v4 := by
  obtain ⟨D, c, rk, st, cp, tp, K, X, Y, Z, rs, dt, sz, tr, bd, el, rq, sr, sd, vr, vd, rfl, rfl, hI, hR⟩ := I
  have hI' := hI
  obtain ⟨h2, h6, hc, hr, hn, ht, hb⟩ := hI'
  have hr2 : ∀ j, j < c → rk j ≤ 2 := fun j hj => (hr j hj).2
  refine zx_add h2 h6 hc hr hn ht (fun e => ?_) (fun h hv => ?_) (fun h hv r dt' sz' tr' hnd r2 ed ht' => ?_)
  · exact zy_add h6 hc hr2 hn (fun _ => ⟨rfl, zr_mk hI hR⟩) (fun h _ _ => absurd h (by omega)) (fun h _ _ _ _ => absurd h (by omega))
  · exact zy_add h6 hc hr2 hn (fun e => absurd e (by omega)) (fun _ _ rq' => ⟨rfl, zr_mk hI hR⟩) (fun _ hv' _ _ _ => absurd hv' hv)
  · refine zy_add h6 hc hr2 hn (fun e => absurd e (by omega)) (fun _ hv' _ => absurd hv hv') (fun _ _ rq' dt'' ed' => ⟨rfl, ?_⟩)
    rw [ed', ← ed]
    exact zr_mk (zr_add hI h hnd r2 ht') (Or.inl ⟨rfl, rfl⟩)
theorem i_vc_rankOf {k : Nat} {u : SX} {v : SY} (I : i_Rel k u v) (hk : k + 5 ≤ 2561) (v1 : Int32) : wpX_rankOf (fun r => wpY_rankOf (fun r' v' => r' = r ∧ i_Rel (k + 5) u v') v v1) u v1 := by
  obtain ⟨D, c, rk, st, cp, tp, K, X, Y, Z, rs, dt, sz, tr, bd, el, rq, sr, sd, vr, vd, rfl, rfl, hI, hR⟩ := I
  have hI' := hI
  obtain ⟨h2, h6, hc, hr, hn, ht, hb⟩ := hI'
  have hr2 : ∀ j, j < c → rk j ≤ 2 := fun j hj => (hr j hj).2
  unfold wpX_rankOf
  dsimp only
  refine zx_isn hc (fun j hj e => br_f (by decide) ?_) (fun h => br_t rfl ?_)
  · subst e
    rw [nI_clamp (by omega), (hr j hj).1]
    exact ⟨vp_in_nI (by omega) (by omega), zy_rank hc hj hn hr2 (fun rq' => ⟨rfl, zr_mk hI hR⟩)⟩
  · unfold wpY_rankOf
    dsimp only
    exact zq_ckl (by omega) (fun j hj e => absurd ⟨j, hj, e⟩ h) (fun _ => ⟨rfl, zr_mk hI hR⟩)
theorem i_vc_accepted {k : Nat} {u : SX} {v : SY} (I : i_Rel k u v) (hk : k + 5 ≤ 2561) : wpX_accepted (fun r => wpY_accepted (fun r' v' => r' = r ∧ i_Rel (k + 5) u v') v) u := by
  obtain ⟨D, c, rk, st, cp, tp, K, X, Y, Z, rs, dt, sz, tr, bd, el, rq, sr, sd, vr, vd, rfl, rfl, hI, hR⟩ := I
  have hI' := hI
  obtain ⟨h2, h6, hc, hr, hn, ht, hb⟩ := hI'
  have hr2 : ∀ j, j < c → rk j ≤ 2 := fun j hj => (hr j hj).2
  refine zx_acc (zq_216 h6) (fun ha => ?_) (fun ha => ?_)
  · exact zy_acc h2 h6 hc hn hr2 ht (fun _ sr' sd' => ⟨rfl, zr_mk hI hR⟩) (fun z => absurd ha z)
  · exact zy_acc h2 h6 hc hn hr2 ht (fun z => absurd z ha) (fun _ sr' sd' => ⟨rfl, zr_mk hI hR⟩)
section
variable {mx cnt st tp : Int32} {K X Y Z dt bd rq sr sd vr vd el : Nat → Int32} {sz tr : Nat → Int32} {D c : Nat} {rk : Nat → Nat}
theorem zy_adm {post : Int32 → SY → Prop} {x y z : Int32} (h2 : 2 ≤ D) (h6 : D ≤ 6) (hc : c ≤ 16) (hn : ∀ i, i < c → zq_nd D i rk (K i) (X i) (Y i) (Z i)) (hr : ∀ j, j < c → rk j ≤ 2) (ht : ∀ n, n < D * D * D → zq_tb D c K X Y Z rk sz tr n)
    (ok : ∀ a b d, a < D → b < D → d < D → x = nI (a + 1) → y = nI (b + 1) → z = nI (d + 1) → tr ((a * D + b) * D + d) = -1 → ∀ sr' sd', post 1 (nI D, nI c, st, tp, K, X, Y, Z, dt, bd, rq, sr', sd', vr, vd, el))
    (ng : ∀ a b d, a < D → b < D → d < D → x = nI (a + 1) → y = nI (b + 1) → z = nI (d + 1) → ¬ tr ((a * D + b) * D + d) = -1 → ∀ sr' sd', post 0 (nI D, nI c, st, tp, K, X, Y, Z, dt, bd, rq, sr', sd', vr, vd, el))
    (no : ¬ ((∃ a, a < D ∧ x = nI (a + 1)) ∧ (∃ a, a < D ∧ y = nI (a + 1)) ∧ (∃ a, a < D ∧ z = nI (a + 1))) → post 0 (nI D, nI c, st, tp, K, X, Y, Z, dt, bd, rq, sr, sd, vr, vd, el)) : wpY_admissible post (nI D, nI c, st, tp, K, X, Y, Z, dt, bd, rq, sr, sd, vr, vd, el) x y z := by
  unfold wpY_admissible
  dsimp only
  refine zq_szl (by omega) (fun a ha ea => zq_szl (by omega) (fun b hb eb => zq_sze (by omega) (fun d hd ed => ?_) (fun h => no (fun w => h w.2.2))) (fun h => no (fun w => h w.2.1))) (fun h => no (fun w => h w.1))
  have en := zq_enc h2 h6 ha hb hd
  have key : ∀ post' : Int32 → SY → Prop, (∀ r sr' sd', ((r = nI c ∧ tr ((a * D + b) * D + d) = -1 ∧ ∀ i s, i < c → s < rk i → sd' (2 * i + s) = sz (((a * D + b) * D + d) * 35 + (i * 2 + 2 - rk i + s))) ∨ (¬ r = nI c ∧ ¬ tr ((a * D + b) * D + d) = -1)) → post' r (nI D, nI c, st, tp, K, X, Y, Z, dt, bd, rq, sr', sd', vr, vd, el)) → wpY_shapes post' (nI D, nI c, st, tp, K, X, Y, Z, dt, bd, rq, sr, sd, vr, vd, el) x y z := by
    intro post' hp'
    have W := zy_sat (sr := sr) (sd := sd) h2 h6 hc hn hr en.1 (ht _ en.1) hp'
    rw [en.2.1, en.2.2.1, en.2.2.2, ← ea, ← eb, ← ed] at W
    exact W
  refine key _ (fun r sr' sd' w => ?_)
  rcases w with ⟨e, hA, _⟩ | ⟨e, hA⟩
  · exact br_t e (ok a b d ha hb hd ea eb ed hA sr' sd')
  · exact br_f e (ng a b d ha hb hd ea eb ed hA sr' sd')
end
theorem i_vc_admissible {k : Nat} {u : SX} {v : SY} (I : i_Rel k u v) (hk : k + 5 ≤ 2561) (v1 : Int32) (v2 : Int32) (v3 : Int32) : wpX_admissible (fun r => wpY_admissible (fun r' v' => r' = r ∧ i_Rel (k + 5) u v') v v1 v2 v3) u v1 v2 v3 := by
  obtain ⟨D, c, rk, st, cp, tp, K, X, Y, Z, rs, dt, sz, tr, bd, el, rq, sr, sd, vr, vd, rfl, rfl, hI, hR⟩ := I
  have hI' := hI
  obtain ⟨h2, h6, hc, hr, hn, ht, hb⟩ := hI'
  have hr2 : ∀ j, j < c → rk j ≤ 2 := fun j hj => (hr j hj).2
  have h216 := zq_216 h6
  have Yno : ¬ ((∃ a, a < D ∧ v1 = nI (a + 1)) ∧ (∃ a, a < D ∧ v2 = nI (a + 1)) ∧ (∃ a, a < D ∧ v3 = nI (a + 1))) → wpY_admissible (fun r' v' => r' = 0 ∧ i_Rel (k + 5) (nI D, nI (D * D * D), nI c, st, cp, K, X, Y, Z, rs, dt, sz, tr, bd, el) v') (nI D, nI c, st, tp, K, X, Y, Z, dt, bd, rq, sr, sd, vr, vd, el) v1 v2 v3 := by
    intro h
    exact zy_adm h2 h6 hc hn hr2 ht (fun a b d ha hb hd ea eb ed _ => absurd ⟨⟨a, ha, ea⟩, ⟨b, hb, eb⟩, ⟨d, hd, ed⟩⟩ h) (fun a b d ha hb hd ea eb ed _ => absurd ⟨⟨a, ha, ea⟩, ⟨b, hb, eb⟩, ⟨d, hd, ed⟩⟩ h) (fun _ => ⟨rfl, zr_mk hI hR⟩)
  unfold wpX_admissible
  dsimp only
  refine zx_isz h6 (fun a ha ea => br_f (by decide) (zx_isz h6 (fun b hb eb => br_f (by decide) (zx_isz h6 (fun d hd ed => br_f (by decide) ?_) (fun h => br_t rfl (Yno (fun w => h w.2.2))))) (fun h => br_t rfl (Yno (fun w => h w.2.1))))) (fun h => br_t rfl (Yno (fun w => h w.1)))
  subst ea eb ed
  refine zx_iof ?_
  have en := zq_enc h2 h6 ha hb hd
  have inj : ∀ a b, a < D → b < D → nI (a + 1) = nI (b + 1) → a = b := fun a b ha hb e => by
    have w := (nI_eq (by omega) (by omega)).mp e
    omega
  rw [nI_clamp (by omega)]
  refine ⟨vp_in_nI (by omega) (by omega), br_c (fun hA => ?_) (fun hA => ?_)⟩
  · refine zy_adm h2 h6 hc hn hr2 ht (fun a' b' d' ha' hb' hd' ea eb ed _ sr' sd' => ⟨rfl, zr_mk hI hR⟩) (fun a' b' d' ha' hb' hd' ea eb ed hA' => ?_) (fun h => absurd ⟨⟨a, ha, rfl⟩, ⟨b, hb, rfl⟩, ⟨d, hd, rfl⟩⟩ h)
    rw [inj a a' ha ha' ea, inj b b' hb hb' eb, inj d d' hd hd' ed] at hA
    exact absurd hA hA'
  · refine zy_adm h2 h6 hc hn hr2 ht (fun a' b' d' ha' hb' hd' ea eb ed hA' => ?_) (fun a' b' d' ha' hb' hd' ea eb ed _ sr' sd' => ⟨rfl, zr_mk hI hR⟩) (fun h => absurd ⟨⟨a, ha, rfl⟩, ⟨b, hb, rfl⟩, ⟨d, hd, rfl⟩⟩ h)
    rw [inj a a' ha ha' ea, inj b b' hb hb' eb, inj d d' hd hd' ed] at hA
    exact absurd hA' hA
theorem i_vc_dimOf {k : Nat} {u : SX} {v : SY} (I : i_Rel k u v) (hk : k + 5 ≤ 2561) (v1 : Int32) (v2 : Int32) : wpX_dimOf (fun r => wpY_dimOf (fun r' v' => r' = r ∧ i_Rel (k + 5) u v') v v1 v2) u v1 v2 := by
  obtain ⟨D, c, rk, st, cp, tp, K, X, Y, Z, rs, dt, sz, tr, bd, el, rq, sr, sd, vr, vd, rfl, rfl, hI, hR⟩ := I
  have hI' := hI
  obtain ⟨h2, h6, hc, hr, hn, ht, hb⟩ := hI'
  have hr2 : ∀ j, j < c → rk j ≤ 2 := fun j hj => (hr j hj).2
  refine zx_dim (zq_216 h6) hc hr (fun n i hnN hA hi => zr_nz h6 (ht n hnN) hc hA hi) (fun h => ?_) (fun p s r hp ex ey hs hd => ?_)
  · exact zy_dim h2 h6 hc hn hr2 ht (fun _ rq' => ⟨rfl, zr_mk hI hR⟩) (fun p s r hp ex ey hs => absurd ⟨p, s, hp, ex, ey, hs⟩ h)
  · refine zy_dim h2 h6 hc hn hr2 ht (fun h => absurd ⟨p, s, hp, ex, ey, hs⟩ h) (fun p' s' r' hp' ex' ey' hs' rq' sr' sd' hd' => ⟨?_, zr_mk hI hR⟩)
    have rp := hr2 p hp
    have rp' := hr2 p' hp'
    have e1 := (nI_eq (by omega) (by omega)).mp (ex.symm.trans ex')
    have e2 := (nI_eq (by omega) (by omega)).mp (ey.symm.trans ey')
    subst e1 e2
    exact zq_dr_u hd hd'
theorem zr_cm {A : Nat → Prop} {g g' : Nat → Int32} {N : Nat} {r : Int32} (e : ∀ n, n < N → g n = g' n) (h : zq_cm A g N r) : zq_cm A g' N r := by
  have es : zq_same A g N ↔ zq_same A g' N := by
    constructor
    · intro z m m' h1 h1' h2 h2'
      rw [← e m h1, ← e m' h1']
      exact z m m' h1 h1' h2 h2'
    · intro z m m' h1 h1' h2 h2'
      rw [e m h1, e m' h1']
      exact z m m' h1 h1' h2 h2'
  rcases h with ⟨h1, m, h2, h3, h4⟩ | ⟨h1, h2⟩
  · exact Or.inl ⟨es.mp h1, m, h2, h3, by rw [← e m h2]; exact h4⟩
  · exact Or.inr ⟨fun z => h1 ⟨z.1, es.mpr z.2⟩, h2⟩
theorem i_vc_symbolValue {k : Nat} {u : SX} {v : SY} (I : i_Rel k u v) (hk : k + 5 ≤ 2561) (v1 : Int32) : wpX_symbolValue (fun r => wpY_symbolValue (fun r' v' => r' = r ∧ i_Rel (k + 5) u v') v v1) u v1 := by
  obtain ⟨D, c, rk, st, cp, tp, K, X, Y, Z, rs, dt, sz, tr, bd, el, rq, sr, sd, vr, vd, rfl, rfl, hI, hR⟩ := I
  have hI' := hI
  obtain ⟨h2, h6, hc, hr, hn, ht, hb⟩ := hI'
  have hr2 : ∀ j, j < c → rk j ≤ 2 := fun j hj => (hr j hj).2
  unfold wpX_symbolValue
  dsimp only
  refine zx_isy (fun j hj e => br_f (by decide) ?_) (fun h => br_t rfl ?_)
  · subst e
    rw [zq_32a]
    refine zx_cms (zq_216 h6) (by omega) (fun n hnN hA => ?_) (fun r hcm => ?_)
    · rw [zr_sy (ht n hnN) hj]
      have w := zr_sv (j := j) h2 h6 hnN
      exact nI_ne0 w.1 (by omega)
    · have hcm' := zr_cm (g' := fun n => nI (zq_sv D n j)) (fun n hnN => zr_sy (ht n hnN) hj) hcm
      unfold wpY_symbolValue
      dsimp only
      refine zq_ck2 (fun j' hj' e' => ?_) (fun h => absurd ⟨j, hj, rfl⟩ h)
      refine nm_r (e' := nI (D * D * D)) (by rw [pk_mul, pk_mul]) ⟨D * D * D + 1, ?_⟩
      exact zy_syv_l h2 h6 rfl hc hn hr2 ht hj (fun r' sr' sd' w => ⟨zq_cm_u hcm' w, zr_mk hI hR⟩) (D * D * D) 0 _ 0 1 0 sr sd (by omega) (by omega) (zq_fl_0 zq_any_0) (zq_fl_1 zq_same_0) (fun z => absurd z zq_any_0)
  · unfold wpY_symbolValue
    dsimp only
    exact zq_ck2 (fun j hj e => absurd ⟨j, hj, e⟩ h) (fun _ => ⟨rfl, zr_mk hI hR⟩)
theorem i_vc_symbolsEqual {k : Nat} {u : SX} {v : SY} (I : i_Rel k u v) (hk : k + 5 ≤ 2561) (v1 : Int32) (v2 : Int32) : wpX_symbolsEqual (fun r => wpY_symbolsEqual (fun r' v' => r' = r ∧ i_Rel (k + 5) u v') v v1 v2) u v1 v2 := by
  obtain ⟨D, c, rk, st, cp, tp, K, X, Y, Z, rs, dt, sz, tr, bd, el, rq, sr, sd, vr, vd, rfl, rfl, hI, hR⟩ := I
  have hI' := hI
  obtain ⟨h2, h6, hc, hr, hn, ht, hb⟩ := hI'
  have hr2 : ∀ j, j < c → rk j ≤ 2 := fun j hj => (hr j hj).2
  have Yno : ¬ ((∃ j, j < 3 ∧ v1 = nI j) ∧ (∃ j, j < 3 ∧ v2 = nI j)) → wpY_symbolsEqual (fun r' v' => r' = 0 ∧ i_Rel (k + 5) (nI D, nI (D * D * D), nI c, st, cp, K, X, Y, Z, rs, dt, sz, tr, bd, el) v') (nI D, nI c, st, tp, K, X, Y, Z, dt, bd, rq, sr, sd, vr, vd, el) v1 v2 := by
    intro h
    unfold wpY_symbolsEqual
    dsimp only
    exact zq_ck3 (fun j hj e => zq_ck2 (fun j' hj' e' => absurd ⟨⟨j, hj, e⟩, ⟨j', hj', e'⟩⟩ h) (fun _ => ⟨rfl, zr_mk hI hR⟩)) (fun _ => ⟨rfl, zr_mk hI hR⟩)
  unfold wpX_symbolsEqual
  dsimp only
  refine zx_isy (fun j hj e => br_f (by decide) (zx_isy (fun j' hj' e' => br_f (by decide) ?_) (fun h => br_t rfl (Yno (fun w => h w.2))))) (fun h => br_t rfl (Yno (fun w => h w.1)))
  subst e e'
  have Yy : ∀ r : Int32, ((r = 1 ∧ zq_any (fun n => tr n = -1) (D * D * D) ∧ zq_eqs (fun n => tr n = -1) (fun n => nI (zq_sv D n j)) (fun n => nI (zq_sv D n j')) (D * D * D)) ∨ (r = 0 ∧ ¬ (zq_any (fun n => tr n = -1) (D * D * D) ∧ zq_eqs (fun n => tr n = -1) (fun n => nI (zq_sv D n j)) (fun n => nI (zq_sv D n j')) (D * D * D)))) → wpY_symbolsEqual (fun r' v' => r' = r ∧ i_Rel (k + 5) (nI D, nI (D * D * D), nI c, st, cp, K, X, Y, Z, rs, dt, sz, tr, bd, el) v') (nI D, nI c, st, tp, K, X, Y, Z, dt, bd, rq, sr, sd, vr, vd, el) (nI j) (nI j') := by
    intro r hr'
    unfold wpY_symbolsEqual
    dsimp only
    refine zq_ck3 (fun _ _ _ => zq_ck2 (fun _ _ _ => ?_) (fun h => absurd ⟨j', hj', rfl⟩ h)) (fun h => absurd ⟨j, hj, rfl⟩ h)
    refine nm_r (e' := nI (D * D * D)) (by rw [pk_mul, pk_mul]) ⟨D * D * D + 1, ?_⟩
    refine zy_sye_l h2 h6 rfl hc hn hr2 ht hj hj' (fun w sr' sd' => ⟨?_, zr_mk hI hR⟩) (fun w sr' sd' => ⟨?_, zr_mk hI hR⟩) (D * D * D) 0 _ 0 1 sr sd (by omega) (by omega) (zq_fl_0 zq_any_0) (zq_fl_1 zq_eqs_0)
    · rcases hr' with ⟨e, _⟩ | ⟨e, z⟩
      · exact e.symm
      · exact absurd w z
    · rcases hr' with ⟨e, z⟩ | ⟨e, z⟩
      · exact absurd z w
      · exact e.symm
  have es : zq_eqs (fun n => tr n = -1) (fun n => sz (n * 35 + (32 + j))) (fun n => sz (n * 35 + (32 + j'))) (D * D * D) ↔ zq_eqs (fun n => tr n = -1) (fun n => nI (zq_sv D n j)) (fun n => nI (zq_sv D n j')) (D * D * D) := by
    constructor
    · intro z m h1 h3
      have w := z m h1 h3
      dsimp only at w
      rw [zr_sy (ht m h1) hj, zr_sy (ht m h1) hj'] at w
      exact w
    · intro z m h1 h3
      show sz (m * 35 + (32 + j)) = sz (m * 35 + (32 + j'))
      rw [zr_sy (ht m h1) hj, zr_sy (ht m h1) hj']
      exact z m h1 h3
  refine zx_acc (zq_216 h6) (fun ha => br_f (by decide) ?_) (fun ha => br_t rfl (Yy 0 (Or.inr ⟨rfl, fun w => ha w.1⟩)))
  rw [zq_32a, zq_32a]
  exact zx_aeq (zq_216 h6) (by omega) (by omega) (fun he => br_f (by decide) (Yy 1 (Or.inl ⟨rfl, ha, es.mp he⟩))) (fun he => br_t rfl (Yy 0 (Or.inr ⟨rfl, fun w => he (es.mpr w.2)⟩)))
theorem i_vc_bind {k : Nat} {u : SX} {v : SY} (I : i_Rel k u v) (hk : k + 5 ≤ 2561) (v1 : Int32) (v2 : Int32) : wpX_bind (fun r u' => wpY_bind (fun r' v' => r' = r ∧ i_Rel (k + 5) u' v') v v1 v2) u v1 v2 := by
  obtain ⟨D, c, rk, st, cp, tp, K, X, Y, Z, rs, dt, sz, tr, bd, el, rq, sr, sd, vr, vd, rfl, rfl, hI, hR⟩ := I
  have hI' := hI
  obtain ⟨h2, h6, hc, hr, hn, ht, b0, b1, b2, hb0, hb1, hb2, e0, e1, e2⟩ := hI'
  unfold wpX_bind
  dsimp only
  refine zx_isy (fun j hj e => br_f (by decide) (zx_isz h6 (fun d hd e' => br_f (by decide) ?_) (fun h => br_t rfl ?_))) (fun h => br_t rfl ?_)
  · subst e e'
    rw [nI_clamp (by omega)]
    refine ⟨vp_in_nI hj (by omega), nm_e ?_⟩
    unfold wpX_forgetRun wpY_bind
    dsimp only
    rw [nI_clamp (by omega)]
    refine zq_ck3 (fun _ _ _ => zq_sze (by omega) (fun _ _ _ => ⟨vp_in_nI hj (by omega), nm_e ⟨rfl, ?_⟩⟩) (fun h => absurd ⟨d, hd, rfl⟩ h)) (fun h => absurd ⟨j, hj, rfl⟩ h)
    refine zr_mk ⟨h2, h6, hc, hr, hn, ht, ?_⟩ (Or.inl ⟨rfl, rfl⟩)
    have ej : j = 0 ∨ j = 1 ∨ j = 2 := by omega
    rcases ej with rfl | rfl | rfl
    · exact ⟨d, b1, b2, hd, hb1, hb2, pk_us, by rw [pk_un (by omega)]; exact e1, by rw [pk_un (by omega)]; exact e2⟩
    · exact ⟨b0, d, b2, hb0, hd, hb2, by rw [pk_un (by omega)]; exact e0, pk_us, by rw [pk_un (by omega)]; exact e2⟩
    · exact ⟨b0, b1, d, hb0, hb1, hd, by rw [pk_un (by omega)]; exact e0, by rw [pk_un (by omega)]; exact e1, pk_us⟩
  · unfold wpY_bind
    dsimp only
    exact zq_ck3 (fun _ _ _ => zq_sze (by omega) (fun d hd e' => absurd ⟨d, hd, e'⟩ h) (fun _ => ⟨rfl, zr_mk hI hR⟩)) (fun _ => ⟨rfl, zr_mk hI hR⟩)
  · unfold wpY_bind
    dsimp only
    exact zq_ck3 (fun j hj e => absurd ⟨j, hj, e⟩ h) (fun _ => ⟨rfl, zr_mk hI hR⟩)
theorem i_vc_boundValue {k : Nat} {u : SX} {v : SY} (I : i_Rel k u v) (hk : k + 5 ≤ 2561) (v1 : Int32) : wpX_boundValue (fun r => wpY_boundValue (fun r' => r' = r ∧ i_Rel (k + 5) u v) v v1) u v1 := by
  obtain ⟨D, c, rk, st, cp, tp, K, X, Y, Z, rs, dt, sz, tr, bd, el, rq, sr, sd, vr, vd, rfl, rfl, hI, hR⟩ := I
  unfold wpX_boundValue
  dsimp only
  refine zx_isy (fun j hj e => br_f (by decide) ?_) (fun h => br_t rfl ?_)
  · subst e
    refine ⟨vp_in_nI hj (by omega), ?_⟩
    unfold wpY_boundValue
    dsimp only
    exact zq_ck2 (fun _ _ _ => ⟨vp_in_nI hj (by omega), rfl, zr_mk hI hR⟩) (fun h => absurd ⟨j, hj, rfl⟩ h)
  · unfold wpY_boundValue
    dsimp only
    exact zq_ck2 (fun j hj e => absurd ⟨j, hj, e⟩ h) (fun _ => ⟨rfl, zr_mk hI hR⟩)
theorem i_vc_setData {k : Nat} {u : SX} {v : SY} (I : i_Rel k u v) (hk : k + 5 ≤ 2561) (v1 : Int32) (v2 : Int32) (v3 : Int32) : wpX_setData (fun r u' => wpY_setData (fun r' v' => r' = r ∧ i_Rel (k + 5) u' v') v v1 v2 v3) u v1 v2 v3 := by
  obtain ⟨D, c, rk, st, cp, tp, K, X, Y, Z, rs, dt, sz, tr, bd, el, rq, sr, sd, vr, vd, rfl, rfl, hI, hR⟩ := I
  have hc := hI.2.2.1
  unfold wpX_setData
  dsimp only
  refine zx_isn hc (fun j hj e => br_f (by decide) ?_) (fun h => br_t rfl ?_)
  · subst e
    have vj : vp_in (nI j) 16 := vp_in_nI (by omega) (by omega)
    unfold wpY_setData
    dsimp only
    rw [nI_clamp (n := j) (by omega)]
    refine ⟨vj, br_c (fun hk1 => ?_) (fun hk1 => zq_cke (by omega) (fun _ _ _ => ⟨vj, br_f hk1 ⟨rfl, zr_mk hI hR⟩⟩) (fun h => absurd ⟨j, hj, rfl⟩ h))⟩
    refine zq_ckl (c := 36) (by omega) (fun m hm e => ?_) (fun h => zq_cke (by omega) (fun _ _ _ => ⟨vj, br_t hk1 (zq_ckl (c := 36) (by omega) (fun m hm e => absurd ⟨m, hm, e⟩ h) (fun _ => ⟨rfl, zr_mk hI hR⟩))⟩) (fun h => absurd ⟨j, hj, rfl⟩ h))
    subst e
    rw [zq_m36, nI_add, nI_clamp (n := j * 36 + m) (by omega)]
    have vm : vp_in (nI (j * 36 + m)) 576 := vp_in_nI (by omega) (by omega)
    refine ⟨vm, nm_e ?_⟩
    unfold wpX_forgetRun
    dsimp only
    exact zq_cke (by omega) (fun _ _ _ => ⟨vj, br_t hk1 (zq_ckl (c := 36) (by omega) (fun _ _ _ => ⟨vm, nm_e ⟨rfl, zr_mk hI (Or.inl ⟨rfl, rfl⟩)⟩⟩) (fun h => absurd ⟨m, hm, rfl⟩ h))⟩) (fun h => absurd ⟨j, hj, rfl⟩ h)
  · unfold wpY_setData
    dsimp only
    exact zq_cke (by omega) (fun j hj e => absurd ⟨j, hj, e⟩ h) (fun _ => ⟨rfl, zr_mk hI hR⟩)
theorem i_vc_runState {k : Nat} {u : SX} {v : SY} (I : i_Rel k u v) (hk : k + 5 ≤ 2561) : wpX_runState (fun r => wpY_runState (fun r' => r' = r ∧ i_Rel (k + 5) u v) v) u := by
  obtain ⟨D, c, rk, st, cp, tp, K, X, Y, Z, rs, dt, sz, tr, bd, el, rq, sr, sd, vr, vd, rfl, rfl, hI, hR⟩ := I
  exact ⟨rfl, zr_mk hI hR⟩
theorem i_vc_trapNode {k : Nat} {u : SX} {v : SY} (I : i_Rel k u v) (hk : k + 5 ≤ 2561) : wpX_trapNode (fun r => wpY_trapNode (fun r' => r' = r ∧ i_Rel (k + 5) u v) v) u := by
  obtain ⟨D, c, rk, st, cp, tp, K, X, Y, Z, rs, dt, sz, tr, bd, el, rq, sr, sd, vr, vd, rfl, rfl, hI, hR⟩ := I
  refine br_c (fun h => br_t h ⟨?_, zr_mk hI hR⟩) (fun h => br_f h ⟨rfl, zr_mk hI hR⟩)
  rcases hR with ⟨e, _⟩ | ⟨t, R, C, b0, b1, b2, h1, h2, h3, _⟩
  · rw [e] at h
    exact absurd h (by decide)
  · rcases h3 with ⟨e, _⟩ | ⟨_, _, e⟩
    · rw [e] at h
      exact absurd h (by decide)
    · rw [h2, e]
theorem i_vc_run {k : Nat} {u : SX} {v : SY} (I : i_Rel k u v) (hk : k + 5 ≤ 2561) : wpX_run (fun r u' => wpY_run (fun r' v' => r' = r ∧ i_Rel (k + 5) u' v') v) u := by
  obtain ⟨D, c, rk, st, cp, tp, K, X, Y, Z, rs, dt, sz, tr, bd, el, rq, sr, sd, vr, vd, rfl, rfl, hI, hR⟩ := I
  have hI' := hI
  obtain ⟨h2, h6, hc, hr, hn, ht, b0, b1, b2, hb0, hb1, hb2, e0, e1, e2⟩ := hI'
  have hr2 : ∀ j, j < c → rk j ≤ 2 := fun j hj => (hr j hj).2
  have h216 := zq_216 h6
  have en := zq_enc h2 h6 hb0 hb1 hb2
  obtain ⟨t1, t2, t3, t, R, C, t4, t5, t6⟩ := ht _ en.1
  rw [en.2.1, en.2.2.1, en.2.2.2] at t4
  have htc := t4.1
  have hsg : ∀ p q, zq_spec D p q → zq_good D (zq_sr p q) (zq_sp p q (b0 + 1) (b1 + 1) (b2 + 1)).1 (zq_sp p q (b0 + 1) (b1 + 1) (b2 + 1)).2 := fun p q hs => zq_spec_good h2 h6 hs ⟨by omega, by omega⟩ ⟨by omega, by omega⟩ ⟨by omega, by omega⟩
  have Ydo : ∀ (r st' : Int32), ((r = 1 ∧ st' = 1 ∧ t = c) ∨ (r = 0 ∧ st' = 2 ∧ t < c)) → wpY_run (fun r' v' => r' = r ∧ i_Rel (k + 5) (nI D, nI (D * D * D), nI c, st', nI t, K, X, Y, Z, rs, dt, sz, tr, bd, zq_ev K X Y dt rk R C el t) v') (nI D, nI c, st, tp, K, X, Y, Z, dt, bd, rq, sr, sd, vr, vd, el) := by
    intro r st' hr'
    unfold wpY_run
    dsimp only
    rw [e0, e1, e2]
    refine zy_shapes h6 hc hn hr2 hsg t4 (fun sr' sd' hA => ⟨t + 1, ?_⟩)
    refine zy_run_l h6 hc htc (fun i hi => hn i (by omega)) hA t4.2.1 (fun etc vr' vd' hv => ?_) (fun etc vr' vd' hv => ?_) t 0 (t + 1) vr vd (by omega) (by omega) (fun i hi => absurd hi (by omega))
    · rcases hr' with ⟨rfl, rfl, _⟩ | ⟨_, _, z⟩
      · exact ⟨rfl, zr_mk hI (Or.inr ⟨t, R, C, b0, b1, b2, htc, rfl, Or.inl ⟨rfl, etc⟩, hb0, hb1, hb2, e0, e1, e2, fun i hi => ⟨(t4.2.1 i hi).1, (t5 i hi).1, (t5 i hi).2, hv i hi⟩⟩)⟩
      · omega
    · rcases hr' with ⟨_, _, z⟩ | ⟨rfl, rfl, _⟩
      · omega
      · exact ⟨rfl, zr_mk hI (Or.inr ⟨t, R, C, b0, b1, b2, htc, rfl, Or.inr ⟨rfl, etc, rfl⟩, hb0, hb1, hb2, e0, e1, e2, fun i hi => ⟨(t4.2.1 i hi).1, (t5 i hi).1, (t5 i hi).2, hv i hi⟩⟩)⟩
  unfold wpX_run
  dsimp only
  refine zx_bin e0 e1 e2 ?_
  rw [nI_clamp (by omega)]
  refine ⟨vp_in_nI (by omega) (by omega), ?_⟩
  rcases t6 with ⟨etc, et⟩ | ⟨hlt, et⟩
  · refine br_t et ?_
    unfold wX_run_20
    refine br_t rfl ⟨t + 1, ?_⟩
    rw [← etc]
    refine zx_run_l (n := (b0 * D + b1) * D + b2) (D := D) h6 (by omega) (by omega) (fun i hi => hn i (by omega)) (fun j hj => hr j (by omega)) t5 t4.2.1 (fun _ => ?_) (fun z => absurd rfl z) t 0 (t + 1) (by omega) (by omega)
    unfold wX_run_74
    rw [etc]
    refine br_t rfl ?_
    have W := Ydo 1 1 (Or.inl ⟨rfl, rfl, etc⟩)
    rw [etc] at W
    exact W
  · refine br_f (by rw [et]; exact zq_m1 (by omega)) ?_
    unfold wX_run_20
    refine br_f (by decide) ⟨vp_in_nI (by omega) (by omega), ?_⟩
    rw [nI_clamp (by omega)]
    refine nm_r et ⟨t + 1, ?_⟩
    refine zx_run_l (n := (b0 * D + b1) * D + b2) (D := D) h6 (by omega) (by omega) (fun i hi => hn i (by omega)) (fun j hj => hr j (by omega)) t5 t4.2.1 (fun z => absurd z (by decide)) (fun _ => ?_) t 0 (t + 1) (by omega) (by omega)
    unfold wX_run_74
    exact br_f (by decide) (Ydo 0 2 (Or.inr ⟨rfl, rfl, hlt⟩))
theorem i_vc_valueDim {k : Nat} {u : SX} {v : SY} (I : i_Rel k u v) (hk : k + 5 ≤ 2561) (v1 : Int32) (v2 : Int32) : wpX_valueDim (fun r => wpY_valueDim (fun r' v' => r' = r ∧ i_Rel (k + 5) u v') v v1 v2) u v1 v2 := by
  obtain ⟨D, c, rk, st, cp, tp, K, X, Y, Z, rs, dt, sz, tr, bd, el, rq, sr, sd, vr, vd, rfl, rfl, hI, hR⟩ := I
  have hI' := hI
  obtain ⟨h2, h6, hc, hr, hn, ht, _⟩ := hI'
  have hr2 : ∀ j, j < c → rk j ≤ 2 := fun j hj => (hr j hj).2
  have hR' := hR
  rcases hR' with ⟨es, ec⟩ | ⟨t, R, C, b0, b1, b2, htc, ec, hs, hb0, hb1, hb2, e0, e1, e2, hv⟩
  · subst es ec
    unfold wpX_valueDim
    dsimp only
    refine zx_isc (c := 0) (by omega) (fun j hj _ => absurd hj (by omega)) (fun _ => br_t rfl ?_)
    unfold wpY_valueDim
    dsimp only
    exact zy_rd0 rfl (br_t rfl ⟨rfl, zr_mk hI hR⟩)
  · subst ec
    have h216 := zq_216 h6
    have en := zq_enc h2 h6 hb0 hb1 hb2
    unfold wpX_valueDim
    dsimp only
    refine zx_isc (by omega) (fun j hj e => br_f (by decide) ?_) (fun h => br_t rfl ?_)
    · subst e
      have rj := hr2 j (by omega)
      refine zx_hd hc hr (fun p s hp ep es hsp => br_f (by decide) ?_) (fun h => br_t rfl ?_)
      · have epj := (nI_eq (by omega) (by omega)).mp ep
        subst epj
        subst es
        refine zx_bin e0 e1 e2 (nm_r (zq_m35 _) (zx_pla (by omega) (hr j hp).1 rj ?_))
        rw [nI_add, nI_clamp (by omega)]
        refine ⟨vp_in_nI (by omega) (by omega), ?_⟩
        unfold wpY_valueDim
        dsimp only
        refine zy_rd hc htc hs (fun _ _ _ => br_f (by decide) ?_) (fun h => absurd ⟨j, hj, rfl⟩ h)
        refine zy_rank hc hp hn hr2 (fun rq' => zq_ckl (by omega) (fun _ _ _ => ?_) (fun h => absurd ⟨s, hsp, rfl⟩ h))
        rw [zq_2m, nI_add, nI_clamp (by omega)]
        refine ⟨vp_in_nI (by omega) (by omega), ?_, zr_mk hI hR⟩
        obtain ⟨g, c0, c1, _, d0, d1⟩ := hv j hj
        have e12 : rk j = 1 ∨ rk j = 2 := by omega
        rcases e12 with e12 | e12
        · have s0 : s = 0 := by omega
          subst s0
          have l0 : zq_l0 1 (R j) (C j) = C j := if_neg (by omega)
          rw [e12, l0] at d0
          rw [e12, show j * 2 + 2 - 1 + 0 = j * 2 + 1 by omega, ← Nat.add_assoc, c1]
          exact d0
        · have l0 : zq_l0 2 (R j) (C j) = R j := if_pos rfl
          have l1 : zq_l1 2 (C j) = C j := if_pos rfl
          rw [e12, l0] at d0
          rw [e12, l1] at d1
          have s01 : s = 0 ∨ s = 1 := by omega
          rcases s01 with rfl | rfl
          · rw [e12, show j * 2 + 2 - 2 + 0 = j * 2 by omega, c0]
            exact d0
          · rw [e12, show j * 2 + 2 - 2 + 1 = j * 2 + 1 by omega, ← Nat.add_assoc, c1]
            exact d1
      · unfold wpY_valueDim
        dsimp only
        refine zy_rd hc htc hs (fun _ _ _ => br_f (by decide) ?_) (fun h => absurd ⟨j, hj, rfl⟩ h)
        exact zy_rank hc (show j < c by omega) hn hr2 (fun rq' => zq_ckl (by omega) (fun s hs' e => absurd ⟨j, s, by omega, rfl, e, hs'⟩ h) (fun _ => ⟨rfl, zr_mk hI hR⟩))
    · unfold wpY_valueDim
      dsimp only
      exact zy_rd hc htc hs (fun j hj e => absurd ⟨j, hj, e⟩ h) (fun _ => br_t rfl ⟨rfl, zr_mk hI hR⟩)
theorem i_vc_valueAt {k : Nat} {u : SX} {v : SY} (I : i_Rel k u v) (hk : k + 5 ≤ 2561) (v1 : Int32) (v2 : Int32) : wpX_valueAt (fun r => wpY_valueAt (fun r' => r' = r ∧ i_Rel (k + 5) u v) v v1 v2) u v1 v2 := by
  obtain ⟨D, c, rk, st, cp, tp, K, X, Y, Z, rs, dt, sz, tr, bd, el, rq, sr, sd, vr, vd, rfl, rfl, hI, hR⟩ := I
  have hI' := hI
  obtain ⟨h2, h6, hc, hr, hn, ht, _⟩ := hI'
  have hr2 : ∀ j, j < c → rk j ≤ 2 := fun j hj => (hr j hj).2
  have hR' := hR
  rcases hR' with ⟨es, ec⟩ | ⟨t, R, C, b0, b1, b2, htc, ec, hs, hb0, hb1, hb2, e0, e1, e2, hv⟩
  · subst es ec
    unfold wpX_valueAt
    dsimp only
    refine zx_isc (c := 0) (by omega) (fun j hj _ => absurd hj (by omega)) (fun _ => br_t rfl ?_)
    unfold wpY_valueAt
    dsimp only
    exact zy_rd0 rfl (br_t rfl ⟨rfl, zr_mk hI hR⟩)
  · subst ec
    have h216 := zq_216 h6
    have en := zq_enc h2 h6 hb0 hb1 hb2
    unfold wpX_valueAt
    dsimp only
    refine zx_isc (by omega) (fun j hj e => br_f (by decide) ?_) (fun h => br_t rfl ?_)
    · subst e
      have rj := hr2 j (by omega)
      obtain ⟨g, c0, c1, dr, d0, d1⟩ := hv j hj
      have g' := g
      unfold zq_good at g'
      have hRC : R j * C j ≤ 6 * 6 := Nat.mul_le_mul (by omega) (by omega)
      have vj : vp_in (nI j) 16 := vp_in_nI (by omega) (by omega)
      have w0 : vp_in (nI (2 * j)) 32 := vp_in_nI (by omega) (by omega)
      have w1 : vp_in (nI (2 * j + 1)) 32 := vp_in_nI (by omega) (by omega)
      have Ydo : ∀ r : Int32, wY_valueAt_54 (fun r' => r' = r ∧ i_Rel (k + 5) (nI D, nI (D * D * D), nI c, st, nI t, K, X, Y, Z, rs, dt, sz, tr, bd, el) (nI D, nI c, st, tp, K, X, Y, Z, dt, bd, rq, sr, sd, vr, vd, el)) (nI j) v2 (nI (R j * C j)) (nI D) (nI c) st tp K X Y Z dt bd rq sr sd vr vd el → wpY_valueAt (fun r' => r' = r ∧ i_Rel (k + 5) (nI D, nI (D * D * D), nI c, st, nI t, K, X, Y, Z, rs, dt, sz, tr, bd, el) (nI D, nI c, st, tp, K, X, Y, Z, dt, bd, rq, sr, sd, vr, vd, el)) (nI D, nI c, st, tp, K, X, Y, Z, dt, bd, rq, sr, sd, vr, vd, el) (nI j) v2 := by
        intro r h54
        unfold wpY_valueAt
        dsimp only
        refine zy_rd hc htc hs (fun _ _ _ => br_f (by decide) ⟨vj, ?_⟩) (fun h => absurd ⟨j, hj, rfl⟩ h)
        unfold zq_l0 at d0
        unfold zq_l1 at d1
        rw [nI_clamp (n := j) (by omega), dr, zq_2m, nI_clamp (n := 2 * j) (by omega), d0]
        unfold wY_valueAt_31
        rw [nI_clamp (n := j) (by omega), dr, zq_2m, nI_1, nI_clamp (n := 2 * j + 1) (by omega), d1]
        refine pk_lt (rk j) 1 (fun z => ⟨vj, ?_⟩) (fun z => ⟨w0, nm_e ⟨vj, ?_⟩⟩)
        · rw [show R j = 1 by omega, show C j = 1 by omega] at h54
          exact pk_eq (rk j) 2 (fun z1 => absurd z1 (by omega)) (fun z1 => h54)
        · refine pk_eq (rk j) 2 (fun z1 => ⟨w1, nm_r (e' := nI (R j * C j)) ?_ h54⟩) (fun z1 => ?_)
          · rw [if_pos z1, if_pos z1, pk_mul]
          · rw [if_neg z1]
            rw [show R j = 1 by omega, Nat.one_mul] at h54
            exact h54
      refine zx_bin e0 e1 e2 (nm_r (zq_m35 _) ?_)
      have Y0 : ¬ (∃ m, m < R j * C j ∧ v2 = nI m) → wpY_valueAt (fun r' => r' = 0 ∧ i_Rel (k + 5) (nI D, nI (D * D * D), nI c, st, nI t, K, X, Y, Z, rs, dt, sz, tr, bd, el) (nI D, nI c, st, tp, K, X, Y, Z, dt, bd, rq, sr, sd, vr, vd, el)) (nI D, nI c, st, tp, K, X, Y, Z, dt, bd, rq, sr, sd, vr, vd, el) (nI j) v2 := by
        intro h
        refine Ydo 0 ?_
        unfold wY_valueAt_54
        exact zq_ckl (by omega) (fun m hm e => absurd ⟨m, hm, e⟩ h) (fun _ => ⟨rfl, zr_mk hI hR⟩)
      refine br_c (fun hneg => Y0 (fun ⟨m, hm, e⟩ => ?_)) (fun hneg => zx_elc (by omega) ?_)
      · rw [e] at hneg
        exact nI_pos (by omega) hneg
      · rw [c0, c1, pk_mul]
        refine br_c (fun hlt => ?_) (fun hlt => Y0 (fun ⟨m, hm, e⟩ => ?_))
        · obtain ⟨m, hm, rfl⟩ := nI_of hneg
          have hmm : m < R j * C j := (nI_ltI hm (by omega)).mp hlt
          rw [zq_m36, nI_add, nI_clamp (n := j * 36 + m) (by omega)]
          have vm : vp_in (nI (j * 36 + m)) 576 := vp_in_nI (by omega) (by omega)
          refine ⟨vm, Ydo _ ?_⟩
          unfold wY_valueAt_54
          rw [zq_m36, nI_add, nI_clamp (n := j * 36 + m) (by omega)]
          exact zq_ckl (by omega) (fun _ _ _ => ⟨vm, rfl, zr_mk hI hR⟩) (fun h => absurd ⟨m, hmm, rfl⟩ h)
        · rw [e] at hlt
          exact hlt (nI_lt hm (by omega))
    · unfold wpY_valueAt
      dsimp only
      exact zy_rd hc htc hs (fun j hj e => absurd ⟨j, hj, e⟩ h) (fun _ => br_t rfl ⟨rfl, zr_mk hI hR⟩)
