/-! the reference: rankOf and addNode -/
section
variable {mx cnt st tp : Int32} {K X Y Z dt bd rq sr sd vr vd el : Nat → Int32}
theorem zy_srk {post : Int32 → Prop} {p q : Int32} (hp : post (nI (zq_sr p q))) : wpY_specRank post (mx, cnt, st, tp, K, X, Y, Z, dt, bd, rq, sr, sd, vr, vd, el) p q := by
  unfold wpY_specRank
  dsimp only
  unfold zq_sr at hp
  refine br_c (fun h => ?_) (fun h => br_c (fun h' => ?_) (fun h' => ?_))
  · rw [if_pos h] at hp
    exact hp
  · rw [if_neg h, if_pos h'] at hp
    exact hp
  · rw [if_neg h, if_neg h'] at hp
    exact hp
theorem zy_rank_l {post : Int32 → SY → Prop} {D c j : Nat} {rk : Nat → Nat} (hc : c ≤ 16) (hj : j < c) (hn : ∀ i, i < c → zq_nd D i rk (K i) (X i) (Y i) (Z i)) (hr : ∀ i, i < c → rk i ≤ 2) (hp : ∀ rq', post (nI (rk j)) (mx, cnt, st, tp, K, X, Y, Z, dt, bd, rq', sr, sd, vr, vd, el)) :
    ∀ d i fu : Nat, ∀ rq : Nat → Int32, i + d = j + 1 → d < fu → (∀ m, m < i → rq m = nI (rk m)) → wY_rankOf_16 post (nI j) mx cnt st tp fu (nI i) K X Y Z dt bd rq sr sd vr vd el := by
  intro d
  induction d with
  | zero =>
    intro i fu rq hi hf hI
    obtain ⟨f, rfl⟩ : ∃ f, fu = f + 1 := ⟨fu - 1, by omega⟩
    rw [wY_rankOf_16]
    refine br_t (nI_lt (by omega) (by omega)) ⟨vp_in_nI (by omega) (by omega), ?_⟩
    rw [nI_clamp (by omega), hI j (by omega)]
    exact hp rq
  | succ d ih =>
    intro i fu rq hi hf hI
    obtain ⟨f, rfl⟩ : ∃ f, fu = f + 1 := ⟨fu - 1, by omega⟩
    rw [wY_rankOf_16]
    dsimp only
    have vi : vp_in (nI i) 16 := vp_in_nI (by omega) (by omega)
    have step : ∀ w, w = nI (rk i) → wY_rankOf_16 post (nI j) mx cnt st tp f (nI (i + 1)) K X Y Z dt bd (upd rq i w) sr sd vr vd el := by
      intro w ew
      refine ih (i + 1) f (upd rq i w) (by omega) (by omega) (fun m hm => ?_)
      by_cases e : m = i
      · subst e
        rw [pk_us]
        exact ew
      · rw [pk_un e]
        exact hI m (by omega)
    refine br_f (nI_nlt (by omega) (by omega)) ⟨vi, ?_⟩
    rw [nI_clamp (n := i) (by omega)]
    have step2 : ∀ w, w = nI (rk i) → (vp_in (nI i) 16 ∧ ∀ rq', rq' = upd rq i w → ∀ x2, x2 = nI i + 1 → wY_rankOf_16 post (nI j) mx cnt st tp f x2 K X Y Z dt bd rq' sr sd vr vd el) := fun w ew => ⟨vi, nm_e (nm_r (nI_1 i) (step w ew))⟩
    rcases hn i (by omega) with ⟨ek, h2, h3⟩ | ⟨p, q, hpi, hqi, ex, ey, ek, h4⟩ | ⟨p, q, hpi, hqi, ex, ey, ek, h4, h5, h7⟩ | ⟨p, hpi, ex, ek, h3⟩ | ⟨p, hpi, ex, ek, h3, h4⟩ | ⟨p, s, hpi, ex, ek, h3, h4, h5⟩
    · refine nm_r ek (br_t rfl ⟨vi, vi, ?_⟩)
      exact zy_srk (step2 _ (by rw [h3]))
    · have main : wY_rankOf_99 post (wY_rankOf_16 post (nI j) mx cnt st tp f) (nI j) (nI i) mx cnt st tp K X Y Z dt bd rq sr sd vr vd el := by
        unfold wY_rankOf_99
        rw [nI_clamp (n := i) (by omega), ex, ey, nI_clamp (n := p) (by omega), nI_clamp (n := q) (by omega), hI p (by omega), hI q (by omega)]
        have vp : vp_in (nI p) 16 := vp_in_nI (by omega) (by omega)
        have vq : vp_in (nI q) 16 := vp_in_nI (by omega) (by omega)
        have rp := hr p (by omega)
        have rq := hr q (by omega)
        refine ⟨vi, vp, vi, vq, pk_le (rk p) (rk q) (fun e => ⟨vi, vq, step2 _ ?_⟩) (fun e => ⟨vi, vp, step2 _ ?_⟩)⟩
        · rw [h4]
          congr 1
          omega
        · rw [h4]
          congr 1
          omega
      rcases ek with ek | ek
      · exact nm_r ek (br_f (by decide) (br_f (by decide) (br_t rfl main)))
      · exact nm_r ek (br_f (by decide) (br_f (by decide) (br_f (by decide) (br_t rfl main))))
    · exact nm_r ek (br_f (by decide) (br_f (by decide) (br_f (by decide) (br_f (by decide) (br_t rfl (step2 _ (by rw [h7]; rfl)))))))
    · refine nm_r ek (br_f (by decide) (br_f (by decide) (br_f (by decide) (br_f (by decide) (br_f (by decide) (br_t rfl ?_))))))
      rw [ex, nI_clamp (n := p) (by omega)]
      exact ⟨vi, vp_in_nI (by omega) (by omega), step2 _ (by rw [hI p (by omega), h3])⟩
    · refine nm_r ek (br_f (by decide) (br_t rfl ⟨vi, vi, ?_⟩))
      exact zy_srk (step2 _ (by rw [h4]))
    · refine nm_r ek (br_f (by decide) (br_f (by decide) (br_f (by decide) (br_f (by decide) (br_f (by decide) (br_f (by decide) ?_))))))
      rw [ex, nI_clamp (n := p) (by omega)]
      exact ⟨vi, vp_in_nI (by omega) (by omega), step2 _ (by rw [hI p (by omega), ← h5, nI_pred])⟩
theorem zy_rank {post : Int32 → SY → Prop} {D c j : Nat} {rk : Nat → Nat} (hc : c ≤ 16) (hj : j < c) (hn : ∀ i, i < c → zq_nd D i rk (K i) (X i) (Y i) (Z i)) (hr : ∀ i, i < c → rk i ≤ 2) (hp : ∀ rq', post (nI (rk j)) (mx, nI c, st, tp, K, X, Y, Z, dt, bd, rq', sr, sd, vr, vd, el)) : wpY_rankOf post (mx, nI c, st, tp, K, X, Y, Z, dt, bd, rq, sr, sd, vr, vd, el) (nI j) := by
  unfold wpY_rankOf
  dsimp only
  exact br_f (nI_pos (by omega)) (br_t (nI_lt hj (by omega)) ⟨j + 2, zy_rank_l hc hj hn hr hp (j + 1) 0 (j + 2) rq (by omega) (by omega) (fun m hm => absurd hm (by omega))⟩)
theorem zy_vc {post : Int32 → Prop} {D : Nat} {x : Int32} (hD : D ≤ 6) (ok : zq_code D x → post 1) (no : ¬ zq_code D x → post 0) : wpY_validCode post (nI D, cnt, st, tp, K, X, Y, Z, dt, bd, rq, sr, sd, vr, vd, el) x := by
  have m13 : ¬ (∃ d, d < D ∧ x = nI (d + 1)) → wY_validCode_13 post x (nI D) cnt st tp K X Y Z dt bd rq sr sd vr vd el := by
    intro h
    unfold wY_validCode_13
    have hd : ∀ d, ¬ (1 ≤ d ∧ d ≤ D ∧ x = nI d) := fun d z => h ⟨d - 1, by omega, by rw [Nat.sub_add_cancel z.1]; exact z.2.2⟩
    refine br_c (fun h3 => no ?_) (fun h3 => br_c (fun h0 => no ?_) (fun h0 => ok ?_))
    · rintro (⟨d, z⟩ | rfl | rfl | rfl)
      · exact hd d z
      · exact absurd h3 (by decide)
      · exact absurd h3 (by decide)
      · exact absurd h3 (by decide)
    · rintro (⟨d, z⟩ | rfl | rfl | rfl)
      · exact hd d z
      · exact absurd h0 (by decide)
      · exact absurd h0 (by decide)
      · exact absurd h0 (by decide)
    · refine Or.inr (zq_neg (Int32.lt_of_le_of_lt (Int32.not_lt.mp h0) (by decide)) (Int32.not_lt.mp h3))
  unfold wpY_validCode
  dsimp only
  exact zq_sze (by omega) (fun d hd e => ok (Or.inl ⟨d + 1, by omega, by omega, e⟩)) m13
theorem zy_vs {post : Int32 → Prop} {D : Nat} {p q : Int32} (hD : D ≤ 6) (ok : zq_spec D p q → post 1) (no : ¬ zq_spec D p q → post 0) : wpY_specValid post (nI D, cnt, st, tp, K, X, Y, Z, dt, bd, rq, sr, sd, vr, vd, el) p q := by
  unfold wpY_specValid
  dsimp only
  refine br_c (fun hp => br_c (fun hq => ok (Or.inl ⟨hp, hq⟩)) (fun hq => no ?_)) (fun hp => br_c (fun hq => zy_vc hD (fun hc => ⟨rfl, ok (Or.inr (Or.inl ⟨hc, hq⟩))⟩) (fun hc => ⟨rfl, no ?_⟩)) (fun hq => zy_vc hD (fun hc => br_f (by decide) (zy_vc hD (fun hc' => br_f (by decide) (ok (Or.inr (Or.inr ⟨hc, hc'⟩)))) (fun hc' => br_t rfl (no ?_)))) (fun hc => br_t rfl (no ?_))))
  · rintro (⟨_, h⟩ | ⟨_, h⟩ | ⟨h, _⟩)
    · exact hq h
    · exact hq h
    · exact zq_code_ne hD h hp
  · rintro (⟨h, _⟩ | ⟨h, _⟩ | ⟨h, _⟩)
    · exact hp h
    · exact hc h
    · exact hc h
  · rintro (⟨h, _⟩ | ⟨_, h⟩ | ⟨_, h⟩)
    · exact hp h
    · exact hq h
    · exact hc' h
  · rintro (⟨h, _⟩ | ⟨h, _⟩ | ⟨h, _⟩)
    · exact hp h
    · exact hc h
    · exact hc h
theorem zq_k17 {k : Int32} (h1 : ¬ k < 1) (h7 : k ≤ 7) : k = 1 ∨ k = 2 ∨ k = 3 ∨ k = 4 ∨ k = 5 ∨ k = 6 ∨ k = 7 := by
  obtain ⟨d, hd, rfl⟩ := zq_ge1 h1
  have h : d + 1 ≤ 7 := (nI_leI (b := 7) hd (by omega)).mp h7
  have e : d = 0 ∨ d = 1 ∨ d = 2 ∨ d = 3 ∨ d = 4 ∨ d = 5 ∨ d = 6 := by omega
  rcases e with rfl | rfl | rfl | rfl | rfl | rfl | rfl <;> decide
theorem zy_fd {post : Int32 → SY → Prop} {c : Nat} (hc : c < 16) (dt0 : Nat → Int32) (hp : post (nI c) (mx, nI (c + 1), 0, tp, K, X, Y, Z, zq_fo (fun _ e => nI (e + 1)) (c * 36) dt0 36, bd, rq, sr, sd, vr, vd, el)) : ∀ d e fu : Nat, e + d = 36 → d < fu → wY_addNode_208 post mx (nI c) st tp fu (nI e) K X Y Z (zq_fo (fun _ e => nI (e + 1)) (c * 36) dt0 e) bd rq sr sd vr vd el := by
  intro d
  induction d with
  | zero =>
    intro e fu he hf
    obtain ⟨f, rfl⟩ : ∃ f, fu = f + 1 := ⟨fu - 1, by omega⟩
    have h36 : e = 36 := by omega
    subst h36
    rw [wY_addNode_208]
    refine br_t (Int32.le_refl _) ?_
    unfold wY_addNode_240
    refine nm_r (nI_1 c) ?_
    rw [nI_pred]
    exact hp
  | succ d ih =>
    intro e fu he hf
    obtain ⟨f, rfl⟩ : ∃ f, fu = f + 1 := ⟨fu - 1, by omega⟩
    rw [wY_addNode_208]
    dsimp only
    have ei : nI c * 36 + nI e = nI (c * 36 + e) := by rw [zq_m36, nI_add]
    refine br_f (nI_ge (b := 36) (by omega) (by decide)) ?_
    rw [ei, nI_clamp (by omega), nI_1]
    exact ⟨vp_in_nI (by omega) (by omega), nm_e (nm_e (ih (e + 1) f (by omega) (by omega)))⟩
theorem zy_add {post : Int32 → SY → Prop} {D c : Nat} {k x y z : Int32} {rk : Nat → Nat} (h6 : D ≤ 6) (hc : c ≤ 16) (hr : ∀ j, j < c → rk j ≤ 2) (hn : ∀ i, i < c → zq_nd D i rk (K i) (X i) (Y i) (Z i))
    (full : c = 16 → post (-1) (nI D, nI c, st, tp, K, X, Y, Z, dt, bd, rq, sr, sd, vr, vd, el)) (no : c < 16 → ¬ zq_vn D c rk k x y z → ∀ rq', post (-1) (nI D, nI c, st, tp, K, X, Y, Z, dt, bd, rq', sr, sd, vr, vd, el))
    (ok : c < 16 → zq_vn D c rk k x y z → ∀ rq' dt', dt' = (if k = 1 then zq_fo (fun _ e => nI (e + 1)) (c * 36) dt 36 else dt) →
      post (nI c) (nI D, nI (c + 1), 0, tp, upd K c k, upd X c x, upd Y c y, upd Z c z, dt', bd, rq', sr, sd, vr, vd, el)) :
    wpY_addNode post (nI D, nI c, st, tp, K, X, Y, Z, dt, bd, rq, sr, sd, vr, vd, el) k x y z := by
  have h159 : c < 16 → zq_vn D c rk k x y z → ∀ rq', wY_addNode_159 post k x y z (nI D) (nI c) st tp K X Y Z dt bd rq' sr sd vr vd el := by
    intro h hv rq'
    have vc : vp_in (nI c) 16 := vp_in_nI h (by omega)
    unfold wY_addNode_159
    rw [nI_clamp (by omega)]
    refine ⟨vc, nm_e ⟨vc, nm_e ⟨vc, nm_e ⟨vc, nm_e (br_c (fun hk => ?_) (fun hk => ?_))⟩⟩⟩⟩
    · exact ⟨37, zy_fd h dt (ok h hv rq' _ (if_pos hk).symm) 36 0 37 (by omega) (by omega)⟩
    · unfold wY_addNode_240
      refine nm_r (nI_1 c) ?_
      rw [nI_pred]
      exact ok h hv rq' _ (if_neg hk).symm
  unfold wpY_addNode
  dsimp only
  refine pk_lt c 16 (fun h => ?_) (fun h => full (by omega))
  have no := no h
  have h159 := h159 h
  refine br_c (fun h1 => no ?_ rq) (fun h1 => br_c (fun h7 => ?_) (fun h7 => no ?_ rq))
  · intro v
    rcases zq_vnk v with rfl | rfl | rfl | rfl | rfl | rfl | rfl <;> exact absurd h1 (by decide)
  · rcases zq_k17 h1 h7 with rfl | hk | hk | rfl | rfl | rfl | rfl
    · refine br_t (by decide) ?_
      unfold wY_addNode_43
      refine br_t (by decide) ?_
      unfold wY_addNode_67
      refine br_t rfl (zy_vs h6 (fun hs => br_f (by decide) ?_) (fun hs => br_t rfl (no (fun v => hs (zq_vn1 v)) rq)))
      unfold wY_addNode_83
      refine br_f (by decide) ?_
      unfold wY_addNode_101
      refine br_f (by decide) ?_
      unfold wY_addNode_134
      exact br_f (by decide) (h159 (Or.inl ⟨rfl, hs⟩) rq)
    · have hk' : k = 2 ∨ k = 3 := Or.inl hk
      subst hk
      refine br_f (by decide) (zq_ckl (by omega) (fun p hp ex => ?_) (fun hx => no (fun v => hx (zq_vn2 hk' v).1) rq))
      unfold wY_addNode_43
      refine br_f (by decide) (br_f (by decide) (zq_ckl (by omega) (fun q hq ey => ?_) (fun hx => no (fun v => hx (zq_vn2 hk' v).2) rq)))
      unfold wY_addNode_67
      refine br_f (by decide) ?_
      unfold wY_addNode_83
      refine br_f (by decide) ?_
      unfold wY_addNode_101
      refine br_f (by decide) ?_
      unfold wY_addNode_134
      exact br_f (by decide) (h159 (Or.inr (Or.inl ⟨p, q, hp, hq, ex, ey, hk'⟩)) rq)
    · have hk' : k = 2 ∨ k = 3 := Or.inr hk
      subst hk
      refine br_f (by decide) (zq_ckl (by omega) (fun p hp ex => ?_) (fun hx => no (fun v => hx (zq_vn2 hk' v).1) rq))
      unfold wY_addNode_43
      refine br_f (by decide) (br_f (by decide) (zq_ckl (by omega) (fun q hq ey => ?_) (fun hx => no (fun v => hx (zq_vn2 hk' v).2) rq)))
      unfold wY_addNode_67
      refine br_f (by decide) ?_
      unfold wY_addNode_83
      refine br_f (by decide) ?_
      unfold wY_addNode_101
      refine br_f (by decide) ?_
      unfold wY_addNode_134
      exact br_f (by decide) (h159 (Or.inr (Or.inl ⟨p, q, hp, hq, ex, ey, hk'⟩)) rq)
    · refine br_f (by decide) (zq_ckl (by omega) (fun p hp ex => ?_) (fun hx => no (fun v => ?_) rq))
      · unfold wY_addNode_43
        refine br_f (by decide) (br_f (by decide) (zq_ckl (by omega) (fun q hq ey => ?_) (fun hx => no (fun v => ?_) rq)))
        · subst ex ey
          unfold wY_addNode_67
          refine br_f (by decide) ?_
          unfold wY_addNode_83
          refine br_f (by decide) ?_
          unfold wY_addNode_101
          refine br_t rfl (zy_rank hc hp hn hr (fun rq1 => zy_rank hc hq hn hr (fun rq2 => ?_)))
          have rp := hr p hp
          have rq' := hr q hq
          refine pk_eq (rk p) 2 (fun e1 => pk_eq (rk q) 2 (fun e2 => ?_) (fun e2 => no (fun v => ?_) rq2)) (fun e1 => no (fun v => ?_) rq2)
          · unfold wY_addNode_134
            exact br_f (by decide) (h159 (Or.inr (Or.inr (Or.inl ⟨p, q, hp, hq, rfl, rfl, rfl, e1, e2⟩))) rq2)
          · obtain ⟨p', q', hp', hq', ep, eq, r1, r2⟩ := zq_vn4 v
            have := (nI_eq (by omega) (by omega)).mp eq
            subst this
            exact e2 r2
          · obtain ⟨p', q', hp', hq', ep, eq, r1, r2⟩ := zq_vn4 v
            have := (nI_eq (by omega) (by omega)).mp ep
            subst this
            exact e1 r1
        · obtain ⟨p', q', hp', hq', ep, eq, _⟩ := zq_vn4 v
          exact hx ⟨q', hq', eq⟩
      · obtain ⟨p', q', hp', hq', ep, eq, _⟩ := zq_vn4 v
        exact hx ⟨p', hp', ep⟩
    · refine br_f (by decide) (zq_ckl (by omega) (fun p hp ex => ?_) (fun hx => no (fun v => hx (zq_vn5 v)) rq))
      unfold wY_addNode_43
      refine br_f (by decide) (br_t (by decide) ?_)
      unfold wY_addNode_67
      refine br_f (by decide) ?_
      unfold wY_addNode_83
      refine br_f (by decide) ?_
      unfold wY_addNode_101
      refine br_f (by decide) ?_
      unfold wY_addNode_134
      exact br_f (by decide) (h159 (Or.inr (Or.inr (Or.inr (Or.inl ⟨p, hp, ex, rfl⟩)))) rq)
    · refine br_f (by decide) (zq_ckl (by omega) (fun p hp ex => ?_) (fun hx => no (fun v => hx (zq_vn6 v).1) rq))
      unfold wY_addNode_43
      refine br_f (by decide) (br_t (by decide) ?_)
      unfold wY_addNode_67
      refine br_f (by decide) ?_
      unfold wY_addNode_83
      refine br_t rfl (zy_vs h6 (fun hs => br_f (by decide) ?_) (fun hs => br_t rfl (no (fun v => hs (zq_vn6 v).2) rq)))
      unfold wY_addNode_101
      refine br_f (by decide) ?_
      unfold wY_addNode_134
      exact br_f (by decide) (h159 (Or.inr (Or.inr (Or.inr (Or.inr (Or.inl ⟨p, hp, ex, rfl, hs⟩))))) rq)
    · refine br_f (by decide) (zq_ckl (by omega) (fun p hp ex => ?_) (fun hx => no (fun v => ?_) rq))
      · unfold wY_addNode_43
        refine br_f (by decide) (br_t (by decide) ?_)
        unfold wY_addNode_67
        refine br_f (by decide) ?_
        unfold wY_addNode_83
        refine br_f (by decide) ?_
        unfold wY_addNode_101
        refine br_f (by decide) ?_
        unfold wY_addNode_134
        subst ex
        have rp := hr p hp
        refine br_t rfl (zy_rank hc hp hn hr (fun rq1 => zq_ckl (by omega) (fun s hs ey => ?_) (fun hx => no (fun v => ?_) rq1)))
        · exact h159 (Or.inr (Or.inr (Or.inr (Or.inr (Or.inr ⟨p, s, hp, rfl, rfl, ey, hs⟩))))) rq1
        · obtain ⟨p', s, hp', ep, ey, hs⟩ := zq_vn7 v
          have := (nI_eq (by omega) (by omega)).mp ep
          subst this
          exact hx ⟨s, hs, ey⟩
      · obtain ⟨p', s, hp', ep, ey, hs⟩ := zq_vn7 v
        exact hx ⟨p', hp', ep⟩
  · intro v
    rcases zq_vnk v with rfl | rfl | rfl | rfl | rfl | rfl | rfl <;> exact absurd (by decide) h7
end
