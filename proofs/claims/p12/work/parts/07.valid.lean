/-! arguments: both sides -/
theorem zq_ckl {x : Int32} {c : Nat} {A B : Prop} (hc : c < 2 ^ 31) (ok : ∀ j, j < c → x = nI j → A) (no : ¬ (∃ j, j < c ∧ x = nI j) → B) : (x < 0 → B) ∧ (¬ x < 0 → ((x < nI c → A) ∧ (¬ x < nI c → B))) := by
  refine br_c (fun h => no ?_) (fun h => br_c (fun h1 => ?_) (fun h1 => no ?_))
  · intro ⟨j, hj, e⟩
    rw [e] at h
    exact nI_pos (by omega) h
  · obtain ⟨j, hj, rfl⟩ := nI_of h
    exact ok j ((nI_ltI hj hc).mp h1) rfl
  · intro ⟨j, hj, e⟩
    rw [e] at h1
    exact h1 (nI_lt hj hc)
theorem zq_cke {x : Int32} {c : Nat} {A B : Prop} (hc : c < 2 ^ 31) (ok : ∀ j, j < c → x = nI j → A) (no : ¬ (∃ j, j < c ∧ x = nI j) → B) : (x < 0 → B) ∧ (¬ x < 0 → ((nI c ≤ x → B) ∧ (¬ nI c ≤ x → A))) := by
  refine br_c (fun h => no ?_) (fun h => br_c (fun h1 => no ?_) (fun h1 => ?_))
  · intro ⟨j, hj, e⟩
    rw [e] at h
    exact nI_pos (by omega) h
  · intro ⟨j, hj, e⟩
    rw [e] at h1
    exact nI_ge hj hc h1
  · obtain ⟨j, hj, rfl⟩ := nI_of h
    have h2 : ¬ c ≤ j := fun z => h1 ((nI_leI hc hj).mpr z)
    exact ok j (by omega) rfl
theorem zq_ge1 {x : Int32} (h : ¬ x < 1) : ∃ d, d + 1 < 2 ^ 31 ∧ x = nI (d + 1) := by
  have h0 : ¬ x < 0 := fun z => h (Int32.lt_of_lt_of_le z (by decide))
  obtain ⟨j, hj, rfl⟩ := nI_of h0
  have h1 : ¬ j < 1 := fun z => h ((nI_ltI (b := 1) hj (by omega)).mpr z)
  refine ⟨j - 1, by omega, ?_⟩
  rw [Nat.sub_add_cancel (by omega)]
theorem zq_szl {x : Int32} {D : Nat} {A B : Prop} (hD : D < 2 ^ 31) (ok : ∀ d, d < D → x = nI (d + 1) → A) (no : ¬ (∃ d, d < D ∧ x = nI (d + 1)) → B) : (x < 1 → B) ∧ (¬ x < 1 → ((nI D < x → B) ∧ (¬ nI D < x → A))) := by
  refine br_c (fun h => no ?_) (fun h => br_c (fun h1 => no ?_) (fun h1 => ?_))
  · intro ⟨d, hd, e⟩
    rw [e] at h
    exact nI_nlt (b := 1) (by omega) (by omega) h
  · intro ⟨d, hd, e⟩
    rw [e] at h1
    exact nI_nlt (by omega) (by omega) h1
  · obtain ⟨d, hd, rfl⟩ := zq_ge1 h
    have h2 : ¬ D < d + 1 := fun z => h1 ((nI_ltI hD hd).mpr z)
    exact ok d (by omega) rfl
theorem zq_sze {x : Int32} {D : Nat} {A B : Prop} (hD : D < 2 ^ 31) (ok : ∀ d, d < D → x = nI (d + 1) → A) (no : ¬ (∃ d, d < D ∧ x = nI (d + 1)) → B) : (x < 1 → B) ∧ (¬ x < 1 → ((x ≤ nI D → A) ∧ (¬ x ≤ nI D → B))) := by
  refine br_c (fun h => no ?_) (fun h => br_c (fun h1 => ?_) (fun h1 => no ?_))
  · intro ⟨d, hd, e⟩
    rw [e] at h
    exact nI_nlt (b := 1) (by omega) (by omega) h
  · obtain ⟨d, hd, rfl⟩ := zq_ge1 h
    have h2 : d + 1 ≤ D := (nI_leI hd hD).mp h1
    exact ok d (by omega) rfl
  · intro ⟨d, hd, e⟩
    rw [e] at h1
    exact h1 (nI_le (by omega) hD)
/-- a valid new node -/
def zq_vn (D i : Nat) (rk : Nat → Nat) (k x y z : Int32) : Prop :=
  (k = 1 ∧ zq_spec D x y) ∨
  (∃ p q, p < i ∧ q < i ∧ x = nI p ∧ y = nI q ∧ (k = 2 ∨ k = 3)) ∨
  (∃ p q, p < i ∧ q < i ∧ x = nI p ∧ y = nI q ∧ k = 4 ∧ rk p = 2 ∧ rk q = 2) ∨
  (∃ p, p < i ∧ x = nI p ∧ k = 5) ∨
  (∃ p, p < i ∧ x = nI p ∧ k = 6 ∧ zq_spec D y z) ∨
  (∃ p s, p < i ∧ x = nI p ∧ k = 7 ∧ y = nI s ∧ s < rk p)
section
variable {D i : Nat} {rk : Nat → Nat} {k x y z : Int32}
theorem zq_vnk (h : zq_vn D i rk k x y z) : k = 1 ∨ k = 2 ∨ k = 3 ∨ k = 4 ∨ k = 5 ∨ k = 6 ∨ k = 7 := by
  rcases h with ⟨h, _⟩ | ⟨_, _, _, _, _, _, h⟩ | ⟨_, _, _, _, _, _, h, _⟩ | ⟨_, _, _, h⟩ | ⟨_, _, _, h, _⟩ | ⟨_, _, _, _, h, _⟩
  · exact Or.inl h
  · rcases h with h | h
    · exact Or.inr (Or.inl h)
    · exact Or.inr (Or.inr (Or.inl h))
  · exact Or.inr (Or.inr (Or.inr (Or.inl h)))
  · exact Or.inr (Or.inr (Or.inr (Or.inr (Or.inl h))))
  · exact Or.inr (Or.inr (Or.inr (Or.inr (Or.inr (Or.inl h)))))
  · exact Or.inr (Or.inr (Or.inr (Or.inr (Or.inr (Or.inr h)))))
theorem zq_vn1 (h : zq_vn D i rk 1 x y z) : zq_spec D x y := by
  rcases h with ⟨_, h⟩ | ⟨_, _, _, _, _, _, h⟩ | ⟨_, _, _, _, _, _, h, _⟩ | ⟨_, _, _, h⟩ | ⟨_, _, _, h, _⟩ | ⟨_, _, _, _, h, _⟩
  · exact h
  · exact absurd h (by decide)
  · exact absurd h (by decide)
  · exact absurd h (by decide)
  · exact absurd h (by decide)
  · exact absurd h (by decide)
theorem zq_vn2 (hk : k = 2 ∨ k = 3) (h : zq_vn D i rk k x y z) : (∃ j, j < i ∧ x = nI j) ∧ (∃ j, j < i ∧ y = nI j) := by
  have hk' : k ≠ 1 ∧ k ≠ 4 ∧ k ≠ 5 ∧ k ≠ 6 ∧ k ≠ 7 := by rcases hk with rfl | rfl <;> decide
  rcases h with ⟨h, _⟩ | ⟨p, q, hp, hq, ex, ey, h⟩ | ⟨_, _, _, _, _, _, h, _⟩ | ⟨_, _, _, h⟩ | ⟨_, _, _, h, _⟩ | ⟨_, _, _, _, h, _⟩
  · exact absurd h hk'.1
  · exact ⟨⟨p, hp, ex⟩, ⟨q, hq, ey⟩⟩
  · exact absurd h hk'.2.1
  · exact absurd h hk'.2.2.1
  · exact absurd h hk'.2.2.2.1
  · exact absurd h hk'.2.2.2.2
theorem zq_vn4 (h : zq_vn D i rk 4 x y z) : ∃ p q, p < i ∧ q < i ∧ x = nI p ∧ y = nI q ∧ rk p = 2 ∧ rk q = 2 := by
  rcases h with ⟨h, _⟩ | ⟨_, _, _, _, _, _, h⟩ | ⟨p, q, hp, hq, ex, ey, _, h⟩ | ⟨_, _, _, h⟩ | ⟨_, _, _, h, _⟩ | ⟨_, _, _, _, h, _⟩
  · exact absurd h (by decide)
  · exact absurd h (by decide)
  · exact ⟨p, q, hp, hq, ex, ey, h⟩
  · exact absurd h (by decide)
  · exact absurd h (by decide)
  · exact absurd h (by decide)
theorem zq_vn5 (h : zq_vn D i rk 5 x y z) : ∃ j, j < i ∧ x = nI j := by
  rcases h with ⟨h, _⟩ | ⟨_, _, _, _, _, _, h⟩ | ⟨_, _, _, _, _, _, h, _⟩ | ⟨p, hp, ex, _⟩ | ⟨_, _, _, h, _⟩ | ⟨_, _, _, _, h, _⟩
  · exact absurd h (by decide)
  · exact absurd h (by decide)
  · exact absurd h (by decide)
  · exact ⟨p, hp, ex⟩
  · exact absurd h (by decide)
  · exact absurd h (by decide)
theorem zq_vn6 (h : zq_vn D i rk 6 x y z) : (∃ j, j < i ∧ x = nI j) ∧ zq_spec D y z := by
  rcases h with ⟨h, _⟩ | ⟨_, _, _, _, _, _, h⟩ | ⟨_, _, _, _, _, _, h, _⟩ | ⟨_, _, _, h⟩ | ⟨p, hp, ex, _, h⟩ | ⟨_, _, _, _, h, _⟩
  · exact absurd h (by decide)
  · exact absurd h (by decide)
  · exact absurd h (by decide)
  · exact absurd h (by decide)
  · exact ⟨⟨p, hp, ex⟩, h⟩
  · exact absurd h (by decide)
theorem zq_vn7 (h : zq_vn D i rk 7 x y z) : ∃ p s, p < i ∧ x = nI p ∧ y = nI s ∧ s < rk p := by
  rcases h with ⟨h, _⟩ | ⟨_, _, _, _, _, _, h⟩ | ⟨_, _, _, _, _, _, h, _⟩ | ⟨_, _, _, h⟩ | ⟨_, _, _, h, _⟩ | ⟨p, s, hp, ex, _, ey, hs⟩
  · exact absurd h (by decide)
  · exact absurd h (by decide)
  · exact absurd h (by decide)
  · exact absurd h (by decide)
  · exact absurd h (by decide)
  · exact ⟨p, s, hp, ex, ey, hs⟩
end
/-! the class's checks -/
section
variable {mx ins cnt st cp : Int32} {K X Y Z rs dt sz tr bd el : Nat → Int32}
theorem zx_isn {post : Int32 → Prop} {c : Nat} {x : Int32} (hc : c ≤ 16) (ok : ∀ j, j < c → x = nI j → post 1) (no : ¬ (∃ j, j < c ∧ x = nI j) → post 0) : wpX_isNode post (mx, ins, nI c, st, cp, K, X, Y, Z, rs, dt, sz, tr, bd, el) x := by
  unfold wpX_isNode
  dsimp only
  exact zq_cke (by omega) ok no
theorem zx_isz {post : Int32 → Prop} {D : Nat} {x : Int32} (hD : D ≤ 6) (ok : ∀ d, d < D → x = nI (d + 1) → post 1) (no : ¬ (∃ d, d < D ∧ x = nI (d + 1)) → post 0) : wpX_isSize post (nI D, ins, cnt, st, cp, K, X, Y, Z, rs, dt, sz, tr, bd, el) x := by
  unfold wpX_isSize
  dsimp only
  exact zq_szl (by omega) ok no
theorem zx_vc {post : Int32 → Prop} {D : Nat} {x : Int32} (hD : D ≤ 6) (ok : zq_code D x → post 1) (no : ¬ zq_code D x → post 0) : wpX_validCode post (nI D, ins, cnt, st, cp, K, X, Y, Z, rs, dt, sz, tr, bd, el) x := by
  unfold wpX_validCode
  dsimp only
  refine zx_isz hD (fun d hd e => br_f (by decide) (ok (Or.inl ⟨d + 1, by omega, by omega, e⟩))) (fun h => br_t rfl ?_)
  have hd : ∀ d, ¬ (1 ≤ d ∧ d ≤ D ∧ x = nI d) := fun d z => h ⟨d - 1, by omega, by rw [Nat.sub_add_cancel z.1]; exact z.2.2⟩
  refine br_c (fun h0 => no ?_) (fun h0 => br_c (fun h3 => no ?_) (fun h3 => ok ?_))
  · rintro (⟨d, z⟩ | rfl | rfl | rfl)
    · exact hd d z
    · exact absurd h0 (by decide)
    · exact absurd h0 (by decide)
    · exact absurd h0 (by decide)
  · rintro (⟨d, z⟩ | rfl | rfl | rfl)
    · exact hd d z
    · exact absurd h3 (by decide)
    · exact absurd h3 (by decide)
    · exact absurd h3 (by decide)
  · exact Or.inr (zq_neg (Int32.not_le.mp h0) (Int32.not_lt.mp h3))
theorem zx_vs {post : Int32 → Prop} {D : Nat} {p q : Int32} (hD : D ≤ 6) (ok : zq_spec D p q → post 1) (no : ¬ zq_spec D p q → post 0) : wpX_validSpec post (nI D, ins, cnt, st, cp, K, X, Y, Z, rs, dt, sz, tr, bd, el) p q := by
  unfold wpX_validSpec
  dsimp only
  refine br_c (fun hp => br_c (fun hq => ok (Or.inl ⟨hp, hq⟩)) (fun hq => no ?_)) (fun hp => zx_vc hD (fun hc => br_f (by decide) ?_) (fun hc => br_t rfl (no ?_)))
  · rintro (⟨_, h⟩ | ⟨_, h⟩ | ⟨h, _⟩)
    · exact hq h
    · exact hq h
    · exact zq_code_ne hD h hp
  · refine br_c (fun hq => ok (Or.inr (Or.inl ⟨hc, hq⟩))) (fun hq => zx_vc hD (fun hc' => br_f (by decide) (ok (Or.inr (Or.inr ⟨hc, hc'⟩)))) (fun hc' => br_t rfl (no ?_)))
    rintro (⟨h, _⟩ | ⟨_, h⟩ | ⟨_, h⟩)
    · exact hp h
    · exact hq h
    · exact hc' h
  · rintro (⟨h, _⟩ | ⟨h, _⟩ | ⟨h, _⟩)
    · exact hp h
    · exact hc h
    · exact hc h
theorem zx_hd {post : Int32 → Prop} {c : Nat} {rk : Nat → Nat} {x y : Int32} (hc : c ≤ 16) (hr : ∀ j, j < c → rs j = nI (rk j) ∧ rk j ≤ 2) (ok : ∀ p s, p < c → x = nI p → y = nI s → s < rk p → post 1) (no : ¬ (∃ p s, p < c ∧ x = nI p ∧ y = nI s ∧ s < rk p) → post 0) : wpX_hasDim post (mx, ins, nI c, st, cp, K, X, Y, Z, rs, dt, sz, tr, bd, el) x y := by
  unfold wpX_hasDim
  dsimp only
  refine zx_isn hc (fun j hj e => br_f (by decide) ?_) (fun h => br_t rfl (no (fun ⟨p, _, hp, e, _⟩ => h ⟨p, hp, e⟩)))
  subst e
  rw [nI_clamp (by omega), (hr j hj).1]
  have hj2 := (hr j hj).2
  have inj : ∀ p, p < c → nI j = nI p → j = p := fun p hp e => (nI_eq (by omega) (by omega)).mp e
  refine br_c (fun h => no ?_) (fun h => ⟨vp_in_nI (by omega) (by omega), br_c (fun h1 => no ?_) (fun h1 => ?_)⟩)
  · rintro ⟨p, s, hp, e1, e2, hs⟩
    rw [e2] at h
    have := inj p hp e1
    subst this
    exact nI_pos (by omega) h
  · rintro ⟨p, s, hp, e1, e2, hs⟩
    rw [e2] at h1
    have := inj p hp e1
    subst this
    exact nI_ge hs (by omega) h1
  · obtain ⟨s, hs, rfl⟩ := nI_of h
    have h2 : ¬ rk j ≤ s := fun z => h1 ((nI_leI (by omega) hs).mpr z)
    exact ok j s hj rfl rfl (by omega)
theorem zx_vn {post : Int32 → Prop} {D c : Nat} {rk : Nat → Nat} {k x y z : Int32} (hD : D ≤ 6) (hc : c ≤ 16) (hr : ∀ j, j < c → rs j = nI (rk j) ∧ rk j ≤ 2) (ok : zq_vn D c rk k x y z → post 1) (no : ¬ zq_vn D c rk k x y z → post 0) : wpX_validNode post (nI D, ins, nI c, st, cp, K, X, Y, Z, rs, dt, sz, tr, bd, el) k x y z := by
  unfold wpX_validNode
  dsimp only
  have m51 : (k = 2 ∨ k = 3) → wX_validNode_51 post x y (nI D) ins (nI c) st cp K X Y Z rs dt sz tr bd el := by
    intro hk
    unfold wX_validNode_51
    refine zx_isn hc (fun p hp ex => br_f (by decide) (zx_isn hc (fun q hq ey => br_f (by decide) (ok (Or.inr (Or.inl ⟨p, q, hp, hq, ex, ey, hk⟩)))) (fun h => br_t rfl (no (fun v => h (zq_vn2 hk v).2))))) (fun h => br_t rfl (no (fun v => h (zq_vn2 hk v).1)))
  refine br_c (fun h => no ?_) (fun _ => br_c (fun h => no ?_) (fun _ => br_c (fun e => ?_) (fun _ => br_c (fun e => m51 (Or.inl e)) (fun _ => br_c (fun e => m51 (Or.inr e)) (fun _ => br_c (fun e => ?_) (fun _ => br_c (fun e => ?_) (fun _ => br_c (fun e => ?_) (fun _ => br_c (fun e => ?_) (fun _ => trivial)))))))))
  · intro v
    rcases zq_vnk v with rfl | rfl | rfl | rfl | rfl | rfl | rfl <;> exact absurd h (by decide)
  · intro v
    rcases zq_vnk v with rfl | rfl | rfl | rfl | rfl | rfl | rfl <;> exact absurd h (by decide)
  · subst e
    exact zx_vs hD (fun h => ⟨rfl, ok (Or.inl ⟨rfl, h⟩)⟩) (fun h => ⟨rfl, no (fun v => h (zq_vn1 v))⟩)
  · subst e
    refine zx_isn hc (fun p hp ex => br_f (by decide) (zx_isn hc (fun q hq ey => br_f (by decide) ?_) (fun h => br_t rfl (no (fun v => ?_))))) (fun h => br_t rfl (no (fun v => ?_)))
    · subst ex ey
      rw [nI_clamp (by omega), nI_clamp (by omega), (hr p hp).1, (hr q hq).1]
      have hp2 := (hr p hp).2
      have hq2 := (hr q hq).2
      refine ⟨vp_in_nI (by omega) (by omega), pk_eq (rk p) 2 (fun e1 => ⟨vp_in_nI (by omega) (by omega), pk_eq (rk q) 2 (fun e2 => ?_) (fun e2 => no (fun v => ?_))⟩) (fun e1 => no (fun v => ?_))⟩
      · exact ok (Or.inr (Or.inr (Or.inl ⟨p, q, hp, hq, rfl, rfl, rfl, e1, e2⟩)))
      · obtain ⟨p', q', hp', hq', ep, eq, r1, r2⟩ := zq_vn4 v
        have := (nI_eq (by omega) (by omega)).mp eq
        subst this
        exact e2 r2
      · obtain ⟨p', q', hp', hq', ep, eq, r1, r2⟩ := zq_vn4 v
        have := (nI_eq (by omega) (by omega)).mp ep
        subst this
        exact e1 r1
    · obtain ⟨p', q', hp', hq', ep, eq, _⟩ := zq_vn4 v
      exact h ⟨q', hq', eq⟩
    · obtain ⟨p', q', hp', hq', ep, eq, _⟩ := zq_vn4 v
      exact h ⟨p', hp', ep⟩
  · subst e
    exact zx_isn hc (fun p hp ex => ⟨rfl, ok (Or.inr (Or.inr (Or.inr (Or.inl ⟨p, hp, ex, rfl⟩))))⟩) (fun h => ⟨rfl, no (fun v => h (zq_vn5 v))⟩)
  · subst e
    refine zx_isn hc (fun p hp ex => br_f (by decide) (zx_vs hD (fun h => br_f (by decide) (ok (Or.inr (Or.inr (Or.inr (Or.inr (Or.inl ⟨p, hp, ex, rfl, h⟩))))))) (fun h => br_t rfl (no (fun v => h (zq_vn6 v).2))))) (fun h => br_t rfl (no (fun v => h (zq_vn6 v).1)))
  · subst e
    exact zx_hd hc hr (fun p s hp ex ey hs => ⟨rfl, ok (Or.inr (Or.inr (Or.inr (Or.inr (Or.inr ⟨p, s, hp, ex, rfl, ey, hs⟩)))))⟩) (fun h => ⟨rfl, no (fun v => h (zq_vn7 v))⟩)
theorem zx_srk {post : Int32 → Prop} {D : Nat} {p q : Int32} (hD : D ≤ 6) (hs : zq_spec D p q) (hp : post (nI (zq_sr p q))) : wpX_specRank post () p q := by
  unfold wpX_specRank
  unfold zq_sr at hp
  rcases hs with ⟨rfl, rfl⟩ | ⟨h, rfl⟩ | ⟨h, h'⟩
  · rw [if_pos rfl] at hp
    exact br_t rfl (br_t rfl hp)
  · rw [if_neg (zq_code_ne hD h), if_pos rfl] at hp
    exact br_t rfl (br_f (zq_code_ne hD h) hp)
  · rw [if_neg (zq_code_ne hD h), if_neg (zq_code_ne hD h')] at hp
    exact br_f (zq_code_ne hD h') hp
theorem zx_rbk {post : Int32 → Prop} {D c : Nat} {rk : Nat → Nat} {k x y z : Int32} (hD : D ≤ 6) (hc : c ≤ 16) (hr : ∀ j, j < c → rs j = nI (rk j) ∧ rk j ≤ 2) (hv : zq_vn D c rk k x y z) (ok : ∀ r, zq_nd D c (zq_ex c r rk) k x y z → post (nI r)) : wpX_rankByKind post (mx, ins, cnt, st, cp, K, X, Y, Z, rs, dt, sz, tr, bd, el) k x y z := by
  unfold wpX_rankByKind
  dsimp only
  rcases hv with ⟨rfl, h2⟩ | ⟨p, q, hp, hq, rfl, rfl, hk⟩ | ⟨p, q, hp, hq, rfl, rfl, rfl, h4, h5⟩ | ⟨p, hp, rfl, rfl⟩ | ⟨p, hp, rfl, rfl, h4⟩ | ⟨p, s, hp, rfl, rfl, rfl, hs⟩
  · refine br_f (by decide) (br_f (by decide) (br_t rfl ?_))
    exact zx_srk hD h2 (ok _ (Or.inl ⟨rfl, h2, zq_ex_s⟩))
  · have main : wX_rankByKind_50 post (nI p) (nI q) mx ins cnt st cp K X Y Z rs dt sz tr bd el := by
      unfold wX_rankByKind_50
      rw [nI_clamp (by omega), nI_clamp (by omega), (hr p hp).1, (hr q hq).1]
      have hp2 := (hr p hp).2
      have hq2 := (hr q hq).2
      have ok' : ∀ r, r = max (rk p) (rk q) → post (nI r) := fun r e => ok r (Or.inr (Or.inl ⟨p, q, hp, hq, rfl, rfl, hk, by rw [zq_ex_s, zq_ex_n hp, zq_ex_n hq]; exact e⟩))
      exact ⟨vp_in_nI (by omega) (by omega), vp_in_nI (by omega) (by omega), pk_le (rk p) (rk q) (fun e => ⟨vp_in_nI (by omega) (by omega), ok' _ (by omega)⟩) (fun e => ⟨vp_in_nI (by omega) (by omega), ok' _ (by omega)⟩)⟩
    rcases hk with rfl | rfl
    · exact br_f (by decide) (br_f (by decide) (br_f (by decide) (br_t rfl main)))
    · exact br_f (by decide) (br_f (by decide) (br_f (by decide) (br_f (by decide) (br_t rfl main))))
  · refine br_f (by decide) (br_f (by decide) (br_f (by decide) (br_f (by decide) (br_f (by decide) (br_t rfl ⟨vp_in_nI (by omega) (by omega), ?_⟩)))))
    rw [nI_clamp (by omega), (hr p hp).1]
    exact ok _ (Or.inr (Or.inr (Or.inl ⟨p, q, hp, hq, rfl, rfl, rfl, by rw [zq_ex_n hp]; exact h4, by rw [zq_ex_n hq]; exact h5, by rw [zq_ex_s]; exact h4⟩)))
  · refine br_f (by decide) (br_f (by decide) (br_f (by decide) (br_f (by decide) (br_f (by decide) (br_f (by decide) (br_t rfl ⟨vp_in_nI (by omega) (by omega), ?_⟩))))))
    rw [nI_clamp (by omega), (hr p hp).1]
    exact ok _ (Or.inr (Or.inr (Or.inr (Or.inl ⟨p, hp, rfl, rfl, by rw [zq_ex_s, zq_ex_n hp]⟩))))
  · refine br_f (by decide) (br_f (by decide) (br_f (by decide) (br_f (by decide) (br_f (by decide) (br_f (by decide) (br_f (by decide) (br_t rfl ?_)))))))
    exact zx_srk hD h4 (ok _ (Or.inr (Or.inr (Or.inr (Or.inr (Or.inl ⟨p, hp, rfl, rfl, h4, zq_ex_s⟩))))))
  · refine br_f (by decide) (br_f (by decide) (br_f (by decide) (br_f (by decide) (br_f (by decide) (br_f (by decide) (br_f (by decide) (br_f (by decide) (br_t rfl ⟨vp_in_nI (by omega) (by omega), ?_⟩))))))))
    rw [nI_clamp (by omega), (hr p hp).1]
    have e : nI (rk p) - 1 = nI (rk p - 1) := pk_sub (b := 1) (by omega)
    rw [e]
    exact ok _ (Or.inr (Or.inr (Or.inr (Or.inr (Or.inr ⟨p, s, hp, rfl, rfl, rfl, by rw [zq_ex_n hp]; exact hs, by rw [zq_ex_s, zq_ex_n hp]; omega⟩)))))
end
