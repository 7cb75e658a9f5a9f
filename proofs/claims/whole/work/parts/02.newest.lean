/-- the newest of the first c pending writes that names the sector s, or -1 -/
def il_nw (a : Nat → Int32) (s : Int32) : Nat → Int32
  | 0 => -1
  | c + 1 => if a c = s then nI c else il_nw a s c
theorem il_nw_t {a : Nat → Int32} {s : Int32} {c : Nat} (h : a c = s) : il_nw a s (c + 1) = nI c := if_pos h
theorem il_nw_f {a : Nat → Int32} {s : Int32} {c : Nat} (h : ¬ a c = s) : il_nw a s (c + 1) = il_nw a s c := if_neg h
theorem il_nw_c (a : Nat → Int32) (s : Int32) : ∀ c : Nat, il_nw a s c = -1 ∨ ∃ j : Nat, j < c ∧ il_nw a s c = nI j := by
  intro c
  induction c with
  | zero => exact Or.inl rfl
  | succ c ih =>
    by_cases h : a c = s
    · exact Or.inr ⟨c, by omega, il_nw_t h⟩
    · rw [il_nw_f h]
      rcases ih with e | ⟨j, hj, e⟩
      · exact Or.inl e
      · exact Or.inr ⟨j, by omega, e⟩
theorem il_xnl (post : Int32 → Prop) (x1 pc d : Int32) (dv dm ps pv : Nat → Int32) : ∀ c : Nat, c ≤ 20 → post (il_nw ps x1 c) → wX_newestPending_7 post x1 pc d dv dm ps pv (c + 1) (nI c - 1) := by
  intro c
  induction c with
  | zero =>
    intro _ hp
    exact br_t (by rw [nI_0]; decide) hp
  | succ c ih =>
    intro hc hp
    rw [nI_pred]
    have e : (nI c).toNatClampNeg = c := nI_clamp (by omega)
    refine br_f (nI_pos (by omega)) ⟨il_in20 (by omega), ?_⟩
    by_cases h : ps c = x1
    · rw [il_nw_t h] at hp
      exact br_t (by rw [e]; exact h) hp
    · rw [il_nw_f h] at hp
      exact br_f (by rw [e]; exact h) (nm_r (Int32.sub_eq_add_neg (nI c) 1).symm (ih (by omega) hp))
theorem il_xn {c : Nat} (hc : c ≤ 20) (post : Int32 → Prop) (x1 d : Int32) (dv dm ps pv : Nat → Int32) (hp : post (il_nw ps x1 c)) : wpX_newestPending post (nI c, d, dv, dm, ps, pv) x1 :=
  nm_e ⟨c + 1, il_xnl post x1 (nI c) d dv dm ps pv c hc hp⟩
theorem il_ynl (post : Int32 → Prop) (x1 d : Int32) (dv dm ps pv : Nat → Int32) (c : Nat) (hc : c ≤ 20) (hp : post (il_nw ps x1 c)) : ∀ n j : Nat, j + n = c → wY_newest_4 post x1 (nI c) d ps pv dv dm (n + 1) (il_nw ps x1 j) (nI j) := by
  intro n
  induction n with
  | zero =>
    intro j hj
    have e : j = c := by omega
    rw [e]
    exact br_t (nI_le (Nat.le_refl c) (by omega)) hp
  | succ n ih =>
    intro j hj
    have e : (nI j).toNatClampNeg = j := nI_clamp (by omega)
    have H := ih (j + 1) (by omega)
    refine br_f (nI_ge (by omega) (by omega)) ⟨il_in20 (by omega), ?_⟩
    by_cases h : ps j = x1
    · rw [il_nw_t h] at H
      exact br_t (by rw [e]; exact h) (nm_r (nI_1 j) H)
    · rw [il_nw_f h] at H
      exact br_f (by rw [e]; exact h) (nm_r (nI_1 j) H)
theorem il_yn {c : Nat} (hc : c ≤ 20) (post : Int32 → Prop) (x1 d : Int32) (dv dm ps pv : Nat → Int32) (hp : post (il_nw ps x1 c)) : wpY_newest post (nI c, d, ps, pv, dv, dm) x1 :=
  ⟨c + 1, il_ynl post x1 d dv dm ps pv c hc hp c 0 (by omega)⟩
theorem il_m1n : ¬ (0 : Int32) ≤ -1 := by decide
theorem il_m1l : (-1 : Int32) < 0 := by decide
theorem il_jm1 {j : Nat} (h : j < 20) : ¬ nI j = -1 := fun e => nI_pos (n := j) (by omega) (by rw [e]; decide)
/-- the reference's readable and read: by the newest, then by the mark of damage -/
theorem il_yra1 {c s j : Nat} (hc : c ≤ 20) (hs : s < 12) (d : Int32) (dv dm ps pv : Nat → Int32) (hj : j < c) (e : il_nw ps (nI s) c = nI j) (post : Int32 → Prop) (hp : post 1) : wpY_readable post (nI c, d, ps, pv, dv, dm) (nI s) := by
  unfold wpY_readable
  dsimp only
  refine il_ysec hs _ _ (br_f il_10 ?_)
  refine il_yn hc _ (nI s) d dv dm ps pv ?_
  rw [e]
  exact br_t (nI_pos' (by omega)) hp
theorem il_yra2 {c s : Nat} (hc : c ≤ 20) (hs : s < 12) (d : Int32) (dv dm ps pv : Nat → Int32) (e : il_nw ps (nI s) c = -1) (hd : dm s = 0) (post : Int32 → Prop) (hp : post 1) : wpY_readable post (nI c, d, ps, pv, dv, dm) (nI s) := by
  unfold wpY_readable
  dsimp only
  refine il_ysec hs _ _ (br_f il_10 ?_)
  refine il_yn hc _ (nI s) d dv dm ps pv ?_
  rw [e]
  exact br_f il_m1n ⟨il_in hs, br_t (by rw [nI_clamp (by omega)]; exact hd) hp⟩
theorem il_yra3 {c s : Nat} (hc : c ≤ 20) (hs : s < 12) (d : Int32) (dv dm ps pv : Nat → Int32) (e : il_nw ps (nI s) c = -1) (hd : ¬ dm s = 0) (post : Int32 → Prop) (hp : post 0) : wpY_readable post (nI c, d, ps, pv, dv, dm) (nI s) := by
  unfold wpY_readable
  dsimp only
  refine il_ysec hs _ _ (br_f il_10 ?_)
  refine il_yn hc _ (nI s) d dv dm ps pv ?_
  rw [e]
  exact br_f il_m1n ⟨il_in hs, br_f (by rw [nI_clamp (by omega)]; exact hd) hp⟩
theorem il_yrd1 {c s j : Nat} (hc : c ≤ 20) (hs : s < 12) (d : Int32) (dv dm ps pv : Nat → Int32) (hj : j < c) (e : il_nw ps (nI s) c = nI j) (post : Int32 → Prop) (hp : post (pv j)) : wpY_read post (nI c, d, ps, pv, dv, dm) (nI s) := by
  unfold wpY_read
  dsimp only
  refine il_yra1 hc hs d dv dm ps pv hj e _ (br_f il_10 ?_)
  refine il_yn hc _ (nI s) d dv dm ps pv ?_
  rw [e]
  exact br_f (nI_pos (by omega)) ⟨il_in20 (by omega), by rw [nI_clamp (by omega)]; exact hp⟩
theorem il_yrd2 {c s : Nat} (hc : c ≤ 20) (hs : s < 12) (d : Int32) (dv dm ps pv : Nat → Int32) (e : il_nw ps (nI s) c = -1) (hd : dm s = 0) (post : Int32 → Prop) (hp : post (dv s)) : wpY_read post (nI c, d, ps, pv, dv, dm) (nI s) := by
  unfold wpY_read
  dsimp only
  refine il_yra2 hc hs d dv dm ps pv e hd _ (br_f il_10 ?_)
  refine il_yn hc _ (nI s) d dv dm ps pv ?_
  rw [e]
  exact br_t il_m1l ⟨il_in hs, by rw [nI_clamp (by omega)]; exact hp⟩
theorem il_yrd3 {c s : Nat} (hc : c ≤ 20) (hs : s < 12) (d : Int32) (dv dm ps pv : Nat → Int32) (e : il_nw ps (nI s) c = -1) (hd : ¬ dm s = 0) (post : Int32 → Prop) (hp : post 0) : wpY_read post (nI c, d, ps, pv, dv, dm) (nI s) := by
  unfold wpY_read
  dsimp only
  exact il_yra3 hc hs d dv dm ps pv e hd _ (br_t rfl hp)
theorem il_yra0 {p : Int32} (h : ∀ (post : Int32 → Prop) (v : SY), post 0 → wpY_isSector post v p) (post : Int32 → Prop) (v : SY) (hp : post 0) : wpY_readable post v p := by
  obtain ⟨_, _, _, _, _, _⟩ := v
  unfold wpY_readable
  dsimp only
  exact h _ _ (br_t rfl hp)
theorem il_yrd0 {p : Int32} (h : ∀ (post : Int32 → Prop) (v : SY), post 0 → wpY_isSector post v p) (post : Int32 → Prop) (v : SY) (hp : post 0) : wpY_read post v p := by
  obtain ⟨_, _, _, _, _, _⟩ := v
  unfold wpY_read
  dsimp only
  exact il_yra0 h _ _ (br_t rfl hp)
