section
/-- from kit/rows, as given for pasting: pk_us, pk_un, pk_sub -/
theorem pk_us {f : Nat → Int32} {k : Nat} {x : Int32} : upd f k x k = x := if_pos rfl
theorem pk_un {f : Nat → Int32} {k j : Nat} {x : Int32} (h : j ≠ k) : upd f k x j = f j := if_neg h
theorem pk_sub {a b : Nat} (h : b ≤ a) : nI a - nI b = nI (a - b) := by
  obtain ⟨c, rfl⟩ : ∃ c, a = c + b := ⟨a - b, by omega⟩
  rw [← nI_add, Int32.add_sub_cancel, Nat.add_sub_cancel]
/-- the first c pending places hold sectors -/
def il_ok (ps : Nat → Int32) (c : Nat) : Prop := ∀ j, j < c → ∃ s : Nat, s < 12 ∧ ps j = nI s
/-- both sides hold the same: c pending writes in the same two arrays, the same durable values, the same marks of damage, the same count -/
def i_Rel (_ : Nat) (u : SX) (v : SY) : Prop := ∃ (c : Nat) (d : Int32) (dv dm ps pv : Nat → Int32), c ≤ 20 ∧ il_ok ps c ∧ u = (nI c, d, dv, dm, ps, pv) ∧ v = (nI c, d, ps, pv, dv, dm)
theorem i_up {k : Nat} {u : SX} {v : SY} (h : i_Rel k u v) : i_Rel (k + 3) u v := h
theorem i_vc0 : wpX_init (fun u => wpY_init (fun v => i_Rel 0 u v)) := ⟨0, 0, fun _ => 0, fun _ => 0, fun _ => 0, fun _ => 0, by omega, fun j h => absurd h (by omega), rfl, rfl⟩
theorem il_sec (p : Int32) : (∃ s : Nat, s < 12 ∧ p = nI s) ∨ ((∀ post : Int32 → Prop, post 0 → wpX_isSector post p) ∧ (∀ (post : Int32 → Prop) (v : SY), post 0 → wpY_isSector post v p)) := by
  by_cases h0 : p < 0
  · exact Or.inr ⟨fun _ h => br_t h0 h, fun _ ⟨_, _, _, _, _, _⟩ h => br_t h0 h⟩
  · obtain ⟨j, hj, rfl⟩ := nI_of h0
    by_cases h12 : j < 12
    · exact Or.inl ⟨j, h12, rfl⟩
    · exact Or.inr ⟨fun _ h => br_f h0 (br_t (nI_le (a := 12) (b := j) (by omega) hj) h), fun _ ⟨_, _, _, _, _, _⟩ h => br_f h0 (br_t (nI_lt (a := 11) (b := j) (by omega) hj) h)⟩
theorem il_xsec {s : Nat} (hs : s < 12) (post : Int32 → Prop) (h : post 1) : wpX_isSector post (nI s) :=
  br_f (nI_pos (by omega)) (br_f (nI_ge (b := 12) hs (by decide)) h)
theorem il_ysec {s : Nat} (hs : s < 12) (post : Int32 → Prop) (v : SY) (h : post 1) : wpY_isSector post v (nI s) := by
  obtain ⟨_, _, _, _, _, _⟩ := v
  exact br_f (nI_pos (by omega)) (br_f (nI_nlt (a := 11) (b := s) (by omega) (by decide)) h)
theorem il_in {s : Nat} (hs : s < 12) : vp_in (nI s) 12 := vp_in_nI hs (by decide)
theorem il_in20 {s : Nat} (hs : s < 20) : vp_in (nI s) 20 := vp_in_nI hs (by decide)
theorem il_10 : ¬ (1 : Int32) = 0 := by decide
theorem il_lim {c : Nat} (hc : c ≤ 20) (d : Int32) (dv dm ps pv : Nat → Int32) (p : Int32) : ∃ m : Nat, m ≤ c ∧ (∀ post : Int32 → Prop, post (nI m) → wpX_limitToPending post (nI c, d, dv, dm, ps, pv) p) ∧ (∀ post : Int32 → Prop, post (nI m) → wpY_adjusted post (nI c, d, ps, pv, dv, dm) p) := by
  by_cases h0 : p < 0
  · have h : ¬ (0 : Int32) ≤ p := Int32.not_le.mpr h0
    exact ⟨0, by omega, fun _ hp => br_f h hp, fun _ hp => br_f h hp⟩
  · have h : (0 : Int32) ≤ p := Int32.not_lt.mp h0
    obtain ⟨j, hj, rfl⟩ := nI_of h0
    by_cases hjc : j ≤ c
    · have hl := nI_le hjc (by omega : c < 2 ^ 31)
      exact ⟨j, hjc, fun _ hp => br_t h (br_t hl hp), fun _ hp => br_t h (br_t hl hp)⟩
    · have hl : ¬ nI j ≤ nI c := nI_ge (by omega) hj
      exact ⟨c, Nat.le_refl c, fun _ hp => br_t h (br_f hl hp), fun _ hp => br_t h (br_f hl hp)⟩
theorem il_adj {c : Nat} (hc : c ≤ 20) (d : Int32) (dv dm ps pv : Nat → Int32) (post : Int32 → Prop) (hp : post (nI c)) : wpY_adjusted post (nI c, d, ps, pv, dv, dm) (nI c) :=
  br_t (nI_pos' (by omega)) (br_t (nI_le (Nat.le_refl c) (by omega)) hp)
end
section
/-- the newest of the first c pending writes that names the sector s, or -1 -/
def il_nw (a : Nat → Int32) (s : Int32) : Nat → Int32
  | 0 => -1
  | c + 1 => if a c = s then nI c else il_nw a s c
theorem il_nw_t {a : Nat → Int32} {s : Int32} {c : Nat} (h : a c = s) : il_nw a s (c + 1) = nI c := if_pos h
theorem il_nw_f {a : Nat → Int32} {s : Int32} {c : Nat} (h : ¬ a c = s) : il_nw a s (c + 1) = il_nw a s c := if_neg h
theorem il_nw_c (a : Nat → Int32) (s : Int32) : ∀ c : Nat, il_nw a s c = -1 ∨ ∃ j : Nat, j < c ∧ il_nw a s c = nI j := by
  intro c
  induction c with
  | zero => exact Or.inl rfl
  | succ c ih =>
    by_cases h : a c = s
    · exact Or.inr ⟨c, by omega, il_nw_t h⟩
    · rw [il_nw_f h]
      rcases ih with e | ⟨j, hj, e⟩
      · exact Or.inl e
      · exact Or.inr ⟨j, by omega, e⟩
theorem il_xnl (post : Int32 → Prop) (x1 pc d : Int32) (dv dm ps pv : Nat → Int32) : ∀ c : Nat, c ≤ 20 → post (il_nw ps x1 c) → wX_newestPending_7 post x1 pc d dv dm ps pv (c + 1) (nI c - 1) := by
  intro c
  induction c with
  | zero =>
    intro _ hp
    exact br_t (by rw [nI_0]; decide) hp
  | succ c ih =>
    intro hc hp
    rw [nI_pred]
    have e : (nI c).toNatClampNeg = c := nI_clamp (by omega)
    refine br_f (nI_pos (by omega)) ⟨il_in20 (by omega), ?_⟩
    by_cases h : ps c = x1
    · rw [il_nw_t h] at hp
      exact br_t (by rw [e]; exact h) hp
    · rw [il_nw_f h] at hp
      exact br_f (by rw [e]; exact h) (nm_r (Int32.sub_eq_add_neg (nI c) 1).symm (ih (by omega) hp))
theorem il_xn {c : Nat} (hc : c ≤ 20) (post : Int32 → Prop) (x1 d : Int32) (dv dm ps pv : Nat → Int32) (hp : post (il_nw ps x1 c)) : wpX_newestPending post (nI c, d, dv, dm, ps, pv) x1 :=
  nm_e ⟨c + 1, il_xnl post x1 (nI c) d dv dm ps pv c hc hp⟩
theorem il_ynl (post : Int32 → Prop) (x1 d : Int32) (dv dm ps pv : Nat → Int32) (c : Nat) (hc : c ≤ 20) (hp : post (il_nw ps x1 c)) : ∀ n j : Nat, j + n = c → wY_newest_4 post x1 (nI c) d ps pv dv dm (n + 1) (il_nw ps x1 j) (nI j) := by
  intro n
  induction n with
  | zero =>
    intro j hj
    have e : j = c := by omega
    rw [e]
    exact br_t (nI_le (Nat.le_refl c) (by omega)) hp
  | succ n ih =>
    intro j hj
    have e : (nI j).toNatClampNeg = j := nI_clamp (by omega)
    have H := ih (j + 1) (by omega)
    refine br_f (nI_ge (by omega) (by omega)) ⟨il_in20 (by omega), ?_⟩
    by_cases h : ps j = x1
    · rw [il_nw_t h] at H
      exact br_t (by rw [e]; exact h) (nm_r (nI_1 j) H)
    · rw [il_nw_f h] at H
      exact br_f (by rw [e]; exact h) (nm_r (nI_1 j) H)
theorem il_yn {c : Nat} (hc : c ≤ 20) (post : Int32 → Prop) (x1 d : Int32) (dv dm ps pv : Nat → Int32) (hp : post (il_nw ps x1 c)) : wpY_newest post (nI c, d, ps, pv, dv, dm) x1 :=
  ⟨c + 1, il_ynl post x1 d dv dm ps pv c hc hp c 0 (by omega)⟩
theorem il_m1n : ¬ (0 : Int32) ≤ -1 := by decide
theorem il_m1l : (-1 : Int32) < 0 := by decide
theorem il_jm1 {j : Nat} (h : j < 20) : ¬ nI j = -1 := fun e => nI_pos (n := j) (by omega) (by rw [e]; decide)
/-- the reference's readable and read: by the newest, then by the mark of damage -/
theorem il_yra1 {c s j : Nat} (hc : c ≤ 20) (hs : s < 12) (d : Int32) (dv dm ps pv : Nat → Int32) (hj : j < c) (e : il_nw ps (nI s) c = nI j) (post : Int32 → Prop) (hp : post 1) : wpY_readable post (nI c, d, ps, pv, dv, dm) (nI s) := by
  unfold wpY_readable
  dsimp only
  refine il_ysec hs _ _ (br_f il_10 ?_)
  refine il_yn hc _ (nI s) d dv dm ps pv ?_
  rw [e]
  exact br_t (nI_pos' (by omega)) hp
theorem il_yra2 {c s : Nat} (hc : c ≤ 20) (hs : s < 12) (d : Int32) (dv dm ps pv : Nat → Int32) (e : il_nw ps (nI s) c = -1) (hd : dm s = 0) (post : Int32 → Prop) (hp : post 1) : wpY_readable post (nI c, d, ps, pv, dv, dm) (nI s) := by
  unfold wpY_readable
  dsimp only
  refine il_ysec hs _ _ (br_f il_10 ?_)
  refine il_yn hc _ (nI s) d dv dm ps pv ?_
  rw [e]
  exact br_f il_m1n ⟨il_in hs, br_t (by rw [nI_clamp (by omega)]; exact hd) hp⟩
theorem il_yra3 {c s : Nat} (hc : c ≤ 20) (hs : s < 12) (d : Int32) (dv dm ps pv : Nat → Int32) (e : il_nw ps (nI s) c = -1) (hd : ¬ dm s = 0) (post : Int32 → Prop) (hp : post 0) : wpY_readable post (nI c, d, ps, pv, dv, dm) (nI s) := by
  unfold wpY_readable
  dsimp only
  refine il_ysec hs _ _ (br_f il_10 ?_)
  refine il_yn hc _ (nI s) d dv dm ps pv ?_
  rw [e]
  exact br_f il_m1n ⟨il_in hs, br_f (by rw [nI_clamp (by omega)]; exact hd) hp⟩
theorem il_yrd1 {c s j : Nat} (hc : c ≤ 20) (hs : s < 12) (d : Int32) (dv dm ps pv : Nat → Int32) (hj : j < c) (e : il_nw ps (nI s) c = nI j) (post : Int32 → Prop) (hp : post (pv j)) : wpY_read post (nI c, d, ps, pv, dv, dm) (nI s) := by
  unfold wpY_read
  dsimp only
  refine il_yra1 hc hs d dv dm ps pv hj e _ (br_f il_10 ?_)
  refine il_yn hc _ (nI s) d dv dm ps pv ?_
  rw [e]
  exact br_f (nI_pos (by omega)) ⟨il_in20 (by omega), by rw [nI_clamp (by omega)]; exact hp⟩
theorem il_yrd2 {c s : Nat} (hc : c ≤ 20) (hs : s < 12) (d : Int32) (dv dm ps pv : Nat → Int32) (e : il_nw ps (nI s) c = -1) (hd : dm s = 0) (post : Int32 → Prop) (hp : post (dv s)) : wpY_read post (nI c, d, ps, pv, dv, dm) (nI s) := by
  unfold wpY_read
  dsimp only
  refine il_yra2 hc hs d dv dm ps pv e hd _ (br_f il_10 ?_)
  refine il_yn hc _ (nI s) d dv dm ps pv ?_
  rw [e]
  exact br_t il_m1l ⟨il_in hs, by rw [nI_clamp (by omega)]; exact hp⟩
theorem il_yrd3 {c s : Nat} (hc : c ≤ 20) (hs : s < 12) (d : Int32) (dv dm ps pv : Nat → Int32) (e : il_nw ps (nI s) c = -1) (hd : ¬ dm s = 0) (post : Int32 → Prop) (hp : post 0) : wpY_read post (nI c, d, ps, pv, dv, dm) (nI s) := by
  unfold wpY_read
  dsimp only
  exact il_yra3 hc hs d dv dm ps pv e hd _ (br_t rfl hp)
theorem il_yra0 {p : Int32} (h : ∀ (post : Int32 → Prop) (v : SY), post 0 → wpY_isSector post v p) (post : Int32 → Prop) (v : SY) (hp : post 0) : wpY_readable post v p := by
  obtain ⟨_, _, _, _, _, _⟩ := v
  unfold wpY_readable
  dsimp only
  exact h _ _ (br_t rfl hp)
theorem il_yrd0 {p : Int32} (h : ∀ (post : Int32 → Prop) (v : SY), post 0 → wpY_isSector post v p) (post : Int32 → Prop) (v : SY) (hp : post 0) : wpY_read post v p := by
  obtain ⟨_, _, _, _, _, _⟩ := v
  unfold wpY_read
  dsimp only
  exact il_yra0 h _ _ (br_t rfl hp)
end
section
theorem il_ok_le {ps : Nat → Int32} {a b : Nat} (h : il_ok ps b) (hab : a ≤ b) : il_ok ps a := fun j hj => h j (by omega)
theorem il_ok_upd {ps : Nat → Int32} {c k i : Nat} (h : il_ok ps c) (hi : i < c) : il_ok (upd ps k (ps i)) c := by
  intro j hj
  by_cases e : j = k
  · rw [e, pk_us]; exact h i hi
  · rw [pk_un e]; exact h j hj
/-- the drop of the m oldest: both sides store the same, place by place -/
theorem il_drop {c m : Nat} (hc : c ≤ 20) (hm : m ≤ c) (d : Int32) (dv dm : Nat → Int32) : ∀ (n k : Nat) (ps pv : Nat → Int32), m + k + n = c → il_ok ps c → ∃ ps' pv' : Nat → Int32, il_ok ps' (c - m) ∧ (∀ post : SX → Prop, post (nI (c - m), d, dv, dm, ps', pv') → wX_dropOldest_2 post (nI m) (nI c) d (n + 1) (nI (m + k)) dv dm ps pv) ∧ (∀ post : Int32 → SY → Prop, post (nI m) (nI (c - m), d, ps', pv', dv, dm) → wY_flushSome_70 post (nI m) (nI (c - m)) d (n + 1) (nI k) ps pv dv dm) := by
  intro n
  induction n with
  | zero =>
    intro k ps pv hk ho
    exact ⟨ps, pv, il_ok_le ho (by omega), fun _ hp => br_t (nI_le (by omega) (by omega)) (nm_r (pk_sub hm) hp), fun _ hp => br_t (nI_le (by omega) (by omega)) hp⟩
  | succ n ih =>
    intro k ps pv hk ho
    have e1 : nI (m + k) - nI m = nI k := by rw [pk_sub (by omega)]; exact congrArg nI (by omega)
    have e2 : nI k + nI m = nI (m + k) := by rw [nI_add]; exact congrArg nI (by omega)
    have ck : (nI k).toNatClampNeg = k := nI_clamp (by omega)
    have cmk : (nI (m + k)).toNatClampNeg = m + k := nI_clamp (by omega)
    have i1 : vp_in (nI (m + k)) 20 := il_in20 (by omega)
    have i2 : vp_in (nI k) 20 := il_in20 (by omega)
    have i3 : vp_in (nI (m + k) - nI m) 20 := by rw [e1]; exact i2
    have i4 : vp_in (nI k + nI m) 20 := by rw [e2]; exact i1
    obtain ⟨ps', pv', ho', hX, hY⟩ := ih (k + 1) (upd ps k (ps (m + k))) (upd pv k (pv (m + k))) (by omega) (il_ok_upd ho (by omega))
    refine ⟨ps', pv', ho', fun post hp => ?_, fun post hp => ?_⟩
    · exact br_f (nI_ge (by omega) (by omega)) ⟨i1, i3, nm_r (by rw [e1, ck, cmk]) ⟨i1, i3, nm_r (by rw [e1, ck, cmk]) (nm_r (nI_1 (m + k)) (hX post hp))⟩⟩
    · exact br_f (nI_ge (by omega) (by omega)) ⟨i4, i2, nm_r (by rw [e2, ck, cmk]) ⟨i4, i2, nm_r (by rw [e2, ck, cmk]) (nm_r (nI_1 k) (hY post hp))⟩⟩
/-- the m oldest become durable: both sides store the same, write by write, and then drop them -/
theorem il_make {c m : Nat} (hc : c ≤ 20) (hm : m ≤ c) (d : Int32) (ps pv : Nat → Int32) (ho : il_ok ps c) : ∀ (n i : Nat) (dv dm : Nat → Int32), i + n = m → ∃ dv' dm' ps' pv' : Nat → Int32, il_ok ps' (c - m) ∧ (∀ post : SX → Prop, post (nI (c - m), d + nI m, dv', dm', ps', pv') → wX_makeDurable_2 post (nI m) (nI c) d (n + 1) (nI i) dv dm ps pv) ∧ (∀ post : Int32 → SY → Prop, post (nI m) (nI (c - m), d + nI m, ps', pv', dv', dm') → wY_flushSome_8 post (nI m) (nI c) d (n + 1) (nI i) ps pv dv dm) := by
  intro n
  induction n with
  | zero =>
    intro i dv dm hi
    obtain ⟨ps', pv', ho', hX, hY⟩ := il_drop hc hm (d + nI m) dv dm (c - m) 0 ps pv (by omega) ho
    exact ⟨dv, dm, ps', pv', ho', fun post hp => br_t (nI_le (by omega) (by omega)) (nm_e ⟨c - m + 1, hX _ hp⟩), fun post hp => br_t (nI_le (by omega) (by omega)) (nm_e (nm_r (pk_sub hm) ⟨c - m + 1, hY _ hp⟩))⟩
  | succ n ih =>
    intro i dv dm hi
    have ci : (nI i).toNatClampNeg = i := nI_clamp (by omega)
    obtain ⟨s, hs, es⟩ := ho i (by omega)
    have cs : (nI s).toNatClampNeg = s := nI_clamp (by omega)
    have es' : ps (nI i).toNatClampNeg = nI s := by rw [ci]; exact es
    have i1 : vp_in (nI i) 20 := il_in20 (by omega)
    have i2 : vp_in (nI s) 12 := il_in hs
    have i3 : vp_in (ps (nI i).toNatClampNeg) 12 := by rw [es']; exact i2
    obtain ⟨dv', dm', ps', pv', ho', hX, hY⟩ := ih (i + 1) (upd dv s (pv i)) (upd dm s (vp_nar .boolean 0)) (by omega)
    refine ⟨dv', dm', ps', pv', ho', fun post hp => ?_, fun post hp => ?_⟩
    · exact br_f (nI_ge (by omega) (by omega)) ⟨i1, nm_r es' ⟨i1, i2, nm_r (by rw [cs, ci]) ⟨i2, nm_r (by rw [cs]) (nm_r (nI_1 i) (hX post hp))⟩⟩⟩
    · exact br_f (nI_ge (by omega) (by omega)) ⟨i1, i1, i3, nm_r (by rw [es', cs, ci]) ⟨i1, i3, nm_r (by rw [es', cs]) (nm_r (nI_1 i) (hY post hp))⟩⟩
theorem il_mk {c m : Nat} (hc : c ≤ 20) (hm : m ≤ c) (d : Int32) (dv dm ps pv : Nat → Int32) (ho : il_ok ps c) : ∃ dv' dm' ps' pv' : Nat → Int32, il_ok ps' (c - m) ∧ (∀ post : SX → Prop, post (nI (c - m), d + nI m, dv', dm', ps', pv') → wpX_makeDurable post (nI c, d, dv, dm, ps, pv) (nI m)) ∧ (∀ post : Int32 → SY → Prop, post (nI m) (nI (c - m), d + nI m, ps', pv', dv', dm') → ∃ n8 : Nat, wY_flushSome_8 post (nI m) (nI c) d n8 0 ps pv dv dm) := by
  obtain ⟨dv', dm', ps', pv', ho', hX, hY⟩ := il_make hc hm d ps pv ho m 0 dv dm (by omega)
  exact ⟨dv', dm', ps', pv', ho', fun post hp => ⟨m + 1, hX post hp⟩, fun post hp => ⟨m + 1, hY post hp⟩⟩
end
section
theorem il_scrub (c d : Int32) (dv dm ps pv : Nat → Int32) : ∀ (n j : Nat) (x : Int32), j + n = 12 → ∃ r : Int32, (∀ post : Int32 → Prop, post r → wX_scrub_4 post c d dv dm ps pv (n + 1) x (nI j)) ∧ (∀ post : Int32 → Prop, post r → wY_scrub_4 post c d ps pv dv dm (n + 1) x (nI j)) := by
  intro n
  induction n with
  | zero =>
    intro j x hj
    have h : (12 : Int32) ≤ nI j := nI_le (a := 12) (by omega) (by omega)
    exact ⟨x, fun _ hp => br_t h hp, fun _ hp => br_t h hp⟩
  | succ n ih =>
    intro j x hj
    have h : ¬ (12 : Int32) ≤ nI j := nI_ge (b := 12) (by omega) (by decide)
    have hi : vp_in (nI j) 12 := il_in (by omega)
    by_cases z : dm (nI j).toNatClampNeg = 0
    · obtain ⟨r, hX, hY⟩ := ih (j + 1) x (by omega)
      exact ⟨r, fun post hp => br_f h ⟨hi, br_t z (nm_r (nI_1 j) (hX post hp))⟩, fun post hp => br_f h ⟨hi, br_t z (nm_r (nI_1 j) (hY post hp))⟩⟩
    · obtain ⟨r, hX, hY⟩ := ih (j + 1) (x + 1) (by omega)
      exact ⟨r, fun post hp => br_f h ⟨hi, br_f z (nm_e (nm_r (nI_1 j) (hX post hp)))⟩, fun post hp => br_f h ⟨hi, br_f z (nm_e (nm_r (nI_1 j) (hY post hp)))⟩⟩
/-- the component's isAtRisk: by the newest, the mark of damage, the two values -/
theorem il_xr1 {c s : Nat} (hc : c ≤ 20) (d : Int32) (dv dm ps pv : Nat → Int32) (e : il_nw ps (nI s) c = -1) (post : Int32 → Prop) (hp : post 0) : wpX_isAtRisk post (nI c, d, dv, dm, ps, pv) (nI s) := by
  unfold wpX_isAtRisk
  dsimp only
  refine il_xn hc _ (nI s) d dv dm ps pv ?_
  rw [e]
  exact br_t rfl hp
theorem il_xr2 {c s j : Nat} (hc : c ≤ 20) (hs : s < 12) (d : Int32) (dv dm ps pv : Nat → Int32) (hj : j < c) (e : il_nw ps (nI s) c = nI j) (hd : ¬ dm s = 0) (post : Int32 → Prop) (hp : post 1) : wpX_isAtRisk post (nI c, d, dv, dm, ps, pv) (nI s) := by
  unfold wpX_isAtRisk
  dsimp only
  refine il_xn hc _ (nI s) d dv dm ps pv ?_
  rw [e]
  exact br_f (il_jm1 (by omega)) ⟨il_in hs, br_f (by rw [nI_clamp (by omega)]; exact hd) hp⟩
theorem il_xr3 {c s j : Nat} (hc : c ≤ 20) (hs : s < 12) (d : Int32) (dv dm ps pv : Nat → Int32) (hj : j < c) (e : il_nw ps (nI s) c = nI j) (hd : dm s = 0) (he : pv j = dv s) (post : Int32 → Prop) (hp : post 0) : wpX_isAtRisk post (nI c, d, dv, dm, ps, pv) (nI s) := by
  unfold wpX_isAtRisk
  dsimp only
  refine il_xn hc _ (nI s) d dv dm ps pv ?_
  rw [e]
  exact br_f (il_jm1 (by omega)) ⟨il_in hs, br_t (by rw [nI_clamp (by omega)]; exact hd) ⟨il_in20 (by omega), il_in hs, br_t (by rw [nI_clamp (n := j) (by omega), nI_clamp (n := s) (by omega)]; exact he) hp⟩⟩
theorem il_xr4 {c s j : Nat} (hc : c ≤ 20) (hs : s < 12) (d : Int32) (dv dm ps pv : Nat → Int32) (hj : j < c) (e : il_nw ps (nI s) c = nI j) (hd : dm s = 0) (he : ¬ pv j = dv s) (post : Int32 → Prop) (hp : post 1) : wpX_isAtRisk post (nI c, d, dv, dm, ps, pv) (nI s) := by
  unfold wpX_isAtRisk
  dsimp only
  refine il_xn hc _ (nI s) d dv dm ps pv ?_
  rw [e]
  exact br_f (il_jm1 (by omega)) ⟨il_in hs, br_t (by rw [nI_clamp (by omega)]; exact hd) ⟨il_in20 (by omega), il_in hs, br_f (by rw [nI_clamp (n := j) (by omega), nI_clamp (n := s) (by omega)]; exact he) hp⟩⟩
theorem il_risk {c : Nat} (hc : c ≤ 20) (d : Int32) (dv dm ps pv : Nat → Int32) : ∀ (n s : Nat) (x : Int32), s + n = 12 → ∃ r : Int32, (∀ post : Int32 → Prop, post r → wX_atRisk_4 post (nI c) d dv dm ps pv (n + 1) x (nI s)) ∧ (∀ post : Int32 → Prop, post r → wY_atRisk_4 post (nI c) d ps pv dv dm (n + 1) x (nI s)) := by
  intro n
  induction n with
  | zero =>
    intro s x hj
    have h : (12 : Int32) ≤ nI s := nI_le (a := 12) (by omega) (by omega)
    exact ⟨x, fun _ hp => br_t h hp, fun _ hp => br_t h hp⟩
  | succ n ih =>
    intro s x hj
    have hs : s < 12 := by omega
    have h : ¬ (12 : Int32) ≤ nI s := nI_ge (b := 12) hs (by decide)
    have cs : (nI s).toNatClampNeg = s := nI_clamp (by omega)
    obtain ⟨r0, hX0, hY0⟩ := ih (s + 1) x (by omega)
    obtain ⟨r1, hX1, hY1⟩ := ih (s + 1) (x + 1) (by omega)
    rcases il_nw_c ps (nI s) c with e | ⟨j, hjc, e⟩
    · refine ⟨r0, fun post hp => br_f h (il_xr1 hc d dv dm ps pv e _ (br_t rfl (nm_r (nI_1 s) (hX0 post hp)))), fun post hp => br_f h (il_yn hc _ (nI s) d dv dm ps pv ?_)⟩
      rw [e]
      exact br_t il_m1l (nm_r (nI_1 s) (hY0 post hp))
    · have nj : ¬ nI j < 0 := nI_pos (by omega)
      by_cases hd : dm s = 0
      · have hd' : dm (nI s).toNatClampNeg = 0 := by rw [cs]; exact hd
        by_cases he : pv j = dv s
        · refine ⟨r0, fun post hp => br_f h (il_xr3 hc hs d dv dm ps pv hjc e hd he _ (br_t rfl (nm_r (nI_1 s) (hX0 post hp)))), fun post hp => br_f h (il_yn hc _ (nI s) d dv dm ps pv ?_)⟩
          rw [e]
          exact br_f nj ⟨il_in hs, br_t hd' (il_yrd1 hc hs d dv dm ps pv hjc e _ ⟨il_in hs, br_t (by rw [cs]; exact he) (nm_r (nI_1 s) (hY0 post hp))⟩)⟩
        · refine ⟨r1, fun post hp => br_f h (il_xr4 hc hs d dv dm ps pv hjc e hd he _ (br_f il_10 (nm_e (nm_r (nI_1 s) (hX1 post hp))))), fun post hp => br_f h (il_yn hc _ (nI s) d dv dm ps pv ?_)⟩
          rw [e]
          exact br_f nj ⟨il_in hs, br_t hd' (il_yrd1 hc hs d dv dm ps pv hjc e _ ⟨il_in hs, br_f (by rw [cs]; exact he) (nm_e (nm_r (nI_1 s) (hY1 post hp)))⟩)⟩
      · have hd' : ¬ dm (nI s).toNatClampNeg = 0 := by rw [cs]; exact hd
        refine ⟨r1, fun post hp => br_f h (il_xr2 hc hs d dv dm ps pv hjc e hd _ (br_f il_10 (nm_e (nm_r (nI_1 s) (hX1 post hp))))), fun post hp => br_f h (il_yn hc _ (nI s) d dv dm ps pv ?_)⟩
        rw [e]
        exact br_f nj ⟨il_in hs, br_f hd' (nm_e (nm_r (nI_1 s) (hY1 post hp)))⟩
end
section
theorem il_rel {k c : Nat} (hc : c ≤ 20) (d : Int32) (dv dm ps pv : Nat → Int32) (ho : il_ok ps c) : i_Rel k (nI c, d, dv, dm, ps, pv) (nI c, d, ps, pv, dv, dm) := ⟨c, d, dv, dm, ps, pv, hc, ho, rfl, rfl⟩
theorem i_vc_write {k : Nat} {u : SX} {v : SY} (I : i_Rel k u v) (hk : k + 3 ≤ 1536) (v1 : Int32) (v2 : Int32) : wpX_write (fun r u' => wpY_write (fun r' v' => r' = r ∧ i_Rel (k + 3) u' v') v v1 v2) u v1 v2 := by
  obtain ⟨c, d, dv, dm, ps, pv, hc, ho, rfl, rfl⟩ := I
  unfold wpX_write wpY_write
  dsimp only
  rcases il_sec v1 with ⟨s, hs, rfl⟩ | ⟨hX, hY⟩
  · refine il_xsec hs _ (br_f il_10 ?_)
    by_cases h : c < 20
    · have i1 : vp_in (nI c) 20 := il_in20 h
      have cc : (nI c).toNatClampNeg = c := nI_clamp (by omega)
      have ne : ¬ nI c = 20 := fun e => nI_ge (b := 20) h (by decide) (by rw [e]; decide)
      have hR : il_ok (upd ps c (nI s)) (c + 1) := by
        intro j hj
        by_cases e : j = c
        · rw [e, pk_us]; exact ⟨s, hs, rfl⟩
        · rw [pk_un e]; exact ho j (by omega)
      refine br_t (nI_lt (b := 20) h (by decide)) ⟨i1, nm_r (by rw [cc]) ⟨i1, nm_r (by rw [cc]) (nm_r (nI_1 c) ?_)⟩⟩
      refine il_ysec hs _ _ (br_f il_10 (br_f ne ⟨i1, nm_r (by rw [cc]) ⟨i1, nm_r (by rw [cc]) (nm_r (nI_1 c) ?_)⟩⟩))
      exact ⟨rfl, il_rel (by omega) d dv dm _ _ hR⟩
    · have e : c = 20 := by omega
      subst e
      refine br_f (nI_nlt (a := 20) (b := 20) (by omega) (by decide)) ?_
      exact il_ysec hs _ _ (br_f il_10 (br_t rfl ⟨rfl, il_rel hc d dv dm ps pv ho⟩))
  · exact hX _ (br_t rfl (hY _ _ (br_t rfl ⟨rfl, il_rel hc d dv dm ps pv ho⟩)))
theorem i_vc_flush {k : Nat} {u : SX} {v : SY} (I : i_Rel k u v) (hk : k + 3 ≤ 1536) : wpX_flush (fun r u' => wpY_flush (fun r' v' => r' = r ∧ i_Rel (k + 3) u' v') v) u := by
  obtain ⟨c, d, dv, dm, ps, pv, hc, ho, rfl, rfl⟩ := I
  unfold wpX_flush wpY_flush
  dsimp only
  obtain ⟨dv', dm', ps', pv', ho', hX, hY⟩ := il_mk hc (Nat.le_refl c) d dv dm ps pv ho
  refine hX _ ?_
  unfold wpY_flushSome
  dsimp only
  refine il_adj hc d dv dm ps pv _ ?_
  exact hY _ ⟨rfl, il_rel (by omega) _ dv' dm' ps' pv' ho'⟩
theorem i_vc_flushSome {k : Nat} {u : SX} {v : SY} (I : i_Rel k u v) (hk : k + 3 ≤ 1536) (v1 : Int32) : wpX_flushSome (fun r u' => wpY_flushSome (fun r' v' => r' = r ∧ i_Rel (k + 3) u' v') v v1) u v1 := by
  obtain ⟨c, d, dv, dm, ps, pv, hc, ho, rfl, rfl⟩ := I
  unfold wpX_flushSome wpY_flushSome
  dsimp only
  obtain ⟨m, hm, lX, lY⟩ := il_lim hc d dv dm ps pv v1
  obtain ⟨dv', dm', ps', pv', ho', hX, hY⟩ := il_mk hc hm d dv dm ps pv ho
  refine lX _ ?_
  refine hX _ ?_
  refine lY _ ?_
  exact hY _ ⟨rfl, il_rel (by omega) _ dv' dm' ps' pv' ho'⟩
theorem i_vc_crash {k : Nat} {u : SX} {v : SY} (I : i_Rel k u v) (hk : k + 3 ≤ 1536) (v1 : Int32) : wpX_crash (fun r u' => wpY_crash (fun r' v' => r' = r ∧ i_Rel (k + 3) u' v') v v1) u v1 := by
  obtain ⟨c, d, dv, dm, ps, pv, hc, ho, rfl, rfl⟩ := I
  unfold wpX_crash wpY_crash
  dsimp only
  obtain ⟨m, hm, lX, lY⟩ := il_lim hc d dv dm ps pv v1
  obtain ⟨dv', dm', ps', pv', ho', hX, hY⟩ := il_mk hc hm d dv dm ps pv ho
  refine lX _ ?_
  refine hX _ ?_
  unfold wpY_flushSome
  dsimp only
  refine lY _ ?_
  exact hY _ ⟨rfl, il_rel (c := 0) (by omega) _ dv' dm' ps' pv' (il_ok_le ho' (by omega))⟩
theorem i_vc_damage {k : Nat} {u : SX} {v : SY} (I : i_Rel k u v) (hk : k + 3 ≤ 1536) (v1 : Int32) (v2 : Int32) : wpX_damage (fun r u' => wpY_damage (fun r' v' => r' = r ∧ i_Rel (k + 3) u' v') v v1 v2) u v1 v2 := by
  obtain ⟨c, d, dv, dm, ps, pv, hc, ho, rfl, rfl⟩ := I
  unfold wpX_damage wpY_damage
  dsimp only
  rcases il_sec v1 with ⟨s, hs, rfl⟩ | ⟨hX, hY⟩
  · have i1 : vp_in (nI s) 12 := il_in hs
    by_cases hb : v2 = 0
    · refine il_xsec hs _ (br_f il_10 (br_t hb ⟨i1, br_c (fun z => ?_) (fun z => ?_)⟩))
      · exact il_ysec hs _ _ (br_f il_10 (br_t hb ⟨i1, br_t z ⟨rfl, il_rel hc d dv dm ps pv ho⟩⟩))
      · exact il_ysec hs _ _ (br_f il_10 (br_t hb ⟨i1, br_f z ⟨rfl, il_rel hc d dv dm ps pv ho⟩⟩))
    · refine il_xsec hs _ (br_f il_10 (br_f hb ⟨i1, nm_e ⟨i1, br_c (fun z => ?_) (fun z => ?_)⟩⟩))
      · exact il_ysec hs _ _ (br_f il_10 (br_f hb ⟨i1, nm_e ⟨i1, br_t z ⟨rfl, il_rel hc d dv _ ps pv ho⟩⟩⟩))
      · exact il_ysec hs _ _ (br_f il_10 (br_f hb ⟨i1, nm_e ⟨i1, br_f z ⟨rfl, il_rel hc d dv _ ps pv ho⟩⟩⟩))
  · exact hX _ (br_t rfl (hY _ _ (br_t rfl ⟨rfl, il_rel hc d dv dm ps pv ho⟩)))
theorem i_vc_scrub {k : Nat} {u : SX} {v : SY} (I : i_Rel k u v) (hk : k + 3 ≤ 1536) : wpX_scrub (fun r => wpY_scrub (fun r' => r' = r ∧ i_Rel (k + 3) u v) v) u := by
  obtain ⟨c, d, dv, dm, ps, pv, hc, ho, rfl, rfl⟩ := I
  obtain ⟨r, hX, hY⟩ := il_scrub (nI c) d dv dm ps pv 12 0 0 (by omega)
  exact ⟨13, hX _ ⟨13, hY _ ⟨rfl, il_rel hc d dv dm ps pv ho⟩⟩⟩
theorem i_vc_read {k : Nat} {u : SX} {v : SY} (I : i_Rel k u v) (hk : k + 3 ≤ 1536) (v1 : Int32) : wpX_read (fun r => wpY_read (fun r' => r' = r ∧ i_Rel (k + 3) u v) v v1) u v1 := by
  obtain ⟨c, d, dv, dm, ps, pv, hc, ho, rfl, rfl⟩ := I
  unfold wpX_read
  dsimp only
  have R : i_Rel (k + 3) (nI c, d, dv, dm, ps, pv) (nI c, d, ps, pv, dv, dm) := il_rel hc d dv dm ps pv ho
  rcases il_sec v1 with ⟨s, hs, rfl⟩ | ⟨hX, hY⟩
  · have cs : (nI s).toNatClampNeg = s := nI_clamp (by omega)
    refine il_xsec hs _ (br_f il_10 (il_xn hc _ (nI s) d dv dm ps pv ?_))
    rcases il_nw_c ps (nI s) c with e | ⟨j, hj, e⟩
    · by_cases hd : dm s = 0
      · have hY := il_yrd2 hc hs d dv dm ps pv e hd (fun r' => r' = dv s ∧ i_Rel (k + 3) (nI c, d, dv, dm, ps, pv) (nI c, d, ps, pv, dv, dm)) ⟨rfl, R⟩
        rw [e]
        exact br_t rfl ⟨il_in hs, br_t (by rw [cs]; exact hd) ⟨il_in hs, by rw [cs]; exact hY⟩⟩
      · have hY := il_yrd3 hc hs d dv dm ps pv e hd (fun r' => r' = 0 ∧ i_Rel (k + 3) (nI c, d, dv, dm, ps, pv) (nI c, d, ps, pv, dv, dm)) ⟨rfl, R⟩
        rw [e]
        exact br_t rfl ⟨il_in hs, br_f (by rw [cs]; exact hd) hY⟩
    · have cj : (nI j).toNatClampNeg = j := nI_clamp (by omega)
      have hY := il_yrd1 hc hs d dv dm ps pv hj e (fun r' => r' = pv j ∧ i_Rel (k + 3) (nI c, d, dv, dm, ps, pv) (nI c, d, ps, pv, dv, dm)) ⟨rfl, R⟩
      rw [e]
      exact br_f (il_jm1 (by omega)) ⟨il_in20 (by omega), by rw [cj]; exact hY⟩
  · exact hX _ (br_t rfl (il_yrd0 hY _ _ ⟨rfl, R⟩))
theorem i_vc_readable {k : Nat} {u : SX} {v : SY} (I : i_Rel k u v) (hk : k + 3 ≤ 1536) (v1 : Int32) : wpX_readable (fun r => wpY_readable (fun r' => r' = r ∧ i_Rel (k + 3) u v) v v1) u v1 := by
  obtain ⟨c, d, dv, dm, ps, pv, hc, ho, rfl, rfl⟩ := I
  unfold wpX_readable
  dsimp only
  have R : i_Rel (k + 3) (nI c, d, dv, dm, ps, pv) (nI c, d, ps, pv, dv, dm) := il_rel hc d dv dm ps pv ho
  rcases il_sec v1 with ⟨s, hs, rfl⟩ | ⟨hX, hY⟩
  · have cs : (nI s).toNatClampNeg = s := nI_clamp (by omega)
    refine il_xsec hs _ (br_f il_10 ⟨il_in hs, ?_⟩)
    by_cases hd : dm s = 0
    · refine br_t (by rw [cs]; exact hd) ?_
      rcases il_nw_c ps (nI s) c with e | ⟨j, hj, e⟩
      · exact il_yra2 hc hs d dv dm ps pv e hd _ ⟨rfl, R⟩
      · exact il_yra1 hc hs d dv dm ps pv hj e _ ⟨rfl, R⟩
    · refine br_f (by rw [cs]; exact hd) (il_xn hc _ (nI s) d dv dm ps pv ?_)
      rcases il_nw_c ps (nI s) c with e | ⟨j, hj, e⟩
      · have hY := il_yra3 hc hs d dv dm ps pv e hd (fun r' => r' = 0 ∧ i_Rel (k + 3) (nI c, d, dv, dm, ps, pv) (nI c, d, ps, pv, dv, dm)) ⟨rfl, R⟩
        rw [e]
        exact br_t rfl hY
      · have hY := il_yra1 hc hs d dv dm ps pv hj e (fun r' => r' = 1 ∧ i_Rel (k + 3) (nI c, d, dv, dm, ps, pv) (nI c, d, ps, pv, dv, dm)) ⟨rfl, R⟩
        rw [e]
        exact br_f (il_jm1 (by omega)) hY
  · exact hX _ (br_t rfl (il_yra0 hY _ _ ⟨rfl, R⟩))
theorem i_vc_pending {k : Nat} {u : SX} {v : SY} (I : i_Rel k u v) (hk : k + 3 ≤ 1536) : wpX_pending (fun r => wpY_pending (fun r' => r' = r ∧ i_Rel (k + 3) u v) v) u := by
  obtain ⟨c, d, dv, dm, ps, pv, hc, ho, rfl, rfl⟩ := I
  exact ⟨rfl, il_rel hc d dv dm ps pv ho⟩
theorem i_vc_atRisk {k : Nat} {u : SX} {v : SY} (I : i_Rel k u v) (hk : k + 3 ≤ 1536) : wpX_atRisk (fun r => wpY_atRisk (fun r' => r' = r ∧ i_Rel (k + 3) u v) v) u := by
  obtain ⟨c, d, dv, dm, ps, pv, hc, ho, rfl, rfl⟩ := I
  obtain ⟨r, hX, hY⟩ := il_risk hc d dv dm ps pv 12 0 0 (by omega)
  exact ⟨13, hX _ ⟨13, hY _ ⟨rfl, il_rel hc d dv dm ps pv ho⟩⟩⟩
theorem i_vc_durable {k : Nat} {u : SX} {v : SY} (I : i_Rel k u v) (hk : k + 3 ≤ 1536) : wpX_durable (fun r => wpY_durable (fun r' => r' = r ∧ i_Rel (k + 3) u v) v) u := by
  obtain ⟨c, d, dv, dm, ps, pv, hc, ho, rfl, rfl⟩ := I
  exact ⟨rfl, il_rel hc d dv dm ps pv ho⟩
end
