/-- from kit/rows, as given for pasting: pk_us, pk_un, pk_sub -/
theorem pk_us {f : Nat → Int32} {k : Nat} {x : Int32} : upd f k x k = x := if_pos rfl
theorem pk_un {f : Nat → Int32} {k j : Nat} {x : Int32} (h : j ≠ k) : upd f k x j = f j := if_neg h
theorem pk_sub {a b : Nat} (h : b ≤ a) : nI a - nI b = nI (a - b) := by
  obtain ⟨c, rfl⟩ : ∃ c, a = c + b := ⟨a - b, by omega⟩
  rw [← nI_add, Int32.add_sub_cancel, Nat.add_sub_cancel]
/-- the first c pending places hold sectors -/
def il_ok (ps : Nat → Int32) (c : Nat) : Prop := ∀ j, j < c → ∃ s : Nat, s < 12 ∧ ps j = nI s
/-- both sides hold the same: c pending writes in the same two arrays, the same durable values, the same marks of damage, the same count -/
def i_Rel (_ : Nat) (u : SX) (v : SY) : Prop := ∃ (c : Nat) (d : Int32) (dv dm ps pv : Nat → Int32), c ≤ 20 ∧ il_ok ps c ∧ u = (nI c, d, dv, dm, ps, pv) ∧ v = (nI c, d, ps, pv, dv, dm)
theorem i_up {k : Nat} {u : SX} {v : SY} (h : i_Rel k u v) : i_Rel (k + 3) u v := h
theorem i_vc0 : wpX_init (fun u => wpY_init (fun v => i_Rel 0 u v)) := ⟨0, 0, fun _ => 0, fun _ => 0, fun _ => 0, fun _ => 0, by omega, fun j h => absurd h (by omega), rfl, rfl⟩
theorem il_sec (p : Int32) : (∃ s : Nat, s < 12 ∧ p = nI s) ∨ ((∀ post : Int32 → Prop, post 0 → wpX_isSector post p) ∧ (∀ (post : Int32 → Prop) (v : SY), post 0 → wpY_isSector post v p)) := by
  by_cases h0 : p < 0
  · exact Or.inr ⟨fun _ h => br_t h0 h, fun _ ⟨_, _, _, _, _, _⟩ h => br_t h0 h⟩
  · obtain ⟨j, hj, rfl⟩ := nI_of h0
    by_cases h12 : j < 12
    · exact Or.inl ⟨j, h12, rfl⟩
    · exact Or.inr ⟨fun _ h => br_f h0 (br_t (nI_le (a := 12) (b := j) (by omega) hj) h), fun _ ⟨_, _, _, _, _, _⟩ h => br_f h0 (br_t (nI_lt (a := 11) (b := j) (by omega) hj) h)⟩
theorem il_xsec {s : Nat} (hs : s < 12) (post : Int32 → Prop) (h : post 1) : wpX_isSector post (nI s) :=
  br_f (nI_pos (by omega)) (br_f (nI_ge (b := 12) hs (by decide)) h)
theorem il_ysec {s : Nat} (hs : s < 12) (post : Int32 → Prop) (v : SY) (h : post 1) : wpY_isSector post v (nI s) := by
  obtain ⟨_, _, _, _, _, _⟩ := v
  exact br_f (nI_pos (by omega)) (br_f (nI_nlt (a := 11) (b := s) (by omega) (by decide)) h)
theorem il_in {s : Nat} (hs : s < 12) : vp_in (nI s) 12 := vp_in_nI hs (by decide)
theorem il_in20 {s : Nat} (hs : s < 20) : vp_in (nI s) 20 := vp_in_nI hs (by decide)
theorem il_10 : ¬ (1 : Int32) = 0 := by decide
theorem il_lim {c : Nat} (hc : c ≤ 20) (d : Int32) (dv dm ps pv : Nat → Int32) (p : Int32) : ∃ m : Nat, m ≤ c ∧ (∀ post : Int32 → Prop, post (nI m) → wpX_limitToPending post (nI c, d, dv, dm, ps, pv) p) ∧ (∀ post : Int32 → Prop, post (nI m) → wpY_adjusted post (nI c, d, ps, pv, dv, dm) p) := by
  by_cases h0 : p < 0
  · have h : ¬ (0 : Int32) ≤ p := Int32.not_le.mpr h0
    exact ⟨0, by omega, fun _ hp => br_f h hp, fun _ hp => br_f h hp⟩
  · have h : (0 : Int32) ≤ p := Int32.not_lt.mp h0
    obtain ⟨j, hj, rfl⟩ := nI_of h0
    by_cases hjc : j ≤ c
    · have hl := nI_le hjc (by omega : c < 2 ^ 31)
      exact ⟨j, hjc, fun _ hp => br_t h (br_t hl hp), fun _ hp => br_t h (br_t hl hp)⟩
    · have hl : ¬ nI j ≤ nI c := nI_ge (by omega) hj
      exact ⟨c, Nat.le_refl c, fun _ hp => br_t h (br_f hl hp), fun _ hp => br_t h (br_f hl hp)⟩
theorem il_adj {c : Nat} (hc : c ≤ 20) (d : Int32) (dv dm ps pv : Nat → Int32) (post : Int32 → Prop) (hp : post (nI c)) : wpY_adjusted post (nI c, d, ps, pv, dv, dm) (nI c) :=
  br_t (nI_pos' (by omega)) (br_t (nI_le (Nat.le_refl c) (by omega)) hp)
