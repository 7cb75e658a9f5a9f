theorem il_ok_le {ps : Nat → Int32} {a b : Nat} (h : il_ok ps b) (hab : a ≤ b) : il_ok ps a := fun j hj => h j (by omega)
theorem il_ok_upd {ps : Nat → Int32} {c k i : Nat} (h : il_ok ps c) (hi : i < c) : il_ok (upd ps k (ps i)) c := by
  intro j hj
  by_cases e : j = k
  · rw [e, pk_us]; exact h i hi
  · rw [pk_un e]; exact h j hj
/-- the drop of the m oldest: both sides store the same, place by place -/
theorem il_drop {c m : Nat} (hc : c ≤ 20) (hm : m ≤ c) (d : Int32) (dv dm : Nat → Int32) : ∀ (n k : Nat) (ps pv : Nat → Int32), m + k + n = c → il_ok ps c → ∃ ps' pv' : Nat → Int32, il_ok ps' (c - m) ∧ (∀ post : SX → Prop, post (nI (c - m), d, dv, dm, ps', pv') → wX_dropOldest_2 post (nI m) (nI c) d (n + 1) (nI (m + k)) dv dm ps pv) ∧ (∀ post : Int32 → SY → Prop, post (nI m) (nI (c - m), d, ps', pv', dv, dm) → wY_flushSome_70 post (nI m) (nI (c - m)) d (n + 1) (nI k) ps pv dv dm) := by
  intro n
  induction n with
  | zero =>
    intro k ps pv hk ho
    exact ⟨ps, pv, il_ok_le ho (by omega), fun _ hp => br_t (nI_le (by omega) (by omega)) (nm_r (pk_sub hm) hp), fun _ hp => br_t (nI_le (by omega) (by omega)) hp⟩
  | succ n ih =>
    intro k ps pv hk ho
    have e1 : nI (m + k) - nI m = nI k := by rw [pk_sub (by omega)]; exact congrArg nI (by omega)
    have e2 : nI k + nI m = nI (m + k) := by rw [nI_add]; exact congrArg nI (by omega)
    have ck : (nI k).toNatClampNeg = k := nI_clamp (by omega)
    have cmk : (nI (m + k)).toNatClampNeg = m + k := nI_clamp (by omega)
    have i1 : vp_in (nI (m + k)) 20 := il_in20 (by omega)
    have i2 : vp_in (nI k) 20 := il_in20 (by omega)
    have i3 : vp_in (nI (m + k) - nI m) 20 := by rw [e1]; exact i2
    have i4 : vp_in (nI k + nI m) 20 := by rw [e2]; exact i1
    obtain ⟨ps', pv', ho', hX, hY⟩ := ih (k + 1) (upd ps k (ps (m + k))) (upd pv k (pv (m + k))) (by omega) (il_ok_upd ho (by omega))
    refine ⟨ps', pv', ho', fun post hp => ?_, fun post hp => ?_⟩
    · exact br_f (nI_ge (by omega) (by omega)) ⟨i1, i3, nm_r (by rw [e1, ck, cmk]) ⟨i1, i3, nm_r (by rw [e1, ck, cmk]) (nm_r (nI_1 (m + k)) (hX post hp))⟩⟩
    · exact br_f (nI_ge (by omega) (by omega)) ⟨i4, i2, nm_r (by rw [e2, ck, cmk]) ⟨i4, i2, nm_r (by rw [e2, ck, cmk]) (nm_r (nI_1 k) (hY post hp))⟩⟩
/-- the m oldest become durable: both sides store the same, write by write, and then drop them -/
theorem il_make {c m : Nat} (hc : c ≤ 20) (hm : m ≤ c) (d : Int32) (ps pv : Nat → Int32) (ho : il_ok ps c) : ∀ (n i : Nat) (dv dm : Nat → Int32), i + n = m → ∃ dv' dm' ps' pv' : Nat → Int32, il_ok ps' (c - m) ∧ (∀ post : SX → Prop, post (nI (c - m), d + nI m, dv', dm', ps', pv') → wX_makeDurable_2 post (nI m) (nI c) d (n + 1) (nI i) dv dm ps pv) ∧ (∀ post : Int32 → SY → Prop, post (nI m) (nI (c - m), d + nI m, ps', pv', dv', dm') → wY_flushSome_8 post (nI m) (nI c) d (n + 1) (nI i) ps pv dv dm) := by
  intro n
  induction n with
  | zero =>
    intro i dv dm hi
    obtain ⟨ps', pv', ho', hX, hY⟩ := il_drop hc hm (d + nI m) dv dm (c - m) 0 ps pv (by omega) ho
    exact ⟨dv, dm, ps', pv', ho', fun post hp => br_t (nI_le (by omega) (by omega)) (nm_e ⟨c - m + 1, hX _ hp⟩), fun post hp => br_t (nI_le (by omega) (by omega)) (nm_e (nm_r (pk_sub hm) ⟨c - m + 1, hY _ hp⟩))⟩
  | succ n ih =>
    intro i dv dm hi
    have ci : (nI i).toNatClampNeg = i := nI_clamp (by omega)
    obtain ⟨s, hs, es⟩ := ho i (by omega)
    have cs : (nI s).toNatClampNeg = s := nI_clamp (by omega)
    have es' : ps (nI i).toNatClampNeg = nI s := by rw [ci]; exact es
    have i1 : vp_in (nI i) 20 := il_in20 (by omega)
    have i2 : vp_in (nI s) 12 := il_in hs
    have i3 : vp_in (ps (nI i).toNatClampNeg) 12 := by rw [es']; exact i2
    obtain ⟨dv', dm', ps', pv', ho', hX, hY⟩ := ih (i + 1) (upd dv s (pv i)) (upd dm s (vp_nar .boolean 0)) (by omega)
    refine ⟨dv', dm', ps', pv', ho', fun post hp => ?_, fun post hp => ?_⟩
    · exact br_f (nI_ge (by omega) (by omega)) ⟨i1, nm_r es' ⟨i1, i2, nm_r (by rw [cs, ci]) ⟨i2, nm_r (by rw [cs]) (nm_r (nI_1 i) (hX post hp))⟩⟩⟩
    · exact br_f (nI_ge (by omega) (by omega)) ⟨i1, i1, i3, nm_r (by rw [es', cs, ci]) ⟨i1, i3, nm_r (by rw [es', cs]) (nm_r (nI_1 i) (hY post hp))⟩⟩
theorem il_mk {c m : Nat} (hc : c ≤ 20) (hm : m ≤ c) (d : Int32) (dv dm ps pv : Nat → Int32) (ho : il_ok ps c) : ∃ dv' dm' ps' pv' : Nat → Int32, il_ok ps' (c - m) ∧ (∀ post : SX → Prop, post (nI (c - m), d + nI m, dv', dm', ps', pv') → wpX_makeDurable post (nI c, d, dv, dm, ps, pv) (nI m)) ∧ (∀ post : Int32 → SY → Prop, post (nI m) (nI (c - m), d + nI m, ps', pv', dv', dm') → ∃ n8 : Nat, wY_flushSome_8 post (nI m) (nI c) d n8 0 ps pv dv dm) := by
  obtain ⟨dv', dm', ps', pv', ho', hX, hY⟩ := il_make hc hm d ps pv ho m 0 dv dm (by omega)
  exact ⟨dv', dm', ps', pv', ho', fun post hp => ⟨m + 1, hX post hp⟩, fun post hp => ⟨m + 1, hY post hp⟩⟩
