theorem il_scrub (c d : Int32) (dv dm ps pv : Nat → Int32) : ∀ (n j : Nat) (x : Int32), j + n = 12 → ∃ r : Int32, (∀ post : Int32 → Prop, post r → wX_scrub_4 post c d dv dm ps pv (n + 1) x (nI j)) ∧ (∀ post : Int32 → Prop, post r → wY_scrub_4 post c d ps pv dv dm (n + 1) x (nI j)) := by
  intro n
  induction n with
  | zero =>
    intro j x hj
    have h : (12 : Int32) ≤ nI j := nI_le (a := 12) (by omega) (by omega)
    exact ⟨x, fun _ hp => br_t h hp, fun _ hp => br_t h hp⟩
  | succ n ih =>
    intro j x hj
    have h : ¬ (12 : Int32) ≤ nI j := nI_ge (b := 12) (by omega) (by decide)
    have hi : vp_in (nI j) 12 := il_in (by omega)
    by_cases z : dm (nI j).toNatClampNeg = 0
    · obtain ⟨r, hX, hY⟩ := ih (j + 1) x (by omega)
      exact ⟨r, fun post hp => br_f h ⟨hi, br_t z (nm_r (nI_1 j) (hX post hp))⟩, fun post hp => br_f h ⟨hi, br_t z (nm_r (nI_1 j) (hY post hp))⟩⟩
    · obtain ⟨r, hX, hY⟩ := ih (j + 1) (x + 1) (by omega)
      exact ⟨r, fun post hp => br_f h ⟨hi, br_f z (nm_e (nm_r (nI_1 j) (hX post hp)))⟩, fun post hp => br_f h ⟨hi, br_f z (nm_e (nm_r (nI_1 j) (hY post hp)))⟩⟩
/-- the component's isAtRisk: by the newest, the mark of damage, the two values -/
theorem il_xr1 {c s : Nat} (hc : c ≤ 20) (d : Int32) (dv dm ps pv : Nat → Int32) (e : il_nw ps (nI s) c = -1) (post : Int32 → Prop) (hp : post 0) : wpX_isAtRisk post (nI c, d, dv, dm, ps, pv) (nI s) := by
  unfold wpX_isAtRisk
  dsimp only
  refine il_xn hc _ (nI s) d dv dm ps pv ?_
  rw [e]
  exact br_t rfl hp
theorem il_xr2 {c s j : Nat} (hc : c ≤ 20) (hs : s < 12) (d : Int32) (dv dm ps pv : Nat → Int32) (hj : j < c) (e : il_nw ps (nI s) c = nI j) (hd : ¬ dm s = 0) (post : Int32 → Prop) (hp : post 1) : wpX_isAtRisk post (nI c, d, dv, dm, ps, pv) (nI s) := by
  unfold wpX_isAtRisk
  dsimp only
  refine il_xn hc _ (nI s) d dv dm ps pv ?_
  rw [e]
  exact br_f (il_jm1 (by omega)) ⟨il_in hs, br_f (by rw [nI_clamp (by omega)]; exact hd) hp⟩
theorem il_xr3 {c s j : Nat} (hc : c ≤ 20) (hs : s < 12) (d : Int32) (dv dm ps pv : Nat → Int32) (hj : j < c) (e : il_nw ps (nI s) c = nI j) (hd : dm s = 0) (he : pv j = dv s) (post : Int32 → Prop) (hp : post 0) : wpX_isAtRisk post (nI c, d, dv, dm, ps, pv) (nI s) := by
  unfold wpX_isAtRisk
  dsimp only
  refine il_xn hc _ (nI s) d dv dm ps pv ?_
  rw [e]
  exact br_f (il_jm1 (by omega)) ⟨il_in hs, br_t (by rw [nI_clamp (by omega)]; exact hd) ⟨il_in20 (by omega), il_in hs, br_t (by rw [nI_clamp (n := j) (by omega), nI_clamp (n := s) (by omega)]; exact he) hp⟩⟩
theorem il_xr4 {c s j : Nat} (hc : c ≤ 20) (hs : s < 12) (d : Int32) (dv dm ps pv : Nat → Int32) (hj : j < c) (e : il_nw ps (nI s) c = nI j) (hd : dm s = 0) (he : ¬ pv j = dv s) (post : Int32 → Prop) (hp : post 1) : wpX_isAtRisk post (nI c, d, dv, dm, ps, pv) (nI s) := by
  unfold wpX_isAtRisk
  dsimp only
  refine il_xn hc _ (nI s) d dv dm ps pv ?_
  rw [e]
  exact br_f (il_jm1 (by omega)) ⟨il_in hs, br_t (by rw [nI_clamp (by omega)]; exact hd) ⟨il_in20 (by omega), il_in hs, br_f (by rw [nI_clamp (n := j) (by omega), nI_clamp (n := s) (by omega)]; exact he) hp⟩⟩
theorem il_risk {c : Nat} (hc : c ≤ 20) (d : Int32) (dv dm ps pv : Nat → Int32) : ∀ (n s : Nat) (x : Int32), s + n = 12 → ∃ r : Int32, (∀ post : Int32 → Prop, post r → wX_atRisk_4 post (nI c) d dv dm ps pv (n + 1) x (nI s)) ∧ (∀ post : Int32 → Prop, post r → wY_atRisk_4 post (nI c) d ps pv dv dm (n + 1) x (nI s)) := by
  intro n
  induction n with
  | zero =>
    intro s x hj
    have h : (12 : Int32) ≤ nI s := nI_le (a := 12) (by omega) (by omega)
    exact ⟨x, fun _ hp => br_t h hp, fun _ hp => br_t h hp⟩
  | succ n ih =>
    intro s x hj
    have hs : s < 12 := by omega
    have h : ¬ (12 : Int32) ≤ nI s := nI_ge (b := 12) hs (by decide)
    have cs : (nI s).toNatClampNeg = s := nI_clamp (by omega)
    obtain ⟨r0, hX0, hY0⟩ := ih (s + 1) x (by omega)
    obtain ⟨r1, hX1, hY1⟩ := ih (s + 1) (x + 1) (by omega)
    rcases il_nw_c ps (nI s) c with e | ⟨j, hjc, e⟩
    · refine ⟨r0, fun post hp => br_f h (il_xr1 hc d dv dm ps pv e _ (br_t rfl (nm_r (nI_1 s) (hX0 post hp)))), fun post hp => br_f h (il_yn hc _ (nI s) d dv dm ps pv ?_)⟩
      rw [e]
      exact br_t il_m1l (nm_r (nI_1 s) (hY0 post hp))
    · have nj : ¬ nI j < 0 := nI_pos (by omega)
      by_cases hd : dm s = 0
      · have hd' : dm (nI s).toNatClampNeg = 0 := by rw [cs]; exact hd
        by_cases he : pv j = dv s
        · refine ⟨r0, fun post hp => br_f h (il_xr3 hc hs d dv dm ps pv hjc e hd he _ (br_t rfl (nm_r (nI_1 s) (hX0 post hp)))), fun post hp => br_f h (il_yn hc _ (nI s) d dv dm ps pv ?_)⟩
          rw [e]
          exact br_f nj ⟨il_in hs, br_t hd' (il_yrd1 hc hs d dv dm ps pv hjc e _ ⟨il_in hs, br_t (by rw [cs]; exact he) (nm_r (nI_1 s) (hY0 post hp))⟩)⟩
        · refine ⟨r1, fun post hp => br_f h (il_xr4 hc hs d dv dm ps pv hjc e hd he _ (br_f il_10 (nm_e (nm_r (nI_1 s) (hX1 post hp))))), fun post hp => br_f h (il_yn hc _ (nI s) d dv dm ps pv ?_)⟩
          rw [e]
          exact br_f nj ⟨il_in hs, br_t hd' (il_yrd1 hc hs d dv dm ps pv hjc e _ ⟨il_in hs, br_f (by rw [cs]; exact he) (nm_e (nm_r (nI_1 s) (hY1 post hp)))⟩)⟩
      · have hd' : ¬ dm (nI s).toNatClampNeg = 0 := by rw [cs]; exact hd
        refine ⟨r1, fun post hp => br_f h (il_xr2 hc hs d dv dm ps pv hjc e hd _ (br_f il_10 (nm_e (nm_r (nI_1 s) (hX1 post hp))))), fun post hp => br_f h (il_yn hc _ (nI s) d dv dm ps pv ?_)⟩
        rw [e]
        exact br_f nj ⟨il_in hs, br_f hd' (nm_e (nm_r (nI_1 s) (hY1 post hp)))⟩
