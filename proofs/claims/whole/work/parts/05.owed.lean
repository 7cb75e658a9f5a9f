theorem il_rel {k c : Nat} (hc : c ≤ 20) (d : Int32) (dv dm ps pv : Nat → Int32) (ho : il_ok ps c) : i_Rel k (nI c, d, dv, dm, ps, pv) (nI c, d, ps, pv, dv, dm) := ⟨c, d, dv, dm, ps, pv, hc, ho, rfl, rfl⟩
theorem i_vc_write {k : Nat} {u : SX} {v : SY} (I : i_Rel k u v) (hk : k + 3 ≤ 1536) (v1 : Int32) (v2 : Int32) : wpX_write (fun r u' => wpY_write (fun r' v' => r' = r ∧ i_Rel (k + 3) u' v') v v1 v2) u v1 v2 := by
  obtain ⟨c, d, dv, dm, ps, pv, hc, ho, rfl, rfl⟩ := I
  unfold wpX_write wpY_write
  dsimp only
  rcases il_sec v1 with ⟨s, hs, rfl⟩ | ⟨hX, hY⟩
  · refine il_xsec hs _ (br_f il_10 ?_)
    by_cases h : c < 20
    · have i1 : vp_in (nI c) 20 := il_in20 h
      have cc : (nI c).toNatClampNeg = c := nI_clamp (by omega)
      have ne : ¬ nI c = 20 := fun e => nI_ge (b := 20) h (by decide) (by rw [e]; decide)
      have hR : il_ok (upd ps c (nI s)) (c + 1) := by
        intro j hj
        by_cases e : j = c
        · rw [e, pk_us]; exact ⟨s, hs, rfl⟩
        · rw [pk_un e]; exact ho j (by omega)
      refine br_t (nI_lt (b := 20) h (by decide)) ⟨i1, nm_r (by rw [cc]) ⟨i1, nm_r (by rw [cc]) (nm_r (nI_1 c) ?_)⟩⟩
      refine il_ysec hs _ _ (br_f il_10 (br_f ne ⟨i1, nm_r (by rw [cc]) ⟨i1, nm_r (by rw [cc]) (nm_r (nI_1 c) ?_)⟩⟩))
      exact ⟨rfl, il_rel (by omega) d dv dm _ _ hR⟩
    · have e : c = 20 := by omega
      subst e
      refine br_f (nI_nlt (a := 20) (b := 20) (by omega) (by decide)) ?_
      exact il_ysec hs _ _ (br_f il_10 (br_t rfl ⟨rfl, il_rel hc d dv dm ps pv ho⟩))
  · exact hX _ (br_t rfl (hY _ _ (br_t rfl ⟨rfl, il_rel hc d dv dm ps pv ho⟩)))
theorem i_vc_flush {k : Nat} {u : SX} {v : SY} (I : i_Rel k u v) (hk : k + 3 ≤ 1536) : wpX_flush (fun r u' => wpY_flush (fun r' v' => r' = r ∧ i_Rel (k + 3) u' v') v) u := by
  obtain ⟨c, d, dv, dm, ps, pv, hc, ho, rfl, rfl⟩ := I
  unfold wpX_flush wpY_flush
  dsimp only
  obtain ⟨dv', dm', ps', pv', ho', hX, hY⟩ := il_mk hc (Nat.le_refl c) d dv dm ps pv ho
  refine hX _ ?_
  unfold wpY_flushSome
  dsimp only
  refine il_adj hc d dv dm ps pv _ ?_
  exact hY _ ⟨rfl, il_rel (by omega) _ dv' dm' ps' pv' ho'⟩
theorem i_vc_flushSome {k : Nat} {u : SX} {v : SY} (I : i_Rel k u v) (hk : k + 3 ≤ 1536) (v1 : Int32) : wpX_flushSome (fun r u' => wpY_flushSome (fun r' v' => r' = r ∧ i_Rel (k + 3) u' v') v v1) u v1 := by
  obtain ⟨c, d, dv, dm, ps, pv, hc, ho, rfl, rfl⟩ := I
  unfold wpX_flushSome wpY_flushSome
  dsimp only
  obtain ⟨m, hm, lX, lY⟩ := il_lim hc d dv dm ps pv v1
  obtain ⟨dv', dm', ps', pv', ho', hX, hY⟩ := il_mk hc hm d dv dm ps pv ho
  refine lX _ ?_
  refine hX _ ?_
  refine lY _ ?_
  exact hY _ ⟨rfl, il_rel (by omega) _ dv' dm' ps' pv' ho'⟩
theorem i_vc_crash {k : Nat} {u : SX} {v : SY} (I : i_Rel k u v) (hk : k + 3 ≤ 1536) (v1 : Int32) : wpX_crash (fun r u' => wpY_crash (fun r' v' => r' = r ∧ i_Rel (k + 3) u' v') v v1) u v1 := by
  obtain ⟨c, d, dv, dm, ps, pv, hc, ho, rfl, rfl⟩ := I
  unfold wpX_crash wpY_crash
  dsimp only
  obtain ⟨m, hm, lX, lY⟩ := il_lim hc d dv dm ps pv v1
  obtain ⟨dv', dm', ps', pv', ho', hX, hY⟩ := il_mk hc hm d dv dm ps pv ho
  refine lX _ ?_
  refine hX _ ?_
  unfold wpY_flushSome
  dsimp only
  refine lY _ ?_
  exact hY _ ⟨rfl, il_rel (c := 0) (by omega) _ dv' dm' ps' pv' (il_ok_le ho' (by omega))⟩
theorem i_vc_damage {k : Nat} {u : SX} {v : SY} (I : i_Rel k u v) (hk : k + 3 ≤ 1536) (v1 : Int32) (v2 : Int32) : wpX_damage (fun r u' => wpY_damage (fun r' v' => r' = r ∧ i_Rel (k + 3) u' v') v v1 v2) u v1 v2 := by
  obtain ⟨c, d, dv, dm, ps, pv, hc, ho, rfl, rfl⟩ := I
  unfold wpX_damage wpY_damage
  dsimp only
  rcases il_sec v1 with ⟨s, hs, rfl⟩ | ⟨hX, hY⟩
  · have i1 : vp_in (nI s) 12 := il_in hs
    by_cases hb : v2 = 0
    · refine il_xsec hs _ (br_f il_10 (br_t hb ⟨i1, br_c (fun z => ?_) (fun z => ?_)⟩))
      · exact il_ysec hs _ _ (br_f il_10 (br_t hb ⟨i1, br_t z ⟨rfl, il_rel hc d dv dm ps pv ho⟩⟩))
      · exact il_ysec hs _ _ (br_f il_10 (br_t hb ⟨i1, br_f z ⟨rfl, il_rel hc d dv dm ps pv ho⟩⟩))
    · refine il_xsec hs _ (br_f il_10 (br_f hb ⟨i1, nm_e ⟨i1, br_c (fun z => ?_) (fun z => ?_)⟩⟩))
      · exact il_ysec hs _ _ (br_f il_10 (br_f hb ⟨i1, nm_e ⟨i1, br_t z ⟨rfl, il_rel hc d dv _ ps pv ho⟩⟩⟩))
      · exact il_ysec hs _ _ (br_f il_10 (br_f hb ⟨i1, nm_e ⟨i1, br_f z ⟨rfl, il_rel hc d dv _ ps pv ho⟩⟩⟩))
  · exact hX _ (br_t rfl (hY _ _ (br_t rfl ⟨rfl, il_rel hc d dv dm ps pv ho⟩)))
theorem i_vc_scrub {k : Nat} {u : SX} {v : SY} (I : i_Rel k u v) (hk : k + 3 ≤ 1536) : wpX_scrub (fun r => wpY_scrub (fun r' => r' = r ∧ i_Rel (k + 3) u v) v) u := by
  obtain ⟨c, d, dv, dm, ps, pv, hc, ho, rfl, rfl⟩ := I
  obtain ⟨r, hX, hY⟩ := il_scrub (nI c) d dv dm ps pv 12 0 0 (by omega)
  exact ⟨13, hX _ ⟨13, hY _ ⟨rfl, il_rel hc d dv dm ps pv ho⟩⟩⟩
theorem i_vc_read {k : Nat} {u : SX} {v : SY} (I : i_Rel k u v) (hk : k + 3 ≤ 1536) (v1 : Int32) : wpX_read (fun r => wpY_read (fun r' => r' = r ∧ i_Rel (k + 3) u v) v v1) u v1 := by
  obtain ⟨c, d, dv, dm, ps, pv, hc, ho, rfl, rfl⟩ := I
  unfold wpX_read
  dsimp only
  have R : i_Rel (k + 3) (nI c, d, dv, dm, ps, pv) (nI c, d, ps, pv, dv, dm) := il_rel hc d dv dm ps pv ho
  rcases il_sec v1 with ⟨s, hs, rfl⟩ | ⟨hX, hY⟩
  · have cs : (nI s).toNatClampNeg = s := nI_clamp (by omega)
    refine il_xsec hs _ (br_f il_10 (il_xn hc _ (nI s) d dv dm ps pv ?_))
    rcases il_nw_c ps (nI s) c with e | ⟨j, hj, e⟩
    · by_cases hd : dm s = 0
      · have hY := il_yrd2 hc hs d dv dm ps pv e hd (fun r' => r' = dv s ∧ i_Rel (k + 3) (nI c, d, dv, dm, ps, pv) (nI c, d, ps, pv, dv, dm)) ⟨rfl, R⟩
        rw [e]
        exact br_t rfl ⟨il_in hs, br_t (by rw [cs]; exact hd) ⟨il_in hs, by rw [cs]; exact hY⟩⟩
      · have hY := il_yrd3 hc hs d dv dm ps pv e hd (fun r' => r' = 0 ∧ i_Rel (k + 3) (nI c, d, dv, dm, ps, pv) (nI c, d, ps, pv, dv, dm)) ⟨rfl, R⟩
        rw [e]
        exact br_t rfl ⟨il_in hs, br_f (by rw [cs]; exact hd) hY⟩
    · have cj : (nI j).toNatClampNeg = j := nI_clamp (by omega)
      have hY := il_yrd1 hc hs d dv dm ps pv hj e (fun r' => r' = pv j ∧ i_Rel (k + 3) (nI c, d, dv, dm, ps, pv) (nI c, d, ps, pv, dv, dm)) ⟨rfl, R⟩
      rw [e]
      exact br_f (il_jm1 (by omega)) ⟨il_in20 (by omega), by rw [cj]; exact hY⟩
  · exact hX _ (br_t rfl (il_yrd0 hY _ _ ⟨rfl, R⟩))
theorem i_vc_readable {k : Nat} {u : SX} {v : SY} (I : i_Rel k u v) (hk : k + 3 ≤ 1536) (v1 : Int32) : wpX_readable (fun r => wpY_readable (fun r' => r' = r ∧ i_Rel (k + 3) u v) v v1) u v1 := by
  obtain ⟨c, d, dv, dm, ps, pv, hc, ho, rfl, rfl⟩ := I
  unfold wpX_readable
  dsimp only
  have R : i_Rel (k + 3) (nI c, d, dv, dm, ps, pv) (nI c, d, ps, pv, dv, dm) := il_rel hc d dv dm ps pv ho
  rcases il_sec v1 with ⟨s, hs, rfl⟩ | ⟨hX, hY⟩
  · have cs : (nI s).toNatClampNeg = s := nI_clamp (by omega)
    refine il_xsec hs _ (br_f il_10 ⟨il_in hs, ?_⟩)
    by_cases hd : dm s = 0
    · refine br_t (by rw [cs]; exact hd) ?_
      rcases il_nw_c ps (nI s) c with e | ⟨j, hj, e⟩
      · exact il_yra2 hc hs d dv dm ps pv e hd _ ⟨rfl, R⟩
      · exact il_yra1 hc hs d dv dm ps pv hj e _ ⟨rfl, R⟩
    · refine br_f (by rw [cs]; exact hd) (il_xn hc _ (nI s) d dv dm ps pv ?_)
      rcases il_nw_c ps (nI s) c with e | ⟨j, hj, e⟩
      · have hY := il_yra3 hc hs d dv dm ps pv e hd (fun r' => r' = 0 ∧ i_Rel (k + 3) (nI c, d, dv, dm, ps, pv) (nI c, d, ps, pv, dv, dm)) ⟨rfl, R⟩
        rw [e]
        exact br_t rfl hY
      · have hY := il_yra1 hc hs d dv dm ps pv hj e (fun r' => r' = 1 ∧ i_Rel (k + 3) (nI c, d, dv, dm, ps, pv) (nI c, d, ps, pv, dv, dm)) ⟨rfl, R⟩
        rw [e]
        exact br_f (il_jm1 (by omega)) hY
  · exact hX _ (br_t rfl (il_yra0 hY _ _ ⟨rfl, R⟩))
theorem i_vc_pending {k : Nat} {u : SX} {v : SY} (I : i_Rel k u v) (hk : k + 3 ≤ 1536) : wpX_pending (fun r => wpY_pending (fun r' => r' = r ∧ i_Rel (k + 3) u v) v) u := by
  obtain ⟨c, d, dv, dm, ps, pv, hc, ho, rfl, rfl⟩ := I
  exact ⟨rfl, il_rel hc d dv dm ps pv ho⟩
theorem i_vc_atRisk {k : Nat} {u : SX} {v : SY} (I : i_Rel k u v) (hk : k + 3 ≤ 1536) : wpX_atRisk (fun r => wpY_atRisk (fun r' => r' = r ∧ i_Rel (k + 3) u v) v) u := by
  obtain ⟨c, d, dv, dm, ps, pv, hc, ho, rfl, rfl⟩ := I
  obtain ⟨r, hX, hY⟩ := il_risk hc d dv dm ps pv 12 0 0 (by omega)
  exact ⟨13, hX _ ⟨13, hY _ ⟨rfl, il_rel hc d dv dm ps pv ho⟩⟩⟩
theorem i_vc_durable {k : Nat} {u : SX} {v : SY} (I : i_Rel k u v) (hk : k + 3 ≤ 1536) : wpX_durable (fun r => wpY_durable (fun r' => r' = r ∧ i_Rel (k + 3) u v) v) u := by
  obtain ⟨c, d, dv, dm, ps, pv, hc, ho, rfl, rfl⟩ := I
  exact ⟨rfl, il_rel hc d dv dm ps pv ho⟩
