def i_Rel (k : Nat) (u : SX) (v : SY) : Prop := ∃ c a l f t r g n m : Nat → Int32, u = (c, a, l, f, t, r) ∧ v = (c, g, n, m) ∧ sp_C c ∧ sp_M a g
theorem ri_mk {k : Nat} {c a l f t r g n m : Nat → Int32} (hC : sp_C c) (hM : sp_M a g) : i_Rel k (c, a, l, f, t, r) (c, g, n, m) := ⟨c, a, l, f, t, r, g, n, m, rfl, rfl, hC, hM⟩
theorem i_up {k : Nat} {u : SX} {v : SY} (h : i_Rel k u v) : i_Rel (k + 5) u v := h
theorem i_vc0 : wpX_init (fun u => wpY_init (fun v => i_Rel 0 u v)) := by
  refine ri_mk (k := 0) (fun s _ => ⟨0, by omega, rfl⟩) (fun p t _ _ => ?_)
  show (0 : Int32) = sp_v (bt 0 t)
  rw [b_0]
  rfl
theorem i_vc_colour {k : Nat} {u : SX} {v : SY} (I : i_Rel k u v) (hk : k + 5 ≤ 2560) (v1 : Int32) (v2 : Int32) : wpX_colour (fun r u' => wpY_colour (fun r' v' => r' = r ∧ i_Rel (k + 5) u' v') v v1 v2) u v1 v2 := by
  obtain ⟨c, a, l, f, t, r, g, n, m, rfl, rfl, hC, hM⟩ := I
  unfold wpX_colour wpY_colour
  dsimp only
  rcases st_cases v1 with ⟨s, hs, rfl⟩ | ⟨hx, hy⟩
  · refine st_x hs (br_f (by decide) ?_)
    by_cases h0 : v2 < 0
    · exact br_t h0 (st_y hs (br_f (by decide) (br_t h0 ⟨rfl, ri_mk hC hM⟩)))
    · obtain ⟨j, hj, rfl⟩ := nI_of h0
      rw [nI_clamp (show s < 2 ^ 31 by omega)]
      refine br_f h0 (pk_lt j 4 (fun z => ⟨vp_in_nI hs (by omega), nm_e ?_⟩) (fun z => ?_))
      · exact st_y hs (br_f (by decide) (br_f h0 (pk_le j 3 (fun _ => ⟨vp_in_nI hs (by omega), nm_e ⟨rfl, ri_mk (sp_C_set hC z) hM⟩⟩) (fun y => absurd y (by omega)))))
      · exact st_y hs (br_f (by decide) (br_f h0 (pk_le j 3 (fun y => absurd y (by omega)) (fun _ => ⟨rfl, ri_mk hC hM⟩))))
  · exact hx _ (br_t rfl (hy _ c g n m (br_t rfl ⟨rfl, ri_mk hC hM⟩)))
theorem i_vc_step {k : Nat} {u : SX} {v : SY} (I : i_Rel k u v) (hk : k + 5 ≤ 2560) (v1 : Int32) (v2 : Int32) (v3 : Int32) (v4 : Int32) : wpX_step (fun r u' => wpY_step (fun r' v' => r' = r ∧ i_Rel (k + 5) u' v') v v1 v2 v3 (lw_bz v4)) u v1 v2 v3 (lw_bz v4) := by
  obtain ⟨c, a, l, f, t, r, g, n, m, rfl, rfl, hC, hM⟩ := I
  unfold wpX_step wpY_step
  dsimp only
  rcases so_cases v1 with ⟨o, ho, rfl⟩ | ⟨hx, hy⟩
  · refine so_x ho (br_f (by decide) ?_)
    rcases st_cases v2 with ⟨s, hs, rfl⟩ | ⟨hx, hy⟩
    · refine st_x hs (br_f (by decide) ?_)
      rcases st_cases v3 with ⟨u, hu, rfl⟩ | ⟨hx, hy⟩
      · refine st_x hu (br_f (by decide) (nm_r (sp_ix o s) ?_))
        rw [sp_ix2 o s u, nI_clamp (show o * 10 + s < 2 ^ 31 by omega), nI_clamp (show (o * 10 + s) * 10 + u < 2 ^ 31 by omega)]
        rcases lw_bz_01 v4 with e | e
        · rw [e, sp_nar0]
          exact br_t rfl ⟨vp_in_nI (by omega) (by omega), vp_in_nI (by omega) (by omega), nm_e (so_y ho (st_y hs (br_f (by decide) (st_y hu (br_f (by decide) ⟨vp_in_nI (by omega) (by omega), nm_e ⟨rfl, ri_mk hC (sp_M_clr hM hu)⟩⟩)))))⟩
        · rw [e, sp_nar1]
          exact br_f (by decide) ⟨vp_in_nI (by omega) (by omega), vp_in_nI (by omega) (by omega), nm_e (so_y ho (st_y hs (br_f (by decide) (st_y hu (br_f (by decide) ⟨vp_in_nI (by omega) (by omega), nm_e ⟨rfl, ri_mk hC (sp_M_set hM hu)⟩⟩)))))⟩
      · exact hx _ (br_t rfl (so_y ho (st_y hs (br_f (by decide) (hy _ c g n m (br_t rfl ⟨rfl, ri_mk hC hM⟩))))))
    · exact hx _ (br_t rfl (so_y ho (hy _ c g n m (br_t rfl ⟨rfl, ri_mk hC hM⟩))))
  · exact hx _ (br_t rfl (hy _ _ ⟨rfl, ri_mk hC hM⟩))
theorem i_vc_alike {k : Nat} {u : SX} {v : SY} (I : i_Rel k u v) (hk : k + 5 ≤ 2560) (v1 : Int32) (v2 : Int32) : wpX_alike (fun r u' => wpY_alike (fun r' v' => r' = r ∧ i_Rel (k + 5) u' v') v v1 v2) u v1 v2 := by
  obtain ⟨c, a, l, f, t, r, g, n, m, rfl, rfl, hC, hM⟩ := I
  obtain ⟨K, hK, hst, hm⟩ := sp_K c g
  rcases st_cases v1 with ⟨s, hs, rfl⟩ | ⟨hx, hy⟩
  · rcases st_cases v2 with ⟨u, hu, rfl⟩ | ⟨hx, hy⟩
    · exact xm_alike hK hst hM hs hu (fun l f t r => ym_alike hK hst hm hs hu (fun n m => ⟨rfl, ri_mk hC hM⟩))
    · unfold wpX_alike wpY_alike
      dsimp only
      exact st_x hs (br_f (by decide) (hx _ (br_t rfl (st_y hs (br_f (by decide) (hy _ c g n m (br_t rfl ⟨rfl, ri_mk hC hM⟩)))))))
  · unfold wpX_alike wpY_alike
    dsimp only
    exact hx _ (br_t rfl (hy _ c g n m (br_t rfl ⟨rfl, ri_mk hC hM⟩)))
theorem i_vc_classes {k : Nat} {u : SX} {v : SY} (I : i_Rel k u v) (hk : k + 5 ≤ 2560) : wpX_classes (fun r u' => wpY_classes (fun r' v' => r' = r ∧ i_Rel (k + 5) u' v') v) u := by
  obtain ⟨c, a, l, f, t, r, g, n, m, rfl, rfl, hC, hM⟩ := I
  obtain ⟨K, hK, hst, hm⟩ := sp_K c g
  exact xm_classes hK hst hM (fun l f t r => ym_classes hK hst hm (fun n m => ⟨rfl, ri_mk hC hM⟩))
theorem i_vc_leader {k : Nat} {u : SX} {v : SY} (I : i_Rel k u v) (hk : k + 5 ≤ 2560) (v1 : Int32) : wpX_leader (fun r u' => wpY_leader (fun r' v' => r' = r ∧ i_Rel (k + 5) u' v') v v1) u v1 := by
  obtain ⟨c, a, l, f, t, r, g, n, m, rfl, rfl, hC, hM⟩ := I
  obtain ⟨K, hK, hst, hm⟩ := sp_K c g
  rcases st_cases v1 with ⟨s, hs, rfl⟩ | ⟨hx, hy⟩
  · exact xm_leader hK hst hM hs (fun l f t r => ym_leader hK hst hm hs (fun n m => ⟨rfl, ri_mk hC hM⟩))
  · unfold wpX_leader wpY_leader
    dsimp only
    exact hx _ (br_t rfl (hy _ c g n m (br_t rfl ⟨rfl, ri_mk hC hM⟩)))
theorem i_vc_members {k : Nat} {u : SX} {v : SY} (I : i_Rel k u v) (hk : k + 5 ≤ 2560) (v1 : Int32) : wpX_members (fun r u' => wpY_members (fun r' v' => r' = r ∧ i_Rel (k + 5) u' v') v v1) u v1 := by
  obtain ⟨c, a, l, f, t, r, g, n, m, rfl, rfl, hC, hM⟩ := I
  obtain ⟨K, hK, hst, hm⟩ := sp_K c g
  rcases st_cases v1 with ⟨s, hs, rfl⟩ | ⟨hx, hy⟩
  · exact xm_members hK hst hM hs (fun l f t r => ym_members hK hst hm hs (fun n m => ⟨rfl, ri_mk hC hM⟩))
  · unfold wpX_members wpY_members
    dsimp only
    exact hx _ (br_t rfl (hy _ c g n m (br_t rfl ⟨rfl, ri_mk hC hM⟩)))
theorem i_vc_told {k : Nat} {u : SX} {v : SY} (I : i_Rel k u v) (hk : k + 5 ≤ 2560) (v1 : Int32) (v2 : Int32) : wpX_told (fun r u' => wpY_told (fun r' v' => r' = r ∧ i_Rel (k + 5) u' v') v v1 v2) u v1 v2 := by
  obtain ⟨c, a, l, f, t, r, g, n, m, rfl, rfl, hC, hM⟩ := I
  obtain ⟨K, hK, hst, hm⟩ := sp_K c g
  rcases st_cases v1 with ⟨s, hs, rfl⟩ | ⟨hx, hy⟩
  · rcases st_cases v2 with ⟨u, hu, rfl⟩ | ⟨hx, hy⟩
    · exact xm_told hK hst hM hs hu (fun l f t r => ym_told hK hst hm hs hu (fun n m => ⟨rfl, ri_mk hC hM⟩))
    · unfold wpX_told wpY_told
      dsimp only
      exact st_x hs (br_f (by decide) (hx _ (br_t rfl (st_y hs (br_f (by decide) (hy _ c g n m (br_t rfl ⟨rfl, ri_mk hC hM⟩)))))))
  · unfold wpX_told wpY_told
    dsimp only
    exact hx _ (br_t rfl (hy _ c g n m (br_t rfl ⟨rfl, ri_mk hC hM⟩)))
theorem i_vc_leads {k : Nat} {u : SX} {v : SY} (I : i_Rel k u v) (hk : k + 5 ≤ 2560) (v1 : Int32) (v2 : Int32) : wpX_leads (fun r u' => wpY_leads (fun r' v' => r' = r ∧ i_Rel (k + 5) u' v') v v1 v2) u v1 v2 := by
  obtain ⟨c, a, l, f, t, r, g, n, m, rfl, rfl, hC, hM⟩ := I
  obtain ⟨K, hK, hst, hm⟩ := sp_K c g
  rcases so_cases v1 with ⟨o, ho, rfl⟩ | ⟨hx, hy⟩
  · rcases st_cases v2 with ⟨s, hs, rfl⟩ | ⟨hx, hy⟩
    · exact xm_leads hK hst hM ho hs (fun l f t r => ym_leads hK hst hm ho hs (fun n m => ⟨rfl, ri_mk hC hM⟩))
    · unfold wpX_leads wpY_leads
      dsimp only
      exact so_x ho (br_f (by decide) (hx _ (br_t rfl (so_y ho (hy _ c g n m (br_t rfl ⟨rfl, ri_mk hC hM⟩))))))
  · unfold wpX_leads wpY_leads
    dsimp only
    exact hx _ (br_t rfl (hy _ _ ⟨rfl, ri_mk hC hM⟩))
theorem i_vc_colours {k : Nat} {u : SX} {v : SY} (I : i_Rel k u v) (hk : k + 5 ≤ 2560) : wpX_colours (fun r => wpY_colours (fun r' => r' = r ∧ i_Rel (k + 5) u v) v) u := by
  obtain ⟨c, a, l, f, t, r, g, n, m, rfl, rfl, hC, hM⟩ := I
  exact xm_colours (ym_colours hC ⟨rfl, ri_mk hC hM⟩)
theorem i_vc_reduce {k : Nat} {u : SX} {v : SY} (I : i_Rel k u v) (hk : k + 5 ≤ 2560) : wpX_reduce (fun r u' => wpY_reduce (fun r' v' => r' = r ∧ i_Rel (k + 5) u' v') v) u := by
  obtain ⟨c, a, l, f, t, r, g, n, m, rfl, rfl, hC, hM⟩ := I
  obtain ⟨K, hK, hst, hm⟩ := sp_K c g
  exact xm_reduce hK hst hM (fun a' l f t r ha => ym_reduce hK hst hm (fun g' n m hg => ⟨rfl, ri_mk hC (fun p t hp ht => by rw [hg p t hp ht, ha p hp])⟩))
theorem i_vc_rounds {k : Nat} {u : SX} {v : SY} (I : i_Rel k u v) (hk : k + 5 ≤ 2560) : wpX_rounds (fun r u' => wpY_rounds (fun r' v' => r' = r ∧ i_Rel (k + 5) u' v') v) u := by
  obtain ⟨c, a, l, f, t, r, g, n, m, rfl, rfl, hC, hM⟩ := I
  obtain ⟨K, hK, hst, hm⟩ := sp_K c g
  exact xm_rounds hK hst hm hM (fun l f t r => ym_rounds hK hst hm (fun n m => ⟨rfl, ri_mk hC hM⟩))
