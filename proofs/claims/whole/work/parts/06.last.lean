theorem i_vc_run {k : Nat} {u : SX} {v : SY} (I : i_Rel k u v) (hk : k + 5 ≤ 2564) (v1 : Int32) : wpX_run (fun r u' => wpY_run (fun r' v' => r' = r ∧ i_Rel (k + 5) u' v') v v1) u v1 := by
  obtain ⟨T, wa, wb, wc, co, cr, ci, rg, me, sz, pc, st, rc, dg, rfl, rfl, J⟩ := I
  obtain ⟨r1, rg1, me1, pc1, st1, rc1, dg1, ix, iy⟩ := sc_run (wa := wa) (wb := wb) (wc := wc) (cr := cr) (ci := ci) J v1 T 0 (by omega) 0 rg me pc st rc dg
  unfold wpX_run wpY_run
  dsimp only
  exact ⟨T + 1, ix _ ⟨T + 1, iy _ ⟨rfl, sc_rel J⟩⟩⟩
theorem i_vc_runOne {k : Nat} {u : SX} {v : SY} (I : i_Rel k u v) (hk : k + 5 ≤ 2564) (v1 : Int32) (v2 : Int32) : wpX_runOne (fun r u' => wpY_runOne (fun r' v' => r' = r ∧ i_Rel (k + 5) u' v') v v1 v2) u v1 v2 := by
  obtain ⟨T, wa, wb, wc, co, cr, ci, rg, me, sz, pc, st, rc, dg, rfl, rfl, J⟩ := I
  unfold wpX_runOne wpY_runOne
  dsimp only
  rcases sc_th J v1 with hb | ⟨t, ht, h4, rfl⟩
  · exact sc_xF hb (br_t rfl (sc_yF hb (br_t rfl ⟨rfl, sc_rel J⟩)))
  · obtain ⟨r1, rg1, me1, pc1, st1, rc1, dg1, ix, iy⟩ := sc_steps (wa := wa) (wb := wb) (wc := wc) (cr := cr) (ci := ci) J ht v2 rg me pc st rc dg
    exact sc_xT ht J.1 (br_f sc_10 (ix _ (sc_yT ht J.1 (br_f sc_10 (iy _ ⟨rfl, sc_rel J⟩)))))
