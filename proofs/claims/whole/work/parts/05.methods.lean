section
variable {T t n j : Nat} {wa wb wc x : Int32} {co cr ci rg me sz pc st rc dg : Nat → Int32} {post : Int32 → Prop}
theorem sc_ix8 (x : Int32) : (x < 0 ∨ (8 : Int32) ≤ x) ∨ ∃ j : Nat, j < 8 ∧ x = nI j := by
  rcases pk_ix x (n := 8) (by decide) with h | h | h
  · exact Or.inl (Or.inl h)
  · exact Or.inl (Or.inr h)
  · exact Or.inr h
theorem sc_ix16 (x : Int32) : (x < 0 ∨ (16 : Int32) ≤ x) ∨ ∃ j : Nat, j < 16 ∧ x = nI j := by
  rcases pk_ix x (n := 16) (by decide) with h | h | h
  · exact Or.inl (Or.inl h)
  · exact Or.inl (Or.inr h)
  · exact Or.inr h
theorem sc_rgT (hj : j < 8) (h : post 1) : wpX_isRegister post (nI j) := br_f (nI_pos (by omega)) (br_f (sc_n8 hj) h)
theorem sc_rgF (hb : x < 0 ∨ (8 : Int32) ≤ x) (h : post 0) : wpX_isRegister post x := br_c (fun _ => h) (fun z => br_t (hb.resolve_left z) h)
theorem sc_clT (hj : j < 16) (h : post 1) : wpX_isCell post (nI j) := br_f (nI_pos (by omega)) (br_f (sc_n16 hj) h)
theorem sc_clF (hb : x < 0 ∨ (16 : Int32) ≤ x) (h : post 0) : wpX_isCell post x := br_c (fun _ => h) (fun z => br_t (hb.resolve_left z) h)
theorem sc_inT (h4 : t < 4) (e : sz (nI t).toNatClampNeg = nI n) (hj : j < n) (hn : n ≤ 24) (h : post 1) : wpX_isInstruction post (nI T, wa, wb, wc, co, cr, ci, rg, me, sz, pc, st, rc, dg) (nI t) (nI j) := by
  refine br_f (nI_pos (by omega)) ⟨sc_i4 h4, br_f ?_ h⟩
  rw [e]
  exact nI_ge hj (by omega)
theorem sc_inF (h4 : t < 4) (e : sz (nI t).toNatClampNeg = nI n) (hb : x < 0 ∨ nI n ≤ x) (h : post 0) : wpX_isInstruction post (nI T, wa, wb, wc, co, cr, ci, rg, me, sz, pc, st, rc, dg) (nI t) x := by
  refine br_c (fun _ => h) (fun z => ⟨sc_i4 h4, br_t ?_ h⟩)
  rw [e]
  exact hb.resolve_left z
end
theorem i_up {k : Nat} {u : SX} {v : SY} (h : i_Rel k u v) : i_Rel (k + 5) u v := h
theorem sc_any {post : Int32 → Prop} {x lo hi : Int32} (h : ∀ r, post r) : wpX_clamp post x lo hi := br_c (fun _ => br_c (fun _ => h _) (fun _ => h _)) (fun _ => h _)
theorem i_vc0 (k0 : Int32) (k1 : Int32) (k2 : Int32) (k3 : Int32) : wpX_init (fun u => wpY_init (fun v => i_Rel 4 u v) k0 k1 k2 k3) k0 k1 k2 k3 := by
  unfold wpX_init wpY_init
  by_cases h1 : 1 ≤ k0
  · by_cases h4 : k0 ≤ 4
    · have h0 : ¬ k0 < 0 := fun z => absurd (Int32.lt_of_le_of_lt h1 z) (by decide)
      obtain ⟨T, hT, rfl⟩ := nI_of2 (M := 4) (n := 4) (by decide) h0 h4
      exact br_t h1 (br_t h4 (sc_any fun _ => sc_any fun _ => sc_any fun _ => br_t h1 (br_t h4 (sc_rel (sc_i0 hT)))))
    · exact br_t h1 (br_f h4 (sc_any fun _ => sc_any fun _ => sc_any fun _ => br_t h1 (br_f h4 (sc_rel (T := 4) (sc_i0 (by decide))))))
  · exact br_f h1 (sc_any fun _ => sc_any fun _ => sc_any fun _ => br_f h1 (br_t (by decide) (sc_rel (T := 1) (sc_i0 (by decide)))))
theorem i_vc_emit {k : Nat} {u : SX} {v : SY} (I : i_Rel k u v) (hk : k + 5 ≤ 2564) (v1 : Int32) (v2 : Int32) (v3 : Int32) (v4 : Int32) : wpX_emit (fun r u' => wpY_emit (fun r' v' => r' = r ∧ i_Rel (k + 5) u' v') v v1 v2 v3 v4) u v1 v2 v3 v4 := by
  obtain ⟨T, wa, wb, wc, co, cr, ci, rg, me, sz, pc, st, rc, dg, rfl, rfl, J⟩ := I
  unfold wpX_emit wpY_emit
  dsimp only
  rcases sc_th J v1 with hb | ⟨t, ht, h4, rfl⟩
  · exact sc_xF hb (br_t rfl (sc_yF hb (br_t rfl ⟨rfl, sc_rel J⟩)))
  · refine sc_xT ht J.1 (br_f sc_10 ?_)
    by_cases o0 : v2 < 0
    · exact br_t o0 (sc_yT ht J.1 (br_f sc_10 (br_t o0 ⟨rfl, sc_rel J⟩)))
    · refine br_f o0 ?_
      by_cases o1 : v2 ≤ 15
      · refine br_t o1 ?_
        by_cases r0 : v3 < 0
        · exact br_t r0 (sc_yT ht J.1 (br_f sc_10 (br_f o0 (br_t o1 (br_t r0 ⟨rfl, sc_rel J⟩)))))
        · refine br_f r0 ?_
          by_cases r1 : v3 ≤ 511
          · obtain ⟨o, ho, rfl⟩ : ∃ o : Nat, o < 16 ∧ v2 = nI o := by
              rcases sc_ix16 v2 with (h | h) | h
              · exact absurd h o0
              · exact absurd o1 (sc_16n15 h)
              · exact h
            obtain ⟨n, hn, e⟩ := J.2.2 (nI t).toNatClampNeg
            have hi := sc_i4 h4
            refine br_t r1 ⟨hi, nm_r e ?_⟩
            by_cases hf : n < 24
            · have h96 : vp_in (nI t * 24 + nI n) 96 := by
                rw [sc_m24, nI_add]
                exact vp_in_nI (by omega) (by decide)
              refine br_t (sc_lt24 hf) (nm_e ⟨h96, nm_e ⟨h96, nm_e ⟨h96, nm_e ⟨hi, nm_e ?_⟩⟩⟩⟩)
              refine sc_yT ht J.1 (br_f sc_10 (br_f o0 (br_t o1 (br_f r0 (br_t r1 ⟨hi, nm_r e (br_t (sc_lt24 hf) ⟨h96, nm_e ⟨h96, nm_e ⟨h96, nm_e ⟨hi, nm_e ⟨rfl, ?_⟩⟩⟩⟩⟩)⟩)))))
              rw [nI_1]
              exact sc_rel (sc_iS (sc_iO J _ o ho) _ (n + 1) (by omega))
            · have hq := sc_nlt24 (n := n) (by omega) hn
              exact br_f hq (sc_yT ht J.1 (br_f sc_10 (br_f o0 (br_t o1 (br_f r0 (br_t r1 ⟨hi, nm_r e (br_f hq ⟨rfl, sc_rel J⟩)⟩))))))
          · exact br_f r1 (sc_yT ht J.1 (br_f sc_10 (br_f o0 (br_t o1 (br_f r0 (br_f r1 ⟨rfl, sc_rel J⟩))))))
      · exact br_f o1 (sc_yT ht J.1 (br_f sc_10 (br_f o0 (br_f o1 ⟨rfl, sc_rel J⟩))))
theorem i_vc_retarget {k : Nat} {u : SX} {v : SY} (I : i_Rel k u v) (hk : k + 5 ≤ 2564) (v1 : Int32) (v2 : Int32) (v3 : Int32) : wpX_retarget (fun r u' => wpY_retarget (fun r' v' => r' = r ∧ i_Rel (k + 5) u' v') v v1 v2 v3) u v1 v2 v3 := by
  obtain ⟨T, wa, wb, wc, co, cr, ci, rg, me, sz, pc, st, rc, dg, rfl, rfl, J⟩ := I
  unfold wpX_retarget wpY_retarget
  dsimp only
  rcases sc_th J v1 with hb | ⟨t, ht, h4, rfl⟩
  · exact sc_xF hb (br_t rfl (sc_yF hb (br_t rfl ⟨rfl, sc_rel J⟩)))
  · refine sc_xT ht J.1 (br_f sc_10 ?_)
    obtain ⟨n, hn, e⟩ := J.2.2 (nI t).toNatClampNeg
    have hi := sc_i4 h4
    rcases pk_ix v2 (n := n) (by omega) with h | h | ⟨j, hj, rfl⟩
    · exact sc_inF h4 e (Or.inl h) (br_t rfl (sc_yT ht J.1 (br_f sc_10 (br_t h ⟨rfl, sc_rel J⟩))))
    · refine sc_inF h4 e (Or.inr h) (br_t rfl (sc_yT ht J.1 (br_f sc_10 (br_f (sc_pn h (by omega)) ⟨hi, br_f ?_ ⟨rfl, sc_rel J⟩⟩))))
      rw [e]
      exact sc_nl h
    · have h96 : vp_in (nI t * 24 + nI j) 96 := by
        rw [sc_m24, nI_add]
        exact vp_in_nI (by omega) (by decide)
      refine sc_inT h4 e hj hn (br_f sc_10 ⟨h96, nm_e (sc_yT ht J.1 (br_f sc_10 (br_f (nI_pos (by omega)) ⟨hi, br_t ?_ ⟨h96, nm_e ⟨rfl, sc_rel J⟩⟩⟩)))⟩)
      rw [e]
      exact nI_lt hj (by omega)
theorem i_vc_restart {k : Nat} {u : SX} {v : SY} (I : i_Rel k u v) (hk : k + 5 ≤ 2564) (v1 : Int32) (v2 : Int32) : wpX_restart (fun r u' => wpY_restart (fun r' v' => r' = r ∧ i_Rel (k + 5) u' v') v v1 v2) u v1 v2 := by
  obtain ⟨T, wa, wb, wc, co, cr, ci, rg, me, sz, pc, st, rc, dg, rfl, rfl, J⟩ := I
  unfold wpX_restart wpY_restart
  dsimp only
  rcases sc_th J v1 with hb | ⟨t, ht, h4, rfl⟩
  · exact sc_xF hb (br_t rfl (sc_yF hb (br_t rfl ⟨rfl, sc_rel J⟩)))
  · have hi := sc_i4 h4
    exact sc_xT ht J.1 (br_f sc_10 ⟨hi, nm_e ⟨hi, nm_e (sc_yT ht J.1 (br_f sc_10 ⟨hi, nm_e ⟨hi, nm_e ⟨rfl, sc_rel J⟩⟩⟩))⟩⟩)
theorem i_vc_setReg {k : Nat} {u : SX} {v : SY} (I : i_Rel k u v) (hk : k + 5 ≤ 2564) (v1 : Int32) (v2 : Int32) (v3 : Int32) : wpX_setReg (fun r u' => wpY_setReg (fun r' v' => r' = r ∧ i_Rel (k + 5) u' v') v v1 v2 v3) u v1 v2 v3 := by
  obtain ⟨T, wa, wb, wc, co, cr, ci, rg, me, sz, pc, st, rc, dg, rfl, rfl, J⟩ := I
  unfold wpX_setReg wpY_setReg
  dsimp only
  rcases sc_th J v1 with hb | ⟨t, ht, h4, rfl⟩
  · exact sc_xF hb (br_t rfl (sc_yF hb (br_t rfl ⟨rfl, sc_rel J⟩)))
  · refine sc_xT ht J.1 (br_f sc_10 ?_)
    rcases sc_ix8 v2 with hb | ⟨j, hj, rfl⟩
    · exact sc_rgF hb (br_t rfl (sc_yT ht J.1 (br_f sc_10 (br_c (fun _ => ⟨rfl, sc_rel J⟩) (fun z => br_f (sc_8n7 (hb.resolve_left z)) ⟨rfl, sc_rel J⟩)))))
    · have e := (sc_e8 h4 hj).1
      exact sc_rgT hj (br_f sc_10 ⟨e, nm_e (sc_yT ht J.1 (br_f sc_10 (br_f (nI_pos (by omega)) (br_t (sc_le7 hj) ⟨e, nm_e ⟨rfl, sc_rel J⟩⟩))))⟩)
theorem i_vc_setMem {k : Nat} {u : SX} {v : SY} (I : i_Rel k u v) (hk : k + 5 ≤ 2564) (v1 : Int32) (v2 : Int32) (v3 : Int32) : wpX_setMem (fun r u' => wpY_setMem (fun r' v' => r' = r ∧ i_Rel (k + 5) u' v') v v1 v2 v3) u v1 v2 v3 := by
  obtain ⟨T, wa, wb, wc, co, cr, ci, rg, me, sz, pc, st, rc, dg, rfl, rfl, J⟩ := I
  unfold wpX_setMem wpY_setMem
  dsimp only
  rcases sc_th J v1 with hb | ⟨t, ht, h4, rfl⟩
  · exact sc_xF hb (br_t rfl (sc_yF hb (br_t rfl ⟨rfl, sc_rel J⟩)))
  · refine sc_xT ht J.1 (br_f sc_10 ?_)
    rcases sc_ix16 v2 with hb | ⟨j, hj, rfl⟩
    · exact sc_clF hb (br_t rfl (sc_yT ht J.1 (br_f sc_10 (br_c (fun _ => ⟨rfl, sc_rel J⟩) (fun z => br_f (sc_16n15 (hb.resolve_left z)) ⟨rfl, sc_rel J⟩)))))
    · have e := (sc_e16 h4 hj).1
      exact sc_clT hj (br_f sc_10 ⟨e, nm_e (sc_yT ht J.1 (br_f sc_10 (br_f (nI_pos (by omega)) (br_t (sc_le15 hj) ⟨e, nm_e ⟨rfl, sc_rel J⟩⟩))))⟩)
theorem i_vc_reg {k : Nat} {u : SX} {v : SY} (I : i_Rel k u v) (hk : k + 5 ≤ 2564) (v1 : Int32) (v2 : Int32) : wpX_reg (fun r => wpY_reg (fun r' => r' = r ∧ i_Rel (k + 5) u v) v v1 v2) u v1 v2 := by
  obtain ⟨T, wa, wb, wc, co, cr, ci, rg, me, sz, pc, st, rc, dg, rfl, rfl, J⟩ := I
  unfold wpX_reg wpY_reg
  dsimp only
  rcases sc_th J v1 with hb | ⟨t, ht, h4, rfl⟩
  · exact sc_xF hb (br_t rfl (sc_yF hb (br_t rfl ⟨rfl, sc_rel J⟩)))
  · refine sc_xT ht J.1 (br_f sc_10 ?_)
    rcases sc_ix8 v2 with hb | ⟨j, hj, rfl⟩
    · exact sc_rgF hb (br_t rfl (sc_yT ht J.1 (br_f sc_10 (br_c (fun _ => ⟨rfl, sc_rel J⟩) (fun z => br_f (sc_8n7 (hb.resolve_left z)) ⟨rfl, sc_rel J⟩)))))
    · have e := (sc_e8 h4 hj).1
      exact sc_rgT hj (br_f sc_10 ⟨e, sc_yT ht J.1 (br_f sc_10 (br_f (nI_pos (by omega)) (br_t (sc_le7 hj) ⟨e, rfl, sc_rel J⟩)))⟩)
theorem i_vc_mem {k : Nat} {u : SX} {v : SY} (I : i_Rel k u v) (hk : k + 5 ≤ 2564) (v1 : Int32) (v2 : Int32) : wpX_mem (fun r => wpY_mem (fun r' => r' = r ∧ i_Rel (k + 5) u v) v v1 v2) u v1 v2 := by
  obtain ⟨T, wa, wb, wc, co, cr, ci, rg, me, sz, pc, st, rc, dg, rfl, rfl, J⟩ := I
  unfold wpX_mem wpY_mem
  dsimp only
  rcases sc_th J v1 with hb | ⟨t, ht, h4, rfl⟩
  · exact sc_xF hb (br_t rfl (sc_yF hb (br_t rfl ⟨rfl, sc_rel J⟩)))
  · refine sc_xT ht J.1 (br_f sc_10 ?_)
    rcases sc_ix16 v2 with hb | ⟨j, hj, rfl⟩
    · exact sc_clF hb (br_t rfl (sc_yT ht J.1 (br_f sc_10 (br_c (fun _ => ⟨rfl, sc_rel J⟩) (fun z => br_f (sc_16n15 (hb.resolve_left z)) ⟨rfl, sc_rel J⟩)))))
    · have e := (sc_e16 h4 hj).1
      exact sc_clT hj (br_f sc_10 ⟨e, sc_yT ht J.1 (br_f sc_10 (br_f (nI_pos (by omega)) (br_t (sc_le15 hj) ⟨e, rfl, sc_rel J⟩)))⟩)
theorem i_vc_pc {k : Nat} {u : SX} {v : SY} (I : i_Rel k u v) (hk : k + 5 ≤ 2564) (v1 : Int32) : wpX_pc (fun r => wpY_pc (fun r' => r' = r ∧ i_Rel (k + 5) u v) v v1) u v1 := by
  obtain ⟨T, wa, wb, wc, co, cr, ci, rg, me, sz, pc, st, rc, dg, rfl, rfl, J⟩ := I
  unfold wpX_pc wpY_pc
  dsimp only
  rcases sc_th J v1 with hb | ⟨t, ht, h4, rfl⟩
  · exact sc_xF hb (br_t rfl (sc_yF hb (br_t rfl ⟨rfl, sc_rel J⟩)))
  · exact sc_xT ht J.1 (br_f sc_10 ⟨sc_i4 h4, sc_yT ht J.1 (br_f sc_10 ⟨sc_i4 h4, rfl, sc_rel J⟩)⟩)
theorem i_vc_status {k : Nat} {u : SX} {v : SY} (I : i_Rel k u v) (hk : k + 5 ≤ 2564) (v1 : Int32) : wpX_status (fun r => wpY_status (fun r' => r' = r ∧ i_Rel (k + 5) u v) v v1) u v1 := by
  obtain ⟨T, wa, wb, wc, co, cr, ci, rg, me, sz, pc, st, rc, dg, rfl, rfl, J⟩ := I
  unfold wpX_status wpY_status
  dsimp only
  rcases sc_th J v1 with hb | ⟨t, ht, h4, rfl⟩
  · exact sc_xF hb (br_t rfl (sc_yF hb (br_t rfl ⟨rfl, sc_rel J⟩)))
  · exact sc_xT ht J.1 (br_f sc_10 ⟨sc_i4 h4, sc_yT ht J.1 (br_f sc_10 ⟨sc_i4 h4, rfl, sc_rel J⟩)⟩)
theorem i_vc_retired {k : Nat} {u : SX} {v : SY} (I : i_Rel k u v) (hk : k + 5 ≤ 2564) (v1 : Int32) : wpX_retired (fun r => wpY_retired (fun r' => r' = r ∧ i_Rel (k + 5) u v) v v1) u v1 := by
  obtain ⟨T, wa, wb, wc, co, cr, ci, rg, me, sz, pc, st, rc, dg, rfl, rfl, J⟩ := I
  unfold wpX_retired wpY_retired
  dsimp only
  rcases sc_th J v1 with hb | ⟨t, ht, h4, rfl⟩
  · exact sc_xF hb (br_t rfl (sc_yF hb (br_t rfl ⟨rfl, sc_rel J⟩)))
  · exact sc_xT ht J.1 (br_f sc_10 ⟨sc_i4 h4, sc_yT ht J.1 (br_f sc_10 ⟨sc_i4 h4, rfl, sc_rel J⟩)⟩)
theorem i_vc_digest {k : Nat} {u : SX} {v : SY} (I : i_Rel k u v) (hk : k + 5 ≤ 2564) (v1 : Int32) : wpX_digest (fun r => wpY_digest (fun r' => r' = r ∧ i_Rel (k + 5) u v) v v1) u v1 := by
  obtain ⟨T, wa, wb, wc, co, cr, ci, rg, me, sz, pc, st, rc, dg, rfl, rfl, J⟩ := I
  unfold wpX_digest wpY_digest
  dsimp only
  rcases sc_th J v1 with hb | ⟨t, ht, h4, rfl⟩
  · exact sc_xF hb (br_t rfl (sc_yF hb (br_t rfl ⟨rfl, sc_rel J⟩)))
  · exact sc_xT ht J.1 (br_f sc_10 ⟨sc_i4 h4, sc_yT ht J.1 (br_f sc_10 ⟨sc_i4 h4, rfl, sc_rel J⟩)⟩)
theorem i_vc_size {k : Nat} {u : SX} {v : SY} (I : i_Rel k u v) (hk : k + 5 ≤ 2564) (v1 : Int32) : wpX_size (fun r => wpY_size (fun r' => r' = r ∧ i_Rel (k + 5) u v) v v1) u v1 := by
  obtain ⟨T, wa, wb, wc, co, cr, ci, rg, me, sz, pc, st, rc, dg, rfl, rfl, J⟩ := I
  unfold wpX_size wpY_size
  dsimp only
  rcases sc_th J v1 with hb | ⟨t, ht, h4, rfl⟩
  · exact sc_xF hb (br_t rfl (sc_yF hb (br_t rfl ⟨rfl, sc_rel J⟩)))
  · exact sc_xT ht J.1 (br_f sc_10 ⟨sc_i4 h4, sc_yT ht J.1 (br_f sc_10 ⟨sc_i4 h4, rfl, sc_rel J⟩)⟩)
