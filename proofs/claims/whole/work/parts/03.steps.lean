section
variable {T t : Nat} {wa wb wc : Int32} {co cr ci sz : Nat → Int32}
theorem sc_step (J : sc_Inv T co sz) (ht : t < T) (rg me pc st rc dg : Nat → Int32) : ∃ rg' me' pc' st' rc' dg' : Nat → Int32, (∀ post : SX → Prop, post (nI T, wa, wb, wc, co, cr, ci, rg', me', sz, pc', st', rc', dg') → wpX_step post (nI T, wa, wb, wc, co, cr, ci, rg, me, sz, pc, st, rc, dg) (nI t)) ∧ (∀ post : SY → Prop, post (nI T, co, cr, ci, sz, rg', me', pc', st', rc', dg') → wpY_step post (nI T, co, cr, ci, sz, rg, me, pc, st, rc, dg) (nI t)) := by
  have h4 : t < 4 := by have := J.1; omega
  have hcl : (nI t).toNatClampNeg = t := nI_clamp (by omega)
  have hin : vp_in (nI t) 4 := vp_in_nI h4 (by decide)
  obtain ⟨n, hn, en⟩ := J.2.2 t
  rcases pk_ix (pc t) (n := n) (by omega) with hb | hb | ⟨p, hp, ep⟩
  · refine ⟨rg, me, pc, upd st t 4, rc, dg, fun post k => ?_, fun post k => ?_⟩
    · simp only [wpX_step, wpX_stopAtCounter, wpX_isInstruction, hcl, hin, hb, sc_40, forall_eq, true_implies, forall_const, not_true_eq_false, not_false_eq_true, false_implies, and_true, true_and, implies_true, and_self]
      exact k
    · simp only [wpY_step, hcl, hin, hb, forall_eq, true_implies, forall_const, not_true_eq_false, not_false_eq_true, false_implies, and_true, true_and, implies_true, and_self]
      exact k
  · have hb0 : ¬ pc t < 0 := sc_pn hb (by omega)
    have hb1 : ¬ pc t < nI n := sc_nl hb
    refine ⟨rg, me, pc, upd st t 4, rc, dg, fun post k => ?_, fun post k => ?_⟩
    · simp only [wpX_step, wpX_stopAtCounter, wpX_isInstruction, hcl, hin, hb, hb0, en, sc_40, forall_eq, true_implies, forall_const, not_true_eq_false, not_false_eq_true, false_implies, and_true, true_and, implies_true, and_self]
      exact k
    · simp only [wpY_step, hcl, hin, hb0, hb1, en, forall_eq, true_implies, forall_const, not_true_eq_false, not_false_eq_true, false_implies, and_true, true_and, implies_true, and_self]
      exact k
  · obtain ⟨ja, hja, ea⟩ := sc_a7 (cr (t * 24 + p) >>> ((3 : Int32) &&& 31))
    obtain ⟨jb, hjb, eb⟩ := sc_a7 (cr (t * 24 + p) >>> ((6 : Int32) &&& 31))
    obtain ⟨jd, hjd, ed⟩ := sc_a7 (cr (t * 24 + p))
    have A : ∀ o : Int32, co (t * 24 + p) = o → sc_At t p n ja jb jd o (rg (t * 8 + ja)) (rg (t * 8 + jb)) (ci (t * 24 + p)) co cr ci rg sz pc := fun o eo => ⟨h4, hp, hn, hja, hjb, hjd, ep, en, eo, ea, eb, ed, rfl, rfl, rfl⟩
    obtain ⟨o, ho, eo⟩ := J.2.1 (t * 24 + p)
    have ho' : o = 0 ∨ o = 1 ∨ o = 2 ∨ o = 3 ∨ o = 4 ∨ o = 5 ∨ o = 6 ∨ o = 7 ∨ o = 8 ∨ o = 9 ∨ o = 10 ∨ o = 11 ∨ o = 12 ∨ o = 13 ∨ o = 14 ∨ o = 15 := by omega
    rcases ho' with rfl | rfl | rfl | rfl | rfl | rfl | rfl | rfl | rfl | rfl | rfl | rfl | rfl | rfl | rfl | rfl
    · have h := A 0 eo
      exact ⟨_, _, _, _, _, _, fun post k => sc_x0 h  k, fun post k => sc_y0 h  k⟩
    · have h := A 1 eo
      exact ⟨_, _, _, _, _, _, fun post k => sc_x1 h  k, fun post k => sc_y1 h  k⟩
    · have h := A 2 eo
      exact ⟨_, _, _, _, _, _, fun post k => sc_x2 h  k, fun post k => sc_y2 h  k⟩
    · have h := A 3 eo
      exact ⟨_, _, _, _, _, _, fun post k => sc_x3 h  k, fun post k => sc_y3 h  k⟩
    · have h := A 4 eo
      exact ⟨_, _, _, _, _, _, fun post k => sc_x4 h  k, fun post k => sc_y4 h  k⟩
    · have h := A 5 eo
      by_cases z : rg (t * 8 + jb) = 0
      · exact ⟨_, _, _, _, _, _, fun post k => sc_x5z h z k, fun post k => sc_y5z h z k⟩
      · exact ⟨_, _, _, _, _, _, fun post k => sc_x5 h z k, fun post k => sc_y5 h z k⟩
    · have h := A 6 eo
      exact ⟨_, _, _, _, _, _, fun post k => sc_x6 h  k, fun post k => sc_y6 h  k⟩
    · have h := A 7 eo
      exact ⟨_, _, _, _, _, _, fun post k => sc_x7 h  k, fun post k => sc_y7 h  k⟩
    · have h := A 8 eo
      exact ⟨_, _, _, _, _, _, fun post k => sc_x8 h  k, fun post k => sc_y8 h  k⟩
    · have h := A 9 eo
      exact ⟨_, _, _, _, _, _, fun post k => sc_x9 h  k, fun post k => sc_y9 h  k⟩
    · have h := A 10 eo
      rcases pk_ix (rg (t * 8 + ja) + ci (t * 24 + p)) (n := 16) (by decide) with z | z | ⟨q, hq, z⟩
      · exact ⟨_, _, _, _, _, _, fun post k => sc_x10n h z k, fun post k => sc_y10n h z k⟩
      · exact ⟨_, _, _, _, _, _, fun post k => sc_x10m h (sc_pn z (by decide)) z (sc_16n15 z) k, fun post k => sc_y10m h (sc_pn z (by decide)) z (sc_16n15 z) k⟩
      · exact ⟨_, _, _, _, _, _, fun post k => sc_x10 h hq z k, fun post k => sc_y10 h hq z k⟩
    · have h := A 11 eo
      rcases pk_ix (rg (t * 8 + ja) + ci (t * 24 + p)) (n := 16) (by decide) with z | z | ⟨q, hq, z⟩
      · exact ⟨_, _, _, _, _, _, fun post k => sc_x11n h z k, fun post k => sc_y11n h z k⟩
      · exact ⟨_, _, _, _, _, _, fun post k => sc_x11m h (sc_pn z (by decide)) z (sc_16n15 z) k, fun post k => sc_y11m h (sc_pn z (by decide)) z (sc_16n15 z) k⟩
      · exact ⟨_, _, _, _, _, _, fun post k => sc_x11 h hq z k, fun post k => sc_y11 h hq z k⟩
    · have h := A 12 eo
      by_cases z : rg (t * 8 + ja) = rg (t * 8 + jb)
      · exact ⟨_, _, _, _, _, _, fun post k => sc_x12e h z k, fun post k => sc_y12e h z k⟩
      · exact ⟨_, _, _, _, _, _, fun post k => sc_x12n h z k, fun post k => sc_y12n h z k⟩
    · have h := A 13 eo
      by_cases z : rg (t * 8 + jb) ≤ rg (t * 8 + ja)
      · exact ⟨_, _, _, _, _, _, fun post k => sc_x13n h z k, fun post k => sc_y13n h z k⟩
      · exact ⟨_, _, _, _, _, _, fun post k => sc_x13l h z k, fun post k => sc_y13l h z k⟩
    · have h := A 14 eo
      exact ⟨_, _, _, _, _, _, fun post k => sc_x14 h  k, fun post k => sc_y14 h  k⟩
    · have h := A 15 eo
      exact ⟨_, _, _, _, _, _, fun post k => sc_x15 h  k, fun post k => sc_y15 h  k⟩
theorem sc_idle {rg me pc st rc dg : Nat → Int32} {x2 bf : Int32} (h4 : t < 4) (post : Int32 → SY → Prop) : ∀ d k : Nat, k + d = 40 → ((∀ j, k ≤ j → j < 40 → x2 ≤ nI j) ∨ ¬ st t = 0) → post (rc (nI t).toNatClampNeg - bf) (nI T, co, cr, ci, sz, rg, me, pc, st, rc, dg) → wY_steps_10 post (nI t) x2 bf (d + 1) (nI k) (nI T) co cr ci sz rg me pc st rc dg := by
  intro d
  induction d with
  | zero =>
    intro k hk _ hp
    have hk' : k = 40 := by omega
    subst hk'
    exact br_t (nI_le (a := 40) (b := 40) (Nat.le_refl _) (by decide)) ⟨vp_in_nI h4 (by decide), hp⟩
  | succ d ih =>
    intro k hk hi hp
    have hnk : ¬ (40 : Int32) ≤ nI k := nI_ge (b := 40) (by omega) (by decide)
    have hi' : (∀ j, k + 1 ≤ j → j < 40 → x2 ≤ nI j) ∨ ¬ st t = 0 := hi.imp (fun f j a b => f j (by omega) b) id
    refine br_f hnk (br_c (fun _ => nm_r (nI_1 k) (ih (k + 1) (by omega) hi' hp)) (fun hx => ⟨vp_in_nI h4 (by decide), br_f ?_ (nm_r (nI_1 k) (ih (k + 1) (by omega) hi' hp))⟩))
    rw [nI_clamp (by omega)]
    exact hi.resolve_left (fun f => hx (f k (Nat.le_refl _) (by omega)))
theorem sc_lock {x2 bf : Int32} {M : Nat} (J : sc_Inv T co sz) (ht : t < T) (hM : M ≤ 40) (hx : ∀ j, j < 40 → (x2 ≤ nI j ↔ M ≤ j)) : ∀ d k : Nat, k + d = 40 → ∀ rg me pc st rc dg : Nat → Int32, ∃ rg' me' pc' st' rc' dg' : Nat → Int32, (∀ post : Int32 → SX → Prop, post (rc' (nI t).toNatClampNeg - bf) (nI T, wa, wb, wc, co, cr, ci, rg', me', sz, pc', st', rc', dg') → wX_makeSteps_19 post (nI t) (nI M) bf (d + 1) (nI k) (nI T) wa wb wc co cr ci rg me sz pc st rc dg) ∧ (∀ post : Int32 → SY → Prop, post (rc' (nI t).toNatClampNeg - bf) (nI T, co, cr, ci, sz, rg', me', pc', st', rc', dg') → wY_steps_10 post (nI t) x2 bf (d + 1) (nI k) (nI T) co cr ci sz rg me pc st rc dg) := by
  have h4 : t < 4 := by have := J.1; omega
  have hcl : (nI t).toNatClampNeg = t := nI_clamp (by omega)
  have hin : vp_in (nI t) 4 := vp_in_nI h4 (by decide)
  intro d
  induction d with
  | zero =>
    intro k hk rg me pc st rc dg
    refine ⟨rg, me, pc, st, rc, dg, fun post hp => ?_, fun post hp => sc_idle h4 post 0 k hk (Or.inl fun j a b => by omega) hp⟩
    exact br_t (nI_le (by omega) (by omega)) ⟨hin, hp⟩
  | succ d ih =>
    intro k hk rg me pc st rc dg
    by_cases hMk : M ≤ k
    · refine ⟨rg, me, pc, st, rc, dg, fun post hp => ?_, fun post hp => sc_idle h4 post (d + 1) k hk (Or.inl fun j a b => (hx j b).mpr (by omega)) hp⟩
      exact br_t (nI_le hMk (by omega)) ⟨hin, hp⟩
    · by_cases hs : st t = 0
      · obtain ⟨rg1, me1, pc1, st1, rc1, dg1, sx, sy⟩ := sc_step (wa := wa) (wb := wb) (wc := wc) (cr := cr) (ci := ci) J ht rg me pc st rc dg
        obtain ⟨rg2, me2, pc2, st2, rc2, dg2, ix, iy⟩ := ih (k + 1) (by omega) rg1 me1 pc1 st1 rc1 dg1
        refine ⟨rg2, me2, pc2, st2, rc2, dg2, fun post hp => ?_, fun post hp => ?_⟩
        · refine br_f (nI_ge (by omega) (by omega)) ⟨hin, br_t ?_ (sx _ (nm_r (nI_1 k) (ix post hp)))⟩
          rw [hcl]; exact hs
        · refine br_f (nI_ge (b := 40) (by omega) (by decide)) (br_f (fun z => hMk ((hx k (by omega)).mp z)) ⟨hin, br_t ?_ (sy _ (nm_r (nI_1 k) (iy post hp)))⟩)
          rw [hcl]; exact hs
      · refine ⟨rg, me, pc, st, rc, dg, fun post hp => ?_, fun post hp => sc_idle h4 post (d + 1) k hk (Or.inr hs) hp⟩
        refine br_f (nI_ge (by omega) (by omega)) ⟨hin, br_f ?_ ⟨hin, hp⟩⟩
        rw [hcl]; exact hs
theorem sc_M (x : Int32) : ∃ M : Nat, M ≤ 40 ∧ (∀ j, j < 40 → (x ≤ nI j ↔ M ≤ j)) ∧ ∀ post : Int32 → Prop, post (nI M) → wpX_clamp post x 0 40 := by
  by_cases h0 : 0 ≤ x
  · obtain ⟨m, hm, rfl⟩ := nI_of (x := x) (Int32.not_lt.mpr h0)
    by_cases h40 : m ≤ 40
    · exact ⟨m, h40, fun j hj => nI_leI hm (by omega), fun post hp => br_t h0 (br_t (nI_le (b := 40) h40 (by decide)) hp)⟩
    · refine ⟨40, by omega, fun j hj => ⟨fun z => ?_, fun z => by omega⟩, fun post hp => br_t h0 (br_f (nI_ge (a := 40) (by omega) hm) hp)⟩
      rw [nI_leI hm (by omega)] at z
      omega
  · refine ⟨0, by omega, fun j hj => ⟨fun _ => Nat.zero_le _, fun _ => ?_⟩, fun post hp => br_f h0 hp⟩
    exact Int32.le_of_lt (Int32.lt_of_lt_of_le (Int32.not_le.mp h0) (nI_pos' (by omega)))
theorem sc_steps (J : sc_Inv T co sz) (ht : t < T) (x : Int32) (rg me pc st rc dg : Nat → Int32) : ∃ (r : Int32) (rg' me' pc' st' rc' dg' : Nat → Int32), (∀ post : Int32 → SX → Prop, post r (nI T, wa, wb, wc, co, cr, ci, rg', me', sz, pc', st', rc', dg') → wpX_makeSteps post (nI T, wa, wb, wc, co, cr, ci, rg, me, sz, pc, st, rc, dg) (nI t) x) ∧ (∀ post : Int32 → SY → Prop, post r (nI T, co, cr, ci, sz, rg', me', pc', st', rc', dg') → wpY_steps post (nI T, co, cr, ci, sz, rg, me, pc, st, rc, dg) (nI t) x) := by
  have h4 : t < 4 := by have := J.1; omega
  have hin : vp_in (nI t) 4 := vp_in_nI h4 (by decide)
  obtain ⟨M, hM, hx, hc⟩ := sc_M x
  obtain ⟨rg1, me1, pc1, st1, rc1, dg1, ix, iy⟩ := sc_lock (wa := wa) (wb := wb) (wc := wc) (cr := cr) (ci := ci) (bf := rc (nI t).toNatClampNeg) J ht hM hx 40 0 rfl rg me pc st rc dg
  refine ⟨rc1 (nI t).toNatClampNeg - rc (nI t).toNatClampNeg, rg1, me1, pc1, st1, rc1, dg1, fun post hp => ?_, fun post hp => ?_⟩
  · unfold wpX_makeSteps
    dsimp only
    exact hc _ ⟨hin, nm_e ⟨41, ix post hp⟩⟩
  · exact ⟨hin, nm_e ⟨41, iy post hp⟩⟩
theorem sc_run (J : sc_Inv T co sz) (x : Int32) : ∀ d i : Nat, i + d = T → ∀ (s : Int32) (rg me pc st rc dg : Nat → Int32), ∃ (r : Int32) (rg' me' pc' st' rc' dg' : Nat → Int32), (∀ post : Int32 → SX → Prop, post r (nI T, wa, wb, wc, co, cr, ci, rg', me', sz, pc', st', rc', dg') → wX_run_4 post x (d + 1) s (nI i) (nI T) wa wb wc co cr ci rg me sz pc st rc dg) ∧ (∀ post : Int32 → SY → Prop, post r (nI T, co, cr, ci, sz, rg', me', pc', st', rc', dg') → wY_run_4 post x (d + 1) s (nI i) (nI T) co cr ci sz rg me pc st rc dg) := by
  have hT := J.1
  intro d
  induction d with
  | zero =>
    intro i hi s rg me pc st rc dg
    exact ⟨s, rg, me, pc, st, rc, dg, fun post hp => br_t (nI_le (by omega) (by omega)) hp, fun post hp => br_t (nI_le (by omega) (by omega)) hp⟩
  | succ d ih =>
    intro i hi s rg me pc st rc dg
    obtain ⟨r1, rg1, me1, pc1, st1, rc1, dg1, sx, sy⟩ := sc_steps (t := i) (wa := wa) (wb := wb) (wc := wc) (cr := cr) (ci := ci) J (by omega) x rg me pc st rc dg
    obtain ⟨r2, rg2, me2, pc2, st2, rc2, dg2, ix, iy⟩ := ih (i + 1) (by omega) (s + r1) rg1 me1 pc1 st1 rc1 dg1
    refine ⟨r2, rg2, me2, pc2, st2, rc2, dg2, fun post hp => ?_, fun post hp => ?_⟩
    · exact br_f (nI_ge (by omega) (by omega)) (sx _ (nm_e (nm_r (nI_1 i) (ix post hp))))
    · exact br_f (nI_ge (by omega) (by omega)) (sy _ (nm_e (nm_r (nI_1 i) (iy post hp))))
end
