section
variable {T t : Nat} {wa wb wc : Int32} {co cr ci rg me sz pc st rc dg : Nat → Int32} {postX : Int32 → SX → Prop} {postY : Int32 → SY → Prop}
/-- the array with noughts at b, b + 1, .. , i of them -/
def sc_z (a : Nat → Int32) (b : Nat) : Nat → Nat → Int32
  | 0 => a
  | i + 1 => upd (sc_z a b i) (b + i) 0
theorem sc_e8 (h4 : t < 4) {i : Nat} (hi : i < 8) : vp_in (nI t * 8 + nI i) 32 ∧ (nI t * 8 + nI i).toNatClampNeg = t * 8 + i := by
  rw [sc_m8, nI_add]
  exact ⟨vp_in_nI (by omega) (by decide), nI_clamp (by omega)⟩
theorem sc_e16 (h4 : t < 4) {i : Nat} (hi : i < 16) : vp_in (nI t * 16 + nI i) 64 ∧ (nI t * 16 + nI i).toNatClampNeg = t * 16 + i := by
  rw [sc_m16, nI_add]
  exact ⟨vp_in_nI (by omega) (by decide), nI_clamp (by omega)⟩
theorem sc_u {f : Nat → Int32} {x : Int32} (h4 : t < 4) : upd f (nI t).toNatClampNeg x = upd f t x := by rw [nI_clamp (by omega)]
theorem sc_i4 (h4 : t < 4) : vp_in (nI t) 4 := vp_in_nI h4 (by decide)
theorem sc_x45 (h4 : t < 4) (k : postX 0 (nI T, wa, wb, wc, co, cr, ci, rg, sc_z me (t * 16) 16, sz, upd pc t 0, upd st t 0, upd rc t 0, upd dg t 0)) : ∀ d i : Nat, i + d = 16 → wX_reset_45 postX (nI t) (nI T) wa wb wc (d + 1) (nI i) co cr ci rg (sc_z me (t * 16) i) sz pc st rc dg := by
  intro d
  induction d with
  | zero =>
    intro i hi
    have e : i = 16 := by omega
    subst e
    exact br_t (nI_le (a := 16) (b := 16) (Nat.le_refl _) (by decide)) ⟨sc_i4 h4, nm_r (sc_u h4) ⟨sc_i4 h4, nm_r (sc_u h4) ⟨sc_i4 h4, nm_r (sc_u h4) ⟨sc_i4 h4, nm_r (sc_u h4) k⟩⟩⟩⟩
  | succ d ih =>
    intro i hi
    have e := sc_e16 h4 (i := i) (by omega)
    exact br_f (sc_n16 (by omega)) ⟨e.1, nm_r (e' := sc_z me (t * 16) (i + 1)) (by rw [e.2, sc_z]) (nm_r (nI_1 i) (ih (i + 1) (by omega)))⟩
theorem sc_x19 (h4 : t < 4) (k : ∃ n45 : Nat, wX_reset_45 postX (nI t) (nI T) wa wb wc n45 0 co cr ci (sc_z rg (t * 8) 8) me sz pc st rc dg) : ∀ d i : Nat, i + d = 8 → wX_reset_19 postX (nI t) (nI T) wa wb wc (d + 1) (nI i) co cr ci (sc_z rg (t * 8) i) me sz pc st rc dg := by
  intro d
  induction d with
  | zero =>
    intro i hi
    have e : i = 8 := by omega
    subst e
    exact br_t (nI_le (a := 8) (b := 8) (Nat.le_refl _) (by decide)) k
  | succ d ih =>
    intro i hi
    have e := sc_e8 h4 (i := i) (by omega)
    exact br_f (sc_n8 (by omega)) ⟨e.1, nm_r (e' := sc_z rg (t * 8) (i + 1)) (by rw [e.2, sc_z]) (nm_r (nI_1 i) (ih (i + 1) (by omega)))⟩
theorem sc_y38 (h4 : t < 4) (k : postY 0 (nI T, co, cr, ci, upd sz t 0, rg, sc_z me (t * 16) 16, upd pc t 0, upd st t 0, upd rc t 0, upd dg t 0)) : ∀ d i : Nat, i + d = 16 → wY_reset_38 postY (nI t) (nI T) (d + 1) (nI i) co cr ci sz rg (sc_z me (t * 16) i) pc st rc dg := by
  intro d
  induction d with
  | zero =>
    intro i hi
    have e : i = 16 := by omega
    subst e
    exact br_t (nI_le (a := 16) (b := 16) (Nat.le_refl _) (by decide)) ⟨sc_i4 h4, nm_r (sc_u h4) ⟨sc_i4 h4, nm_r (sc_u h4) ⟨sc_i4 h4, nm_r (sc_u h4) ⟨sc_i4 h4, nm_r (sc_u h4) ⟨sc_i4 h4, nm_r (sc_u h4) k⟩⟩⟩⟩⟩
  | succ d ih =>
    intro i hi
    have e := sc_e16 h4 (i := i) (by omega)
    exact br_f (sc_n16 (by omega)) ⟨e.1, nm_r (e' := sc_z me (t * 16) (i + 1)) (by rw [e.2, sc_z]) (nm_r (nI_1 i) (ih (i + 1) (by omega)))⟩
theorem sc_y12 (h4 : t < 4) (k : ∃ n38 : Nat, wY_reset_38 postY (nI t) (nI T) n38 0 co cr ci sz (sc_z rg (t * 8) 8) me pc st rc dg) : ∀ d i : Nat, i + d = 8 → wY_reset_12 postY (nI t) (nI T) (d + 1) (nI i) co cr ci sz (sc_z rg (t * 8) i) me pc st rc dg := by
  intro d
  induction d with
  | zero =>
    intro i hi
    have e : i = 8 := by omega
    subst e
    exact br_t (nI_le (a := 8) (b := 8) (Nat.le_refl _) (by decide)) k
  | succ d ih =>
    intro i hi
    have e := sc_e8 h4 (i := i) (by omega)
    exact br_f (sc_n8 (by omega)) ⟨e.1, nm_r (e' := sc_z rg (t * 8) (i + 1)) (by rw [e.2, sc_z]) (nm_r (nI_1 i) (ih (i + 1) (by omega)))⟩
end
theorem i_vc_reset {k : Nat} {u : SX} {v : SY} (I : i_Rel k u v) (hk : k + 5 ≤ 2564) (v1 : Int32) : wpX_reset (fun r u' => wpY_reset (fun r' v' => r' = r ∧ i_Rel (k + 5) u' v') v v1) u v1 := by
  obtain ⟨T, wa, wb, wc, co, cr, ci, rg, me, sz, pc, st, rc, dg, rfl, rfl, J⟩ := I
  unfold wpX_reset wpY_reset
  dsimp only
  rcases sc_th J v1 with hb | ⟨t, ht, h4, rfl⟩
  · exact sc_xF hb (br_t rfl (sc_yF hb (br_t rfl ⟨rfl, sc_rel J⟩)))
  · refine sc_xT ht J.1 (br_f sc_10 ⟨sc_i4 h4, nm_r (sc_u h4) ⟨9, sc_x19 h4 ⟨17, sc_x45 h4 ?_ 16 0 rfl⟩ 8 0 rfl⟩⟩)
    exact sc_yT ht J.1 (br_f sc_10 ⟨9, sc_y12 h4 ⟨17, sc_y38 h4 ⟨rfl, sc_rel (sc_iS J t 0 (by omega))⟩ 16 0 rfl⟩ 8 0 rfl⟩)
