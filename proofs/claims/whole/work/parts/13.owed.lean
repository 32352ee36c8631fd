/-! the relation, and what is owed -/
def qi_B (F E K T n bl ol : Nat) : Prop := (2 ≤ F ∧ F ≤ 15) ∧ (2 ≤ E ∧ E ≤ 255) ∧ (3 ≤ K ∧ K ≤ 6) ∧ T ≤ 8 ∧ n ≤ 32 ∧ bl ≤ 64 ∧ ol ≤ 32
def qi_A (S B O R : Nat → Int32) : Prop := qd_by S ∧ qd_by B ∧ qd_by O ∧ qd_by R
def i_Rel (_ : Nat) (u : SX) (v : SY) : Prop := ∃ F E K T n bl ol : Nat, ∃ S B O R : Nat → Int32, qi_B F E K T n bl ol ∧ qi_A S B O R ∧
  (∃ (rl cu : Int32) (PC PL PM PD : Nat → Int32), u = (nI F, nI E, nI K, nI T, nI n, nI bl, nI ol, rl, cu, S, B, O, R, PC, PL, PM, PD)) ∧ (∃ (at0 fL fX fD : Int32) (EN : Nat → Int32), v = (nI n, nI bl, nI ol, at0, fL, fX, fD, nI F, nI E, nI K, nI T, S, B, O, R, EN))
theorem qi_mk {k F E K T n bl ol : Nat} {rl cu : Int32} {S B O R PC PL PM PD : Nat → Int32} {at0 fL fX fD : Int32} {EN : Nat → Int32} (hb : qi_B F E K T n bl ol) (ha : qi_A S B O R) : i_Rel k (nI F, nI E, nI K, nI T, nI n, nI bl, nI ol, rl, cu, S, B, O, R, PC, PL, PM, PD) (nI n, nI bl, nI ol, at0, fL, fX, fD, nI F, nI E, nI K, nI T, S, B, O, R, EN) :=
  ⟨F, E, K, T, n, bl, ol, S, B, O, R, hb, ha, ⟨rl, cu, PC, PL, PM, PD, rfl⟩, ⟨at0, fL, fX, fD, EN, rfl⟩⟩
theorem qi_f1 {a g : Nat → Int32} {b : Nat} : qd_fill a b g 1 = upd a b (g 0) := by
  have := qd_fill_s a b g 0
  rw [qd_fill_0] at this
  exact this.symm
theorem qi_pos {v : Int32} (h : 1 ≤ v) : ∃ j, 1 ≤ j ∧ j < 2 ^ 31 ∧ v = nI j := by
  have h0 : ¬ v < 0 := fun z => absurd (Int32.lt_of_le_of_lt (Int32.le_trans (show (0 : Int32) ≤ 1 by decide) h) z) Int32.lt_irrefl
  obtain ⟨j, hj, rfl⟩ := nI_of h0
  exact ⟨j, (nI_leI (a := 1) (by decide) hj).mp h, hj, rfl⟩
theorem i_up {k : Nat} {u : SX} {v : SY} (h : i_Rel k u v) : i_Rel (k + 3) u v := h
theorem i_vc0 (k0 : Int32) (k1 : Int32) (k2 : Int32) (k3 : Int32) : wpX_init (fun u => wpY_init (fun v => i_Rel 4 u v) k0 k1 k2 k3) k0 k1 k2 k3 := by
  obtain ⟨F, f1, f2, fX, fY⟩ := qi_clamp k0 2 15 (by decide) (by decide)
  obtain ⟨E, e1, e2, eX, eY⟩ := qi_clamp k1 2 255 (by decide) (by decide)
  obtain ⟨K, g1, g2, gX, gY⟩ := qi_clamp k2 3 6 (by decide) (by decide)
  obtain ⟨T, t1, t2, tX, tY⟩ := qi_clamp k3 0 8 (by decide) (by decide)
  unfold wpX_init wpY_init
  exact fX _ (eX _ (gX _ (tX _ (fY _ _ (eY _ _ (gY _ _ (tY _ _ (qi_mk (n := 0) (bl := 0) (ol := 0) ⟨⟨f1, f2⟩, ⟨e1, e2⟩, ⟨g1, g2⟩, t2, by decide, by decide, by decide⟩ ⟨qd_by_0, qd_by_0, qd_by_0, qd_by_0⟩))))))))
theorem i_vc_put {k : Nat} {u : SX} {v : SY} (I : i_Rel k u v) (hk : k + 3 ≤ 1540) (v1 : Int32) : wpX_put (fun r u' => wpY_put (fun r' v' => r' = r ∧ i_Rel (k + 3) u' v') v v1) u v1 := by
  obtain ⟨F, E, K, T, n, bl, ol, S, B, O, R, hb, ha, ⟨rl, cu, PC, PL, PM, PD, rfl⟩, ⟨at0, fL, fX, fD, EN, rfl⟩⟩ := I
  obtain ⟨⟨b1, b2⟩, ⟨b3, b4⟩, ⟨b5, b6⟩, b7, b8, b9, b10⟩ := hb
  obtain ⟨a1, a2, a3, a4⟩ := ha
  by_cases c : n < 32
  · refine br_t (nI_lt (b := 32) c (by decide)) (qx_appS c ?_)
    unfold wpY_put
    refine qy_rp (m := 1) (by decide) (by omega) ?_
    rw [qi_f1]
    exact ⟨rfl, qi_mk ⟨⟨b1, b2⟩, ⟨b3, b4⟩, ⟨b5, b6⟩, b7, by omega, b9, b10⟩ ⟨qd_by_u' a1 (qd_255 v1), a2, a3, a4⟩⟩
  · refine br_f (nI_nlt (b := 32) (by omega) (by omega)) ?_
    unfold wpY_put
    exact qy_rpF (m := 1) (by decide) (by decide) b8 (by omega) ⟨rfl, qi_mk ⟨⟨b1, b2⟩, ⟨b3, b4⟩, ⟨b5, b6⟩, b7, b8, b9, b10⟩ ⟨a1, a2, a3, a4⟩⟩
theorem i_vc_repeat {k : Nat} {u : SX} {v : SY} (I : i_Rel k u v) (hk : k + 3 ≤ 1540) (v1 : Int32) (v2 : Int32) : wpX_repeat (fun r u' => wpY_repeat (fun r' v' => r' = r ∧ i_Rel (k + 3) u' v') v v1 v2) u v1 v2 := by
  obtain ⟨F, E, K, T, n, bl, ol, S, B, O, R, hb, ha, ⟨rl, cu, PC, PL, PM, PD, rfl⟩, ⟨at0, fL, fX, fD, EN, rfl⟩⟩ := I
  obtain ⟨⟨b1, b2⟩, ⟨b3, b4⟩, ⟨b5, b6⟩, b7, b8, b9, b10⟩ := hb
  obtain ⟨a1, a2, a3, a4⟩ := ha
  by_cases c : 1 ≤ v2
  · obtain ⟨j, j1, j2, rfl⟩ := qi_pos c
    by_cases c2 : n + j ≤ 32
    · exact qx_rp j1 c2 (qy_rp j1 c2 ⟨rfl, qi_mk ⟨⟨b1, b2⟩, ⟨b3, b4⟩, ⟨b5, b6⟩, b7, c2, b9, b10⟩ ⟨qd_by_fill a1 (fun _ _ => qd_255 v1), a2, a3, a4⟩⟩)
    · exact qx_rpF j1 j2 b8 (by omega) (qy_rpF j1 j2 b8 (by omega) ⟨rfl, qi_mk ⟨⟨b1, b2⟩, ⟨b3, b4⟩, ⟨b5, b6⟩, b7, b8, b9, b10⟩ ⟨a1, a2, a3, a4⟩⟩)
  · exact br_f c (br_f c ⟨rfl, qi_mk ⟨⟨b1, b2⟩, ⟨b3, b4⟩, ⟨b5, b6⟩, b7, b8, b9, b10⟩ ⟨a1, a2, a3, a4⟩⟩)
theorem i_vc_echo {k : Nat} {u : SX} {v : SY} (I : i_Rel k u v) (hk : k + 3 ≤ 1540) (v1 : Int32) (v2 : Int32) : wpX_echo (fun r u' => wpY_echo (fun r' v' => r' = r ∧ i_Rel (k + 3) u' v') v v1 v2) u v1 v2 := by
  obtain ⟨F, E, K, T, n, bl, ol, S, B, O, R, hb, ha, ⟨rl, cu, PC, PL, PM, PD, rfl⟩, ⟨at0, fL, fX, fD, EN, rfl⟩⟩ := I
  obtain ⟨⟨b1, b2⟩, ⟨b3, b4⟩, ⟨b5, b6⟩, b7, b8, b9, b10⟩ := hb
  obtain ⟨a1, a2, a3, a4⟩ := ha
  by_cases c0 : v1 < 1
  · exact br_t c0 (br_t c0 ⟨rfl, qi_mk ⟨⟨b1, b2⟩, ⟨b3, b4⟩, ⟨b5, b6⟩, b7, b8, b9, b10⟩ ⟨a1, a2, a3, a4⟩⟩)
  · obtain ⟨d, d1, d2, rfl⟩ := qi_pos (Int32.not_lt.mp c0)
    by_cases c1 : d ≤ n
    · by_cases c : 1 ≤ v2
      · obtain ⟨j, j1, j2, rfl⟩ := qi_pos c
        by_cases c2 : n + j ≤ 32
        · exact qx_ec d1 c1 j1 c2 (qy_ec d1 c1 j1 c2 ⟨rfl, qi_mk ⟨⟨b1, b2⟩, ⟨b3, b4⟩, ⟨b5, b6⟩, b7, c2, b9, b10⟩ ⟨qr_by_copy a1 _, a2, a3, a4⟩⟩)
        · exact qx_ecF d1 c1 b8 j1 j2 (by omega) (qy_ecF d1 c1 b8 j1 j2 (by omega) ⟨rfl, qi_mk ⟨⟨b1, b2⟩, ⟨b3, b4⟩, ⟨b5, b6⟩, b7, b8, b9, b10⟩ ⟨a1, a2, a3, a4⟩⟩)
      · exact br_f c0 (br_t (nI_le c1 (by omega)) (br_f c (br_f c0 (br_f (nI_nlt c1 (by omega)) (br_f c ⟨rfl, qi_mk ⟨⟨b1, b2⟩, ⟨b3, b4⟩, ⟨b5, b6⟩, b7, b8, b9, b10⟩ ⟨a1, a2, a3, a4⟩⟩)))))
    · exact br_f c0 (br_f (nI_ge (by omega) d2) (br_f c0 (br_t (nI_lt (by omega) d2) ⟨rfl, qi_mk ⟨⟨b1, b2⟩, ⟨b3, b4⟩, ⟨b5, b6⟩, b7, b8, b9, b10⟩ ⟨a1, a2, a3, a4⟩⟩)))
theorem i_vc_cut {k : Nat} {u : SX} {v : SY} (I : i_Rel k u v) (hk : k + 3 ≤ 1540) (v1 : Int32) (v2 : Int32) : wpX_cut (fun r u' => wpY_cut (fun r' v' => r' = r ∧ i_Rel (k + 3) u' v') v v1 v2) u v1 v2 := by
  obtain ⟨F, E, K, T, n, bl, ol, S, B, O, R, hb, ha, ⟨rl, cu, PC, PL, PM, PD, rfl⟩, ⟨at0, fL, fX, fD, EN, rfl⟩⟩ := I
  obtain ⟨⟨b1, b2⟩, ⟨b3, b4⟩, ⟨b5, b6⟩, b7, b8, b9, b10⟩ := hb
  obtain ⟨a1, a2, a3, a4⟩ := ha
  by_cases c : v2 < 0
  · exact qx_cn c (qy_cn c ⟨rfl, qi_mk ⟨⟨b1, b2⟩, ⟨b3, b4⟩, ⟨b5, b6⟩, b7, b8, b9, b10⟩ ⟨a1, a2, a3, a4⟩⟩)
  · obtain ⟨j, hj, rfl⟩ := nI_of c
    by_cases e0 : v1 = 0
    · subst e0
      exact qx_c0 b8 hj (fun h1 => qy_c0 b8 hj (fun _ => ⟨rfl, qi_mk ⟨⟨b1, b2⟩, ⟨b3, b4⟩, ⟨b5, b6⟩, b7, by omega, b9, b10⟩ ⟨a1, a2, a3, a4⟩⟩) (fun h2 => absurd h1 h2)) (fun h1 => qy_c0 b8 hj (fun h2 => absurd h2 h1) (fun _ => ⟨rfl, qi_mk ⟨⟨b1, b2⟩, ⟨b3, b4⟩, ⟨b5, b6⟩, b7, b8, b9, b10⟩ ⟨a1, a2, a3, a4⟩⟩))
    · by_cases e1 : v1 = 1
      · subst e1
        exact qx_c1 b9 hj (fun h1 => qy_c1 b9 hj (fun _ => ⟨rfl, qi_mk ⟨⟨b1, b2⟩, ⟨b3, b4⟩, ⟨b5, b6⟩, b7, b8, by omega, b10⟩ ⟨a1, a2, a3, a4⟩⟩) (fun h2 => absurd h1 h2)) (fun h1 => qy_c1 b9 hj (fun h2 => absurd h2 h1) (fun _ => ⟨rfl, qi_mk ⟨⟨b1, b2⟩, ⟨b3, b4⟩, ⟨b5, b6⟩, b7, b8, b9, b10⟩ ⟨a1, a2, a3, a4⟩⟩))
      · exact br_f e0 (br_f e1 (br_f e0 (br_f e1 ⟨rfl, qi_mk ⟨⟨b1, b2⟩, ⟨b3, b4⟩, ⟨b5, b6⟩, b7, b8, b9, b10⟩ ⟨a1, a2, a3, a4⟩⟩)))
theorem i_vc_adopt {k : Nat} {u : SX} {v : SY} (I : i_Rel k u v) (hk : k + 3 ≤ 1540) : wpX_adopt (fun r u' => wpY_adopt (fun r' v' => r' = r ∧ i_Rel (k + 3) u' v') v) u := by
  obtain ⟨F, E, K, T, n, bl, ol, S, B, O, R, hb, ha, ⟨rl, cu, PC, PL, PM, PD, rfl⟩, ⟨at0, fL, fX, fD, EN, rfl⟩⟩ := I
  obtain ⟨⟨b1, b2⟩, ⟨b3, b4⟩, ⟨b5, b6⟩, b7, b8, b9, b10⟩ := hb
  obtain ⟨a1, a2, a3, a4⟩ := ha
  exact qx_ad b10 (qy_ad b10 ⟨rfl, qi_mk ⟨⟨b1, b2⟩, ⟨b3, b4⟩, ⟨b5, b6⟩, b7, b10, b9, b10⟩ ⟨qd_by_fill a1 (fun i _ => a3 i), a2, a3, a4⟩⟩)
theorem i_vc_encode {k : Nat} {u : SX} {v : SY} (I : i_Rel k u v) (hk : k + 3 ≤ 1540) : wpX_encode (fun r u' => wpY_encode (fun r' v' => r' = r ∧ i_Rel (k + 3) u' v') v) u := by
  obtain ⟨F, E, K, T, n, bl, ol, S, B, O, R, hb, ha, ⟨rl, cu, PC, PL, PM, PD, rfl⟩, ⟨at0, fL, fX, fD, EN, rfl⟩⟩ := I
  obtain ⟨⟨b1, b2⟩, ⟨b3, b4⟩, ⟨b5, b6⟩, b7, b8, b9, b10⟩ := hb
  obtain ⟨a1, a2, a3, a4⟩ := ha
  refine qx_en b3 b4 b1 b2 b5 b6 b7 b8 (fun PC PL PM PD pc pl pm pd ht hc => ?_)
  have hP : ∀ p, p ≤ n → qd_PL S n F E K T pc pl pm pd p := fun p hp => (ht p (Nat.zero_le _) hp).2.2.2.2
  obtain ⟨o1, o2, _⟩ := qw_ok hP b8 (by omega) a1 (by omega) b4 b2 33 0 0 B (Nat.zero_le _) (by omega) (by omega)
  exact qy_en b3 b4 b1 b2 b5 b6 b7 b8 a1 hP (fun EN fL fX fD => ⟨rfl, qi_mk ⟨⟨b1, b2⟩, ⟨b3, b4⟩, ⟨b5, b6⟩, b7, b8, by omega, b10⟩ ⟨a1, o2 a2, a3, a4⟩⟩)
theorem i_vc_surplus {k : Nat} {u : SX} {v : SY} (I : i_Rel k u v) (hk : k + 3 ≤ 1540) : wpX_surplus (fun r u' => wpY_surplus (fun r' v' => r' = r ∧ i_Rel (k + 3) u' v') v) u := by
  obtain ⟨F, E, K, T, n, bl, ol, S, B, O, R, hb, ha, ⟨rl, cu, PC, PL, PM, PD, rfl⟩, ⟨at0, fL, fX, fD, EN, rfl⟩⟩ := I
  obtain ⟨⟨b1, b2⟩, ⟨b3, b4⟩, ⟨b5, b6⟩, b7, b8, b9, b10⟩ := hb
  obtain ⟨a1, a2, a3, a4⟩ := ha
  have hw := qr_read_b (bl := bl) (F := F) (E := E) (K := K) (T := T) a2 (bl + 1) 0 0 0 R (by omega) a4
  generalize hW : qr_read B bl F E K T (bl + 1) 0 0 0 R = W at hw
  obtain ⟨c, len, R'⟩ := W
  obtain ⟨w1, w2, w3⟩ := hw
  dsimp only at w1 w2 w3
  refine qx_su a2 a4 b3 b4 b1 b2 b5 b6 b7 b8 b9 hW (fun q cu PC PL PM PD pc pl pm pd ht => ?_) (fun q cu => ?_)
  · refine qy_su a2 a4 b3 b4 b1 b2 b5 b6 b7 b8 b9 hW (fun _ at0 w EN fL fX fD g1 g2 g3 g4 g5 => ⟨?_, qi_mk ⟨⟨b1, b2⟩, ⟨b3, b4⟩, ⟨b5, b6⟩, b7, b8, b9, b10⟩ ⟨a1, a2, a3, w3⟩⟩) (fun q' => absurd q q')
    rw [qd_short (fun p hp => (ht p (Nat.zero_le _) hp).2.2.2.2) g3 (by omega) g1 g4 g5]
  · exact qy_su a2 a4 b3 b4 b1 b2 b5 b6 b7 b8 b9 hW (fun q' => absurd q' q) (fun _ at0 => ⟨rfl, qi_mk ⟨⟨b1, b2⟩, ⟨b3, b4⟩, ⟨b5, b6⟩, b7, b8, b9, b10⟩ ⟨a1, a2, a3, w3⟩⟩)
theorem i_vc_feed {k : Nat} {u : SX} {v : SY} (I : i_Rel k u v) (hk : k + 3 ≤ 1540) (v1 : Int32) : wpX_feed (fun r u' => wpY_feed (fun r' v' => r' = r ∧ i_Rel (k + 3) u' v') v v1) u v1 := by
  obtain ⟨F, E, K, T, n, bl, ol, S, B, O, R, hb, ha, ⟨rl, cu, PC, PL, PM, PD, rfl⟩, ⟨at0, fL, fX, fD, EN, rfl⟩⟩ := I
  obtain ⟨⟨b1, b2⟩, ⟨b3, b4⟩, ⟨b5, b6⟩, b7, b8, b9, b10⟩ := hb
  obtain ⟨a1, a2, a3, a4⟩ := ha
  by_cases c : bl < 64
  · exact br_t (nI_lt (b := 64) c (by decide)) (qx_appB c (qy_feed c ⟨rfl, qi_mk ⟨⟨b1, b2⟩, ⟨b3, b4⟩, ⟨b5, b6⟩, b7, b8, c, b10⟩ ⟨a1, qd_by_u' a2 (qd_255 v1), a3, a4⟩⟩))
  · exact br_f (nI_nlt (b := 64) (by omega) (by omega)) (br_f (nI_nlt (b := 64) (by omega) (by omega)) ⟨rfl, qi_mk ⟨⟨b1, b2⟩, ⟨b3, b4⟩, ⟨b5, b6⟩, b7, b8, b9, b10⟩ ⟨a1, a2, a3, a4⟩⟩)
theorem i_vc_poke {k : Nat} {u : SX} {v : SY} (I : i_Rel k u v) (hk : k + 3 ≤ 1540) (v1 : Int32) (v2 : Int32) : wpX_poke (fun r u' => wpY_poke (fun r' v' => r' = r ∧ i_Rel (k + 3) u' v') v v1 v2) u v1 v2 := by
  obtain ⟨F, E, K, T, n, bl, ol, S, B, O, R, hb, ha, ⟨rl, cu, PC, PL, PM, PD, rfl⟩, ⟨at0, fL, fX, fD, EN, rfl⟩⟩ := I
  obtain ⟨⟨b1, b2⟩, ⟨b3, b4⟩, ⟨b5, b6⟩, b7, b8, b9, b10⟩ := hb
  obtain ⟨a1, a2, a3, a4⟩ := ha
  by_cases c : v1 < 0
  · exact br_t c (br_t c ⟨rfl, qi_mk ⟨⟨b1, b2⟩, ⟨b3, b4⟩, ⟨b5, b6⟩, b7, b8, b9, b10⟩ ⟨a1, a2, a3, a4⟩⟩)
  · obtain ⟨j, hj, rfl⟩ := nI_of c
    by_cases c2 : j < bl
    · have hl := nI_lt c2 (show bl < 2 ^ 31 by omega)
      have hv : vp_in (nI j) 64 := vp_in_nI (by omega) (by decide)
      exact br_f c (br_t hl ⟨hv, nm_e ⟨hv, nm_e (br_f c (br_t hl ⟨hv, nm_e ⟨hv, nm_e ⟨rfl, qi_mk ⟨⟨b1, b2⟩, ⟨b3, b4⟩, ⟨b5, b6⟩, b7, b8, b9, b10⟩ ⟨a1, qd_by_u' a2 (qd_255 v2), a3, a4⟩⟩⟩⟩))⟩⟩)
    · have hl := nI_nlt (a := j) (b := bl) (by omega) hj
      exact br_f c (br_f hl (br_f c (br_f hl ⟨rfl, qi_mk ⟨⟨b1, b2⟩, ⟨b3, b4⟩, ⟨b5, b6⟩, b7, b8, b9, b10⟩ ⟨a1, a2, a3, a4⟩⟩)))
theorem i_vc_decode {k : Nat} {u : SX} {v : SY} (I : i_Rel k u v) (hk : k + 3 ≤ 1540) : wpX_decode (fun r u' => wpY_decode (fun r' v' => r' = r ∧ i_Rel (k + 3) u' v') v) u := by
  obtain ⟨F, E, K, T, n, bl, ol, S, B, O, R, hb, ha, ⟨rl, cu, PC, PL, PM, PD, rfl⟩, ⟨at0, fL, fX, fD, EN, rfl⟩⟩ := I
  obtain ⟨⟨b1, b2⟩, ⟨b3, b4⟩, ⟨b5, b6⟩, b7, b8, b9, b10⟩ := hb
  obtain ⟨a1, a2, a3, a4⟩ := ha
  have hw := qr_read_b (bl := bl) (F := F) (E := E) (K := K) (T := T) a2 (bl + 1) 0 0 0 R (by omega) a4
  generalize hW : qr_read B bl F E K T (bl + 1) 0 0 0 R = W at hw
  obtain ⟨c, len, R'⟩ := W
  obtain ⟨w1, w2, w3⟩ := hw
  dsimp only at w1 w2 w3
  exact qx_de a2 a4 b9 b4 b2 b6 b7 hW (fun c0 cu => qy_de a2 a4 b9 b4 b2 b6 b7 hW (fun _ at0 => ⟨rfl, qi_mk ⟨⟨b1, b2⟩, ⟨b3, b4⟩, ⟨b5, b6⟩, b7, b8, b9, w2⟩ ⟨a1, a2, qd_by_fill a3 (fun i _ => w3 i), w3⟩⟩) (fun c1 => absurd c0 c1))
    (fun c0 cu => qy_de a2 a4 b9 b4 b2 b6 b7 hW (fun c1 => absurd c1 c0) (fun _ at0 => ⟨rfl, qi_mk ⟨⟨b1, b2⟩, ⟨b3, b4⟩, ⟨b5, b6⟩, b7, b8, b9, b10⟩ ⟨a1, a2, a3, w3⟩⟩))
theorem i_vc_length {k : Nat} {u : SX} {v : SY} (I : i_Rel k u v) (hk : k + 3 ≤ 1540) (v1 : Int32) : wpX_length (fun r => wpY_length (fun r' => r' = r ∧ i_Rel (k + 3) u v) v v1) u v1 := by
  obtain ⟨F, E, K, T, n, bl, ol, S, B, O, R, hb, ha, ⟨rl, cu, PC, PL, PM, PD, rfl⟩, ⟨at0, fL, fX, fD, EN, rfl⟩⟩ := I
  obtain ⟨⟨b1, b2⟩, ⟨b3, b4⟩, ⟨b5, b6⟩, b7, b8, b9, b10⟩ := hb
  obtain ⟨a1, a2, a3, a4⟩ := ha
  unfold wpX_length
  exact qx_ln (fun e => qy_ln (fun _ => ⟨rfl, qi_mk ⟨⟨b1, b2⟩, ⟨b3, b4⟩, ⟨b5, b6⟩, b7, b8, b9, b10⟩ ⟨a1, a2, a3, a4⟩⟩) (fun z => absurd (e.symm.trans z) qi_01) (fun z => absurd (e.symm.trans z) qi_02) (fun z => absurd e z))
    (fun e => qy_ln (fun z => absurd (z.symm.trans e) qi_01) (fun _ => ⟨rfl, qi_mk ⟨⟨b1, b2⟩, ⟨b3, b4⟩, ⟨b5, b6⟩, b7, b8, b9, b10⟩ ⟨a1, a2, a3, a4⟩⟩) (fun z => absurd (e.symm.trans z) qi_12) (fun _ z => absurd e z))
    (fun e => qy_ln (fun z => absurd (z.symm.trans e) qi_02) (fun z => absurd (z.symm.trans e) qi_12) (fun _ => ⟨rfl, qi_mk ⟨⟨b1, b2⟩, ⟨b3, b4⟩, ⟨b5, b6⟩, b7, b8, b9, b10⟩ ⟨a1, a2, a3, a4⟩⟩) (fun _ _ z => absurd e z))
    (fun e0 e1 e2 => qy_ln (fun z => absurd z e0) (fun z => absurd z e1) (fun z => absurd z e2) (fun _ _ _ => ⟨rfl, qi_mk ⟨⟨b1, b2⟩, ⟨b3, b4⟩, ⟨b5, b6⟩, b7, b8, b9, b10⟩ ⟨a1, a2, a3, a4⟩⟩))
theorem i_vc_cellAt {k : Nat} {u : SX} {v : SY} (I : i_Rel k u v) (hk : k + 3 ≤ 1540) (v1 : Int32) (v2 : Int32) : wpX_cellAt (fun r => wpY_cellAt (fun r' => r' = r ∧ i_Rel (k + 3) u v) v v1 v2) u v1 v2 := by
  obtain ⟨F, E, K, T, n, bl, ol, S, B, O, R, hb, ha, ⟨rl, cu, PC, PL, PM, PD, rfl⟩, ⟨at0, fL, fX, fD, EN, rfl⟩⟩ := I
  obtain ⟨⟨b1, b2⟩, ⟨b3, b4⟩, ⟨b5, b6⟩, b7, b8, b9, b10⟩ := hb
  obtain ⟨a1, a2, a3, a4⟩ := ha
  by_cases c : v2 < 0
  · exact br_t c (br_t c ⟨rfl, qi_mk ⟨⟨b1, b2⟩, ⟨b3, b4⟩, ⟨b5, b6⟩, b7, b8, b9, b10⟩ ⟨a1, a2, a3, a4⟩⟩)
  · obtain ⟨j, hj, rfl⟩ := nI_of c
    refine br_f c (qx_ln (fun e => ?_) (fun e => ?_) (fun e => ?_) (fun e0 e1 e2 => ?_))
    · subst e
      by_cases c2 : j < n
      · have hl := nI_lt c2 (show n < 2 ^ 31 by omega)
        have hv : vp_in (nI j) 32 := vp_in_nI (by omega) (by decide)
        exact br_t hl (br_t rfl ⟨hv, br_f c (qy_ln (fun _ => br_t hl (br_t rfl ⟨hv, ⟨rfl, qi_mk ⟨⟨b1, b2⟩, ⟨b3, b4⟩, ⟨b5, b6⟩, b7, b8, b9, b10⟩ ⟨a1, a2, a3, a4⟩⟩⟩)) (fun z => absurd z qi_01) (fun z => absurd z qi_02) (fun z => absurd rfl z))⟩)
      · have hl := nI_nlt (a := j) (b := n) (by omega) hj
        exact br_f hl (br_f c (qy_ln (fun _ => br_f hl ⟨rfl, qi_mk ⟨⟨b1, b2⟩, ⟨b3, b4⟩, ⟨b5, b6⟩, b7, b8, b9, b10⟩ ⟨a1, a2, a3, a4⟩⟩) (fun z => absurd z qi_01) (fun z => absurd z qi_02) (fun z => absurd rfl z)))
    · subst e
      by_cases c2 : j < bl
      · have hl := nI_lt c2 (show bl < 2 ^ 31 by omega)
        have hv : vp_in (nI j) 64 := vp_in_nI (by omega) (by decide)
        exact br_t hl (br_f qi_10 (br_t rfl ⟨hv, br_f c (qy_ln (fun z => absurd z qi_10) (fun _ => br_t hl (br_f qi_10 (br_t rfl ⟨hv, ⟨rfl, qi_mk ⟨⟨b1, b2⟩, ⟨b3, b4⟩, ⟨b5, b6⟩, b7, b8, b9, b10⟩ ⟨a1, a2, a3, a4⟩⟩⟩))) (fun z => absurd z qi_12) (fun _ z => absurd rfl z))⟩))
      · have hl := nI_nlt (a := j) (b := bl) (by omega) hj
        exact br_f hl (br_f c (qy_ln (fun z => absurd z qi_10) (fun _ => br_f hl ⟨rfl, qi_mk ⟨⟨b1, b2⟩, ⟨b3, b4⟩, ⟨b5, b6⟩, b7, b8, b9, b10⟩ ⟨a1, a2, a3, a4⟩⟩) (fun z => absurd z qi_12) (fun _ z => absurd rfl z)))
    · subst e
      by_cases c2 : j < ol
      · have hl := nI_lt c2 (show ol < 2 ^ 31 by omega)
        have hv : vp_in (nI j) 32 := vp_in_nI (by omega) (by decide)
        exact br_t hl (br_f qi_20 (br_f qi_21 ⟨hv, br_f c (qy_ln (fun z => absurd z qi_20) (fun z => absurd z qi_21) (fun _ => br_t hl (br_f qi_20 (br_f qi_21 ⟨hv, ⟨rfl, qi_mk ⟨⟨b1, b2⟩, ⟨b3, b4⟩, ⟨b5, b6⟩, b7, b8, b9, b10⟩ ⟨a1, a2, a3, a4⟩⟩⟩))) (fun _ _ z => absurd rfl z))⟩))
      · have hl := nI_nlt (a := j) (b := ol) (by omega) hj
        exact br_f hl (br_f c (qy_ln (fun z => absurd z qi_20) (fun z => absurd z qi_21) (fun _ => br_f hl ⟨rfl, qi_mk ⟨⟨b1, b2⟩, ⟨b3, b4⟩, ⟨b5, b6⟩, b7, b8, b9, b10⟩ ⟨a1, a2, a3, a4⟩⟩) (fun _ _ z => absurd rfl z)))
    · have hl : ¬ nI j < -2 := fun z => c (Int32.lt_trans z (by decide))
      exact br_f hl (br_f c (qy_ln (fun z => absurd z e0) (fun z => absurd z e1) (fun z => absurd z e2) (fun _ _ _ => br_f hl ⟨rfl, qi_mk ⟨⟨b1, b2⟩, ⟨b3, b4⟩, ⟨b5, b6⟩, b7, b8, b9, b10⟩ ⟨a1, a2, a3, a4⟩⟩)))
