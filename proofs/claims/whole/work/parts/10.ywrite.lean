/-! the reference's writer -/
section
variable {F E K T n bl ol : Nat} {at0 fL fX fD : Int32} {S B O R EN : Nat → Int32}
theorem qy_feed {post : Int32 → SY → Prop} {v : Int32} (hb : bl < 64) (h : post (nI (bl + 1)) (nI n, nI (bl + 1), nI ol, at0, fL, fX, fD, nI F, nI E, nI K, nI T, S, upd B bl (v &&& 255), O, R, EN)) : wpY_feed post (nI n, nI bl, nI ol, at0, fL, fX, fD, nI F, nI E, nI K, nI T, S, B, O, R, EN) v :=
  br_t (nI_lt (b := 64) hb (by decide)) (nm_r (nI_1 bl) ⟨vp_in_nI hb (by decide), nm_r qx_u h⟩)
theorem qy_feedb {post : Int32 → SY → Prop} {v : Int32} (hv : ∃ c, c < 256 ∧ v = nI c) (hb : bl < 64) (h : post (nI (bl + 1)) (nI n, nI (bl + 1), nI ol, at0, fL, fX, fD, nI F, nI E, nI K, nI T, S, upd B bl v, O, R, EN)) : wpY_feed post (nI n, nI bl, nI ol, at0, fL, fX, fD, nI F, nI E, nI K, nI T, S, B, O, R, EN) v :=
  qy_feed hb (by rw [qd_and' hv]; exact h)
theorem qy_feedn {post : Int32 → SY → Prop} {v : Int32} {c : Nat} (e : v = nI c) (hc : c < 256) (hb : bl < 64) (h : post (nI (bl + 1)) (nI n, nI (bl + 1), nI ol, at0, fL, fX, fD, nI F, nI E, nI K, nI T, S, upd B bl (nI c), O, R, EN)) : wpY_feed post (nI n, nI bl, nI ol, at0, fL, fX, fD, nI F, nI E, nI K, nI T, S, B, O, R, EN) v := by
  rw [e]
  exact qy_feedb ⟨c, hc, rfl⟩ hb h
theorem qy_fld {post : Int32 → Prop} {x : Nat} (hF : F ≤ 15) (hx : x < 1000000) (h : post (nI (qw_fld F x))) : wpY_field post (nI n, nI bl, nI ol, at0, fL, fX, fD, nI F, nI E, nI K, nI T, S, B, O, R, EN) (nI x) := by
  by_cases c : F ≤ x
  · rw [show qw_fld F x = F from if_neg (by omega)] at h
    exact br_t (nI_le c (by omega)) h
  · rw [show qw_fld F x = x from if_pos (by omega)] at h
    exact br_f (nI_ge (by omega) (by omega)) h
theorem qy_we9 {post : SY → Prop} {x : Nat} (hE : 2 ≤ E) (hE2 : E ≤ 255) (hF2 : 2 ≤ F) (hF : F ≤ 15) (hx : x ≤ 32) (hFx : F ≤ x) (hb : bl + qd_ext F E x ≤ 64)
    (h : post (nI n, nI (bl + qd_ext F E x), nI ol, at0, fL, fX, fD, nI F, nI E, nI K, nI T, S, qd_fill B bl (qd_xg F E x) (qd_ext F E x), O, R, EN)) :
    ∀ k i, i + k = (x - F) / E → ∀ f, k + 1 < f → wY_writeExtension_9 post f (nI i) (nI (x - F - i * E)) (nI n) (nI (bl + i)) (nI ol) at0 fL fX fD (nI F) (nI E) (nI K) (nI T) S (qd_fill B bl (qd_xg F E x) i) O R EN := by
  have ee := qd_ext_ge (E := E) hFx
  have h16 := qd_ext16 (F := F) (E := E) (x := x) hE hF2 hx
  have hqr := Nat.div_add_mod' (x - F) E
  have hr := Nat.mod_lt (x - F) (show 0 < E by omega)
  intro k
  induction k with
  | zero =>
    intro i hi f hf
    obtain ⟨f, rfl⟩ : ∃ f', f = f' + 1 + 1 := ⟨f - 2, by omega⟩
    have ei : i = (x - F) / E := by omega
    have er : x - F - i * E = (x - F) % E := by rw [ei]; omega
    rw [er]
    refine br_f (nI_nlt (a := 32) (by omega) (by decide)) (br_f (nI_pos (by omega)) (br_f (nI_ge (by omega) (by omega)) ?_))
    unfold wY_writeExtension_36
    refine qy_feedb ⟨_, by omega, rfl⟩ (by omega) (nm_r (nI_1 i) (nm_e ?_))
    have e : qd_xg F E x i = nI ((x - F) % E) := if_neg (by omega)
    have e2 : qd_ext F E x = i + 1 := by omega
    rw [← e, qd_fill_s]
    rw [e2] at h
    exact br_f (nI_nlt (a := 32) (by omega) (by decide)) (br_t (by rw [e]; exact pk_sneg (by omega) hr) h)
  | succ k ih =>
    intro i hi f hf
    obtain ⟨f, rfl⟩ : ∃ f', f = f' + 1 := ⟨f - 1, by omega⟩
    have hm : (i + 1) * E ≤ (x - F) / E * E := Nat.mul_le_mul_right E (by omega)
    have h1 : (i + 1) * E = i * E + E := by rw [Nat.add_mul, Nat.one_mul]
    refine br_f (nI_nlt (a := 32) (by omega) (by decide)) (br_f (nI_pos (by omega)) (br_t (nI_le (by omega) (by omega)) ?_))
    unfold wY_writeExtension_36
    have e : qd_xg F E x i = nI E := if_pos (by omega)
    refine qy_feedb ⟨E, by omega, rfl⟩ (by omega) (nm_r (nI_1 i) (nm_r (e' := nI (x - F - (i + 1) * E)) ?_ ?_))
    · rw [pk_sub (by omega)]
      exact congrArg nI (by omega)
    · have key := ih (i + 1) (by omega) f (by omega)
      rw [← qd_fill_s, e] at key
      exact key
theorem qy_we {post : SY → Prop} {x : Nat} (hE : 2 ≤ E) (hE2 : E ≤ 255) (hF2 : 2 ≤ F) (hF : F ≤ 15) (hx : x ≤ 32) (hb : bl + qd_ext F E x ≤ 64)
    (h : post (nI n, nI (bl + qd_ext F E x), nI ol, at0, fL, fX, fD, nI F, nI E, nI K, nI T, S, qd_fill B bl (qd_xg F E x) (qd_ext F E x), O, R, EN)) : wpY_writeExtension post (nI n, nI bl, nI ol, at0, fL, fX, fD, nI F, nI E, nI K, nI T, S, B, O, R, EN) (nI x) := by
  by_cases c : F ≤ x
  · have key := qy_we9 (T := T) (K := K) (n := n) (ol := ol) (at0 := at0) (fL := fL) (fX := fX) (fD := fD) (S := S) (O := O) (R := R) (EN := EN) hE hE2 hF2 hF hx c hb h ((x - F) / E) 0 (by omega) ((x - F) / E + 2) (by omega)
    rw [qd_fill_0, Nat.zero_mul] at key
    exact nm_r (pk_sub c) ⟨_, key⟩
  · rw [qd_ext_lt (by omega), qd_fill_0] at h
    exact nm_e ⟨1, br_f (by decide) (br_t (pk_sneg (by omega) (by omega)) h)⟩
theorem qy_e82 {post : Int32 → SY → Prop} {J : Int32 → Int32 → Int32 → Int32 → Int32 → Int32 → Int32 → Int32 → Int32 → Int32 → Int32 → Int32 → Int32 → (Nat → Int32) → (Nat → Int32) → (Nat → Int32) → (Nat → Int32) → (Nat → Int32) → Prop}
    {x1 : Int32} {p s l : Nat} (hS : qd_by S) (hp : p + l ≤ 32) (hb : bl + l ≤ 64)
    (h : ∀ f, wY_encode_82 post J x1 (nI p) (nI s) (f + 1) (nI l) (nI n) (nI (bl + l)) (nI ol) at0 (nI l) fX fD (nI F) (nI E) (nI K) (nI T) S (qd_fill B bl (fun i => S (p + i)) l) O R EN) :
    ∀ k i, i + k = l → ∀ f, k < f → wY_encode_82 post J x1 (nI p) (nI s) f (nI i) (nI n) (nI (bl + i)) (nI ol) at0 (nI l) fX fD (nI F) (nI E) (nI K) (nI T) S (qd_fill B bl (fun i => S (p + i)) i) O R EN := by
  intro k
  induction k with
  | zero =>
    intro i hi f hf
    obtain ⟨f, rfl⟩ : ∃ f', f = f' + 1 := ⟨f - 1, by omega⟩
    have e : i = l := by omega
    rw [e]
    exact h f
  | succ k ih =>
    intro i hi f hf
    obtain ⟨f, rfl⟩ : ∃ f', f = f' + 1 := ⟨f - 1, by omega⟩
    have ea : nI p + nI i = nI (p + i) := nI_add _ _
    refine br_f (nI_ge (by omega) (by omega)) ⟨by rw [ea]; exact vp_in_nI (by omega) (by decide), ?_⟩
    rw [ea, qx_g (a := S)]
    refine qy_feedb (hS _) (by omega) (nm_r (nI_1 i) ?_)
    have key := ih (i + 1) (by omega) f (by omega)
    rw [← qd_fill_s] at key
    exact key
theorem qy_e144 {post : Int32 → SY → Prop} {J : Int32 → Int32 → Int32 → Int32 → Int32 → Int32 → Int32 → Int32 → Int32 → Int32 → Int32 → Int32 → Int32 → (Nat → Int32) → (Nat → Int32) → (Nat → Int32) → (Nat → Int32) → (Nat → Int32) → Prop}
    {x1 : Int32} {p s l x : Nat} (hE : 2 ≤ E) (hE2 : E ≤ 255) (hF2 : 2 ≤ F) (hF : F ≤ 15) (hx : x ≤ 32) (hb : bl + qd_ext F E x ≤ 64)
    (h : J (nI (p + l + (K + x))) (nI (s + 1)) (nI n) (nI (bl + qd_ext F E x)) (nI ol) at0 (nI l) (nI x) fD (nI F) (nI E) (nI K) (nI T) S (qd_fill B bl (qd_xg F E x) (qd_ext F E x)) O R EN) :
    wY_encode_144 post J x1 (nI p) (nI s) (nI n) (nI bl) (nI ol) at0 (nI l) (nI x) fD (nI F) (nI E) (nI K) (nI T) S B O R EN := by
  unfold wY_encode_144
  refine qy_we hE hE2 hF2 hF hx hb (nm_r (e' := nI (p + l + (K + x))) ?_ (nm_r (nI_1 s) h))
  rw [nI_add, nI_add, nI_add]
  exact congrArg nI (by omega)
/-- a sequence's head and literals -/
theorem qy_head {post : Int32 → SY → Prop} {J : Int32 → Int32 → Int32 → Int32 → Int32 → Int32 → Int32 → Int32 → Int32 → Int32 → Int32 → Int32 → Int32 → (Nat → Int32) → (Nat → Int32) → (Nat → Int32) → (Nat → Int32) → (Nat → Int32) → Prop}
    {x1 : Int32} {p s l x : Nat} (hE : 2 ≤ E) (hE2 : E ≤ 255) (hF2 : 2 ≤ F) (hF : F ≤ 15) (hS : qd_by S) (hp : p + l ≤ 32) (hx : x ≤ 32) (hb : bl + qd_hd F E l ≤ 64)
    (h : ∀ f, wY_encode_82 post J x1 (nI p) (nI s) (f + 1) (nI l) (nI n) (nI (bl + qd_hd F E l)) (nI ol) at0 (nI l) (nI x) fD (nI F) (nI E) (nI K) (nI T) S (qw_head S F E B bl p l (16 * qw_fld F l + qw_fld F x)) O R EN) :
    wpY_field (fun r_38 => wpY_field (fun r_55 => ∀ x4 : Int32, x4 = 16 * r_38 + r_55 → wpY_feed (fun _ u => match u with
      | (a1, a2, a3, a4, a5, a6, a7, a8, a9, a10, a11, a12, a13, a14, a15, a16) => wpY_writeExtension (fun u => match u with
        | (b1, b2, b3, b4, b5, b6, b7, b8, b9, b10, b11, b12, b13, b14, b15, b16) => ∃ n82, wY_encode_82 post J x1 (nI p) (nI s) n82 0 b1 b2 b3 b4 b5 b6 b7 b8 b9 b10 b11 b12 b13 b14 b15 b16)
        (a1, a2, a3, a4, a5, a6, a7, a8, a9, a10, a11, a12, a13, a14, a15, a16) a5) (nI n, nI bl, nI ol, at0, nI l, nI x, fD, nI F, nI E, nI K, nI T, S, B, O, R, EN) x4) (nI n, nI bl, nI ol, at0, nI l, nI x, fD, nI F, nI E, nI K, nI T, S, B, O, R, EN) (nI x)) (nI n, nI bl, nI ol, at0, nI l, nI x, fD, nI F, nI E, nI K, nI T, S, B, O, R, EN) (nI l) := by
  have hh : qd_hd F E l = 1 + qd_ext F E l + l := rfl
  have e1 : bl + qd_hd F E l = bl + 1 + qd_ext F E l + l := by omega
  have f1 := qw_fld_le (F := F) (x := l)
  have f2 := qw_fld_le (F := F) (x := x)
  refine qy_fld hF (by omega) (qy_fld hF (by omega) (nm_r (e' := nI (16 * qw_fld F l + qw_fld F x)) ?_ (qy_feedb ⟨_, by omega, rfl⟩ (by omega) (qy_we hE hE2 hF2 hF (by omega) (by omega) ⟨l + 1, ?_⟩))))
  · rw [show (16 : Int32) * nI (qw_fld F l) = nI (16 * qw_fld F l) from pk_mul 16 _, nI_add]
  · rw [e1] at h
    have key := qy_e82 (bl := bl + 1 + qd_ext F E l) hS hp (by omega) h l 0 (by omega) (l + 1) (by omega)
    rw [qd_fill_0] at key
    exact key
theorem qy_e14 {post : Int32 → SY → Prop} {pc pl pm pd : Nat → Nat} {tot : Nat} (hE : 2 ≤ E) (hE2 : E ≤ 255) (hF2 : 2 ≤ F) (hF : F ≤ 15) (hK3 : 3 ≤ K) (hK : K ≤ 6) (hT8 : T ≤ 8) (hn : n ≤ 32) (hS : qd_by S)
    (hP : ∀ p, p ≤ n → qd_PL S n F E K T pc pl pm pd p) (hL : qd_Loc S n F E K T (qd_en EN) tot) (ht : tot ≤ 49) :
    ∀ g p s, p ≤ n → n - p < g → 3 * s ≤ p → ∀ bl B fL fX fD, bl + pc p = tot →
      (∀ fL fX fD, post (nI (qw S F E K pl pm pd g p bl B).1) (nI n, nI (qw S F E K pl pm pd g p bl B).1, nI ol, at0, fL, fX, fD, nI F, nI E, nI K, nI T, S, (qw S F E K pl pm pd g p bl B).2, O, R, EN)) →
      ∀ f, g < f → wY_encode_14 post (nI tot) f (nI p) (nI s) (nI n) (nI bl) (nI ol) at0 fL fX fD (nI F) (nI E) (nI K) (nI T) S B O R EN := by
  intro g
  induction g with
  | zero => intro p s hp hg; omega
  | succ g ih =>
    intro p s hp hg hs bl B fL fX fD hb h f hf
    obtain ⟨f, rfl⟩ : ∃ f', f = f' + 1 + 1 := ⟨f - 2, by omega⟩
    have q2 := (hP p hp).2.1
    refine br_f (nI_ge (b := 32) (by omega) (by decide)) (br_f (nI_ge (by omega) (by omega)) ?_)
    rw [pk_sub (by omega), show tot - bl = pc p by omega]
    refine qy_f hE hE2 hF2 hF hK3 hK hT8 hn (by omega) hp (fun l m hy hfirst => ?_) (fun hy hnone => ?_) (fun hy hnone => ?_)
    · obtain ⟨e1, e2, e3⟩ := qd_pick hP hL (by omega) hp (by omega) hy hfirst
      obtain ⟨hfe, hco⟩ := (qd_yok_iff hP hL (by omega) hp (by omega) l m).mp hy
      have k1 := hfe.1
      have k2 := hfe.2.1
      have k3 := hfe.2.2
      have hDl := qd_Dle S (p + l) m
      unfold qd_cost at hco
      have etok : 16 * qw_fld F l + qw_fld F (m - K) = qw_tok F K l m := by unfold qw_tok; rw [if_neg (by omega)]
      refine br_f (by decide) (qy_head hE hE2 hF2 hF hS (by omega) (by omega) (by omega) (fun f' => ?_))
      have ed : nI (qd_D S (p + l) m) / 256 = nI (qd_D S (p + l) m / 256) := pk_div (d := 256) (by omega) (by omega) (by omega)
      have er : nI (qd_D S (p + l) m) - nI (qd_D S (p + l) m) / 256 * 256 = nI (qd_D S (p + l) m % 256) := pk_rem (d := 256) (by omega) (by omega) (by omega)
      refine br_t (nI_le (by omega) (by omega)) (br_f (nI_nle (by omega) (by omega)) ⟨by decide, ?_⟩)
      refine qy_feedn er (by omega) (by omega) ⟨by decide, qy_feedn ed (by omega) (by omega) (qy_e144 hE hE2 hF2 hF (by omega) (by omega) ?_)⟩
      rw [show p + l + (K + (m - K)) = p + l + m by omega, show bl + qd_hd F E l + 1 + 1 + qd_ext F E (m - K) = bl + qd_hd F E l + (2 + qd_ext F E (m - K)) by omega, etok]
      refine ih (p + l + m) (s + 1) k2 (by omega) (by omega) _ _ _ _ _ (by omega) (fun fL fX fD => ?_) (f + 1) (by omega)
      have t := h fL fX fD
      rw [qw, if_neg (by omega), e1, e2, e3] at t
      exact t
    · obtain ⟨e1, e2, e3⟩ := qd_pickF hP hL (by omega) hp (by omega) hnone
      have etok : 16 * qw_fld F (n - p) + qw_fld F 0 = qw_tok F K (n - p) 0 := by
        unfold qw_tok
        rw [if_pos rfl, show qw_fld F 0 = 0 from if_pos (by omega)]
      refine br_f (by decide) (qy_head (x := 0) hE hE2 hF2 hF hS (by omega) (by omega) (by omega) (fun f' => ?_))
      refine br_t (nI_le (by omega) (by omega)) (br_t (by decide) (qy_e144 (x := 0) hE hE2 hF2 hF (by omega) (by rw [qd_ext_lt (by omega)]; omega) ?_))
      rw [qd_ext_lt (by omega), qd_fill_0, etok]
      have t := h (nI (n - p)) (nI 0) 0
      rw [qw, if_pos e2, e1, e2] at t
      have hh : bl + qd_hd F E (n - p) = tot := by omega
      have t2 : post (nI (bl + qd_hd F E (n - p))) (nI n, nI (bl + qd_hd F E (n - p)), nI ol, at0, nI (n - p), nI 0, 0, nI F, nI E, nI K, nI T, S, qw_head S F E B bl p (n - p) (qw_tok F K (n - p) 0), O, R, EN) := t
      exact br_c (fun _ => t2) (fun _ => br_t (nI_le (by omega) (by omega)) t2)
    · exfalso
      have hB := qd_B hP hL (by omega) (pc p) p hp rfl (by omega)
      rcases (hL p (pc p) hp q2 (by omega)).mp hB with z | ⟨l, m, z⟩
      · exact hy z
      · exact hnone l m z
end
