/-! the component's writer -/
section
variable {F E K T n bl ol : Nat} {rl cu : Int32} {S B O R PC PL PM PD : Nat → Int32}
theorem qx_appB {post : St2 → Prop} {c : Int32} (hb : bl < 64) (h : post (nI F, nI E, nI K, nI T, nI n, nI (bl + 1), nI ol, rl, cu, S, upd B bl c, O, R, PC, PL, PM, PD)) : wpX_appendToBlock post (nI F, nI E, nI K, nI T, nI n, nI bl, nI ol, rl, cu, S, B, O, R, PC, PL, PM, PD) c :=
  br_f (nI_ge (b := 64) hb (by decide)) ⟨vp_in_nI hb (by decide), nm_r qx_u (nm_r (nI_1 bl) h)⟩
theorem qx_fld {post : Int32 → Prop} {x : Nat} (hF : F ≤ 15) (hx : x < 1000000) (h : post (nI (qw_fld F x))) : wpX_field post (nI F, nI E, nI K, nI T, nI n, nI bl, nI ol, rl, cu, S, B, O, R, PC, PL, PM, PD) (nI x) := by
  by_cases c : F ≤ x
  · rw [show qw_fld F x = F from if_neg (by omega)] at h
    exact br_t (nI_le c (by omega)) h
  · rw [show qw_fld F x = x from if_pos (by omega)] at h
    exact br_f (nI_ge (by omega) (by omega)) h
theorem qx_we26 {post : St2 → Prop} {x : Nat} (hE : 2 ≤ E) (hE2 : E ≤ 255) (hF : F ≤ 15) (hx : x < 1000000) (hFx : F ≤ x) (hb : bl + qd_ext F E x ≤ 64)
    (h : post (nI F, nI E, nI K, nI T, nI n, nI (bl + qd_ext F E x), nI ol, rl, cu, S, qd_fill B bl (qd_xg F E x) (qd_ext F E x), O, R, PC, PL, PM, PD)) :
    ∀ k i, i + k = (x - F) / E → ∀ f, k < f → wX_writeExtension_26 post (nI (x - F)) (nI ((x - F) / E)) f (nI i) (nI F) (nI E) (nI K) (nI T) (nI n) (nI (bl + i)) (nI ol) rl cu S (qd_fill B bl (qd_xg F E x) i) O R PC PL PM PD := by
  have ee := qd_ext_ge (E := E) hFx
  intro k
  induction k with
  | zero =>
    intro i hi f hf
    obtain ⟨f, rfl⟩ : ∃ f', f = f' + 1 := ⟨f - 1, by omega⟩
    refine br_t (nI_le (by omega) (by omega)) ⟨nI_ne0 (by omega) (by omega), ?_⟩
    rw [pk_rem (by omega) (by omega) (by omega)]
    refine qx_appB (by omega) ?_
    have e : qd_xg F E x i = nI ((x - F) % E) := if_neg (by omega)
    have e2 : qd_ext F E x = i + 1 := by omega
    rw [← e, qd_fill_s]
    rw [e2] at h
    exact h
  | succ k ih =>
    intro i hi f hf
    obtain ⟨f, rfl⟩ : ∃ f', f = f' + 1 := ⟨f - 1, by omega⟩
    refine br_f (nI_ge (by omega) (by omega)) (qx_appB (by omega) (nm_r (nI_1 i) ?_))
    have e : qd_xg F E x i = nI E := if_pos (by omega)
    have key := ih (i + 1) (by omega) f (by omega)
    rw [← qd_fill_s, e] at key
    exact key
theorem qx_we {post : St2 → Prop} {x : Nat} (hE : 2 ≤ E) (hE2 : E ≤ 255) (hF : F ≤ 15) (hx : x < 1000000) (hb : bl + qd_ext F E x ≤ 64)
    (h : post (nI F, nI E, nI K, nI T, nI n, nI (bl + qd_ext F E x), nI ol, rl, cu, S, qd_fill B bl (qd_xg F E x) (qd_ext F E x), O, R, PC, PL, PM, PD)) : wpX_writeExtension post (nI F, nI E, nI K, nI T, nI n, nI bl, nI ol, rl, cu, S, B, O, R, PC, PL, PM, PD) (nI x) := by
  by_cases c : F ≤ x
  · have key := qx_we26 (T := T) (K := K) (n := n) (ol := ol) (rl := rl) (cu := cu) (S := S) (O := O) (R := R) (PC := PC) (PL := PL) (PM := PM) (PD := PD) hE hE2 hF hx c hb h ((x - F) / E) 0 (by omega) ((x - F) / E + 1) (by omega)
    rw [qd_fill_0] at key
    exact br_t (nI_le c (by omega)) (nm_r (pk_sub c) ⟨nI_ne0 (by omega) (by omega), nm_r (pk_div (by omega) (by omega) (by omega)) ⟨_, key⟩⟩)
  · rw [qd_ext_lt (by omega), qd_fill_0] at h
    exact br_f (nI_ge (by omega) (by omega)) h
theorem qx_wl61 {post : St2 → Prop} {p l : Nat} (hp : p + l ≤ 32) (hb : bl + l ≤ 64) (h : post (nI F, nI E, nI K, nI T, nI n, nI (bl + l), nI ol, rl, cu, S, qd_fill B bl (fun i => S (p + i)) l, O, R, PC, PL, PM, PD)) :
    ∀ k i, i + k = l → ∀ f, k < f → wX_writeLiterals_61 post (nI p) (nI l) f (nI (p + i)) (nI F) (nI E) (nI K) (nI T) (nI n) (nI (bl + i)) (nI ol) rl cu S (qd_fill B bl (fun i => S (p + i)) i) O R PC PL PM PD := by
  intro k
  induction k with
  | zero =>
    intro i hi f hf
    obtain ⟨f, rfl⟩ : ∃ f', f = f' + 1 := ⟨f - 1, by omega⟩
    have e : nI p + nI l ≤ nI (p + i) := by rw [nI_add]; exact nI_le (by omega) (by omega)
    have e2 : i = l := by omega
    rw [← e2] at h
    exact br_t e h
  | succ k ih =>
    intro i hi f hf
    obtain ⟨f, rfl⟩ : ∃ f', f = f' + 1 := ⟨f - 1, by omega⟩
    have e : ¬ nI p + nI l ≤ nI (p + i) := by rw [nI_add]; exact nI_ge (by omega) (by omega)
    refine br_f e ⟨vp_in_nI (by omega) (by decide), ?_⟩
    rw [qx_g (a := S)]
    refine qx_appB (by omega) (nm_r (nI_1 (p + i)) ?_)
    have key := ih (i + 1) (by omega) f (by omega)
    rw [← qd_fill_s] at key
    exact key
theorem qx_wl32 {post : St2 → Prop} {p l z : Nat} (hE : 2 ≤ E) (hE2 : E ≤ 255) (hF : F ≤ 15) (hp : p + l ≤ 32) (hb : bl + qd_hd F E l ≤ 64)
    (h : post (nI F, nI E, nI K, nI T, nI n, nI (bl + qd_hd F E l), nI ol, rl, cu, S, qw_head S F E B bl p l (16 * qw_fld F l + z), O, R, PC, PL, PM, PD)) :
    wX_writeLiterals_32 post (nI p) (nI l) (nI z) (nI F) (nI E) (nI K) (nI T) (nI n) (nI bl) (nI ol) rl cu S B O R PC PL PM PD := by
  have hh : qd_hd F E l = 1 + qd_ext F E l + l := rfl
  have e1 : bl + qd_hd F E l = bl + 1 + qd_ext F E l + l := by omega
  unfold wX_writeLiterals_32
  refine qx_fld hF (by omega) (nm_r (e' := nI (16 * qw_fld F l + z)) ?_ (qx_appB (by omega) (qx_we hE hE2 hF (by omega) (by omega) ⟨l + 1, ?_⟩)))
  · rw [show (16 : Int32) * nI (qw_fld F l) = nI (16 * qw_fld F l) from pk_mul 16 _, nI_add]
  · rw [e1] at h
    have key := qx_wl61 (bl := bl + 1 + qd_ext F E l) (by omega) (by omega) h l 0 (by omega) (l + 1) (by omega)
    rw [qd_fill_0] at key
    exact key
theorem qx_wl {post : St2 → Prop} {p l m : Nat} (hE : 2 ≤ E) (hE2 : E ≤ 255) (hF : F ≤ 15) (hp : p + l ≤ 32) (hL : PL p = nI l) (hM : PM p = nI m) (hm : m = 0 ∨ (K ≤ m ∧ m ≤ 32))
    (hb : bl + qd_hd F E l ≤ 64) (h : post (nI F, nI E, nI K, nI T, nI n, nI (bl + qd_hd F E l), nI ol, rl, cu, S, qw_head S F E B bl p l (qw_tok F K l m), O, R, PC, PL, PM, PD)) : wpX_writeLiterals post (nI F, nI E, nI K, nI T, nI n, nI bl, nI ol, rl, cu, S, B, O, R, PC, PL, PM, PD) (nI p) := by
  have hv : vp_in (nI p) 33 := vp_in_nI (by omega) (by decide)
  refine ⟨hv, nm_r (e' := nI l) (by rw [qx_g (a := PL), hL]) ⟨hv, nm_r (e' := nI m) (by rw [qx_g (a := PM), hM]) ?_⟩⟩
  by_cases m0 : m = 0
  · have e : qw_tok F K l m = 16 * qw_fld F l + 0 := by unfold qw_tok; rw [if_pos m0]
    rw [e] at h
    exact br_t (by rw [m0]; rfl) (qx_wl32 hE hE2 hF hp hb h)
  · have e : qw_tok F K l m = 16 * qw_fld F l + qw_fld F (m - K) := by unfold qw_tok; rw [if_neg m0]
    rw [e] at h
    refine br_f (nI_ne0 (by omega) (by omega)) ?_
    rw [pk_sub (by omega)]
    exact qx_fld hF (by omega) (qx_wl32 hE hE2 hF hp hb h)
theorem qx_wm {post : St2 → Prop} {p m d : Nat} (hE : 2 ≤ E) (hE2 : E ≤ 255) (hF : F ≤ 15) (hp : p ≤ 32) (hM : PM p = nI m) (hD : PD p = nI d) (hm : K ≤ m) (hm2 : m ≤ 32) (hd : d ≤ 32)
    (hb : bl + (2 + qd_ext F E (m - K)) ≤ 64) (h : post (nI F, nI E, nI K, nI T, nI n, nI (bl + (2 + qd_ext F E (m - K))), nI ol, rl, cu, S, qw_mat F E B bl d (m - K), O, R, PC, PL, PM, PD)) : wpX_writeMatch post (nI F, nI E, nI K, nI T, nI n, nI bl, nI ol, rl, cu, S, B, O, R, PC, PL, PM, PD) (nI p) := by
  have hv : vp_in (nI p) 33 := vp_in_nI (by omega) (by decide)
  have n256 : ¬ (256 : Int32) = 0 := by decide
  have e1 : bl + (2 + qd_ext F E (m - K)) = bl + 1 + 1 + qd_ext F E (m - K) := by omega
  have ed : nI d / 256 = nI (d / 256) := pk_div (d := 256) (by omega) (by omega) (by omega)
  have er : nI d - nI d / 256 * 256 = nI (d % 256) := pk_rem (d := 256) (by omega) (by omega) (by omega)
  refine ⟨hv, nm_r (e' := nI d) (by rw [qx_g (a := PD), hD]) ⟨n256, ?_⟩⟩
  rw [er, ed]
  refine qx_appB (by omega) ⟨n256, qx_appB (by omega) ⟨hv, ?_⟩⟩
  rw [qx_g (a := PM), hM, pk_sub hm]
  rw [e1] at h
  exact qx_we hE hE2 hF (by omega) (by omega) h
theorem qx_wp9 {post : St2 → Prop} {pc pl pm pd : Nat → Nat} (hE : 2 ≤ E) (hE2 : E ≤ 255) (hF2 : 2 ≤ F) (hF : F ≤ 15) (hK3 : 3 ≤ K) (hn : n ≤ 32)
    (ht : qx_tab F E K T n S PC PL PM PD pc pl pm pd 0) :
    ∀ g p s, p ≤ n → pc p < 1000000 → n - p < g → 3 * s ≤ p → ∀ bl B, bl + pc p ≤ 64 → post (nI F, nI E, nI K, nI T, nI n, nI (qw S F E K pl pm pd g p bl B).1, nI ol, rl, cu, S, (qw S F E K pl pm pd g p bl B).2, O, R, PC, PL, PM, PD) →
      wX_writePlan_9 post g (nI p) (nI s) (nI F) (nI E) (nI K) (nI T) (nI n) (nI bl) (nI ol) rl cu S B O R PC PL PM PD := by
  intro g
  induction g with
  | zero => intro p s hp hc hg; omega
  | succ g ih =>
    intro p s hp hc hg hs bl B hb h
    obtain ⟨h1, h2, h3, h4, hP⟩ := ht p (by omega) hp
    have hv : vp_in (nI p) 33 := vp_in_nI (by omega) (by decide)
    refine br_f (nI_ge (b := 33) (by omega) (by decide)) ⟨hv, nm_r (e' := nI (pm p)) (by rw [qx_g (a := PM), h3]) ?_⟩
    rw [qw] at h
    rcases hP.2.2.2.2 with q5 | ⟨g1, g2, g3, g4, _⟩ | ⟨g1, g2, g3, g4, _⟩
    · omega
    · rw [if_pos g1] at h
      refine qx_wl hE hE2 hF (by omega) h2 h3 (Or.inl g1) (by rw [g2, ← g4]; exact hb) (br_t (by rw [g1]; rfl) h)
    · have k1 := g1.1
      have k2 := g1.2.1
      have hd := qd_Dle S (p + pl p) (pm p)
      rw [if_neg (by omega)] at h
      unfold qd_cost at g3
      refine qx_wl hE hE2 hF (by omega) h2 h3 (Or.inr ⟨k1, by omega⟩) (by omega) (br_f (nI_ne0 (by omega) (by omega)) ?_)
      refine qx_wm hE hE2 hF (by omega) h3 h4 k1 (by omega) (by omega) (by omega) ⟨hv, nm_r (e' := nI (p + pl p + pm p)) ?_ (nm_r (nI_1 s) ?_)⟩
      · rw [qx_g (a := PL), h2, nI_add, nI_add]
        exact congrArg nI (by omega)
      · exact ih _ (s + 1) k2 (by omega) (by omega) (by omega) _ _ (by omega) h
theorem qx_wp {post : St2 → Prop} {pc pl pm pd : Nat → Nat} (hE : 2 ≤ E) (hE2 : E ≤ 255) (hF2 : 2 ≤ F) (hF : F ≤ 15) (hK3 : 3 ≤ K) (hn : n ≤ 32)
    (ht : qx_tab F E K T n S PC PL PM PD pc pl pm pd 0) (hc : pc 0 ≤ 64)
    (h : post (nI F, nI E, nI K, nI T, nI n, nI (qw S F E K pl pm pd 33 0 0 B).1, nI ol, rl, cu, S, (qw S F E K pl pm pd 33 0 0 B).2, O, R, PC, PL, PM, PD)) : wpX_writePlan post (nI F, nI E, nI K, nI T, nI n, nI bl, nI ol, rl, cu, S, B, O, R, PC, PL, PM, PD) :=
  ⟨33, qx_wp9 hE hE2 hF2 hF hK3 hn ht 33 0 0 (by omega) (by omega) (by omega) (by omega) 0 B (by omega) h⟩
end
