/-! the component's planner -/
theorem qx_u {a : Nat → Int32} {k : Nat} {c : Int32} (h : k < 2 ^ 31 := by omega) : upd a (nI k).toNatClampNeg c = upd a k c := by rw [nI_clamp h]
theorem qx_g {a : Nat → Int32} {k : Nat} (h : k < 2 ^ 31 := by omega) : a (nI k).toNatClampNeg = a k := by rw [nI_clamp h]
theorem qx_uu {a : Nat → Int32} {k : Nat} {x y : Int32} (h : k < 2 ^ 31 := by omega) : upd (upd a k x) (nI k).toNatClampNeg y = upd a k y := by rw [nI_clamp h, qd_uu]
theorem qx_lim {n p K l : Nat} (hp : p ≤ n) (hn : n ≤ 32) (hK : K ≤ 6) (hl : l ≤ 64) : nI n - nI p - nI K < nI l ↔ n - p + 1 - K ≤ l := by
  rw [pk_sub hp, Int32.lt_iff_toInt_lt, pk_sub_toInt (by omega) (by omega), nI_toInt (by omega)]
  omega
section
variable {F E K T n bl ol : Nat} {rl cu : Int32} {S B O R PC PL PM PD : Nat → Int32}
theorem qx_ext {post : Int32 → Prop} {x : Nat} (hE : 2 ≤ E) (hE2 : E ≤ 255) (hF : F ≤ 15) (hx : x < 1000000) (h : post (nI (qd_ext F E x))) : wpX_extensionLength post (nI F, nI E, nI K, nI T, nI n, nI bl, nI ol, rl, cu, S, B, O, R, PC, PL, PM, PD) (nI x) := by
  by_cases c : F ≤ x
  · refine br_t (nI_le c (by omega)) ⟨nI_ne0 (by omega) (by omega), ?_⟩
    rw [pk_sub c, pk_div (by omega) (by omega) (by omega), nI_1]
    rw [qd_ext_ge c] at h
    exact h
  · refine br_f (nI_ge (by omega) (by omega)) ?_
    rw [qd_ext_lt (by omega)] at h
    exact h
theorem qx_rep3 {post : Int32 → Prop} {q m d : Nat} (hq : q + m ≤ 32) (hd : d ≤ q) (h1 : qd_rep S q m d → post 1) (h0 : ¬ qd_rep S q m d → post 0) :
    ∀ k i, i + k = m → (∀ j, j < i → S (q + j) = S (q + j - d)) → ∀ f, k < f → wX_repeatsAt_3 post (nI q) (nI m) (nI d) (nI F) (nI E) (nI K) (nI T) (nI n) (nI bl) (nI ol) rl cu S B O R PC PL PM PD f (nI (q + i)) := by
  intro k
  induction k with
  | zero =>
    intro i hi hr f hf
    obtain ⟨f, rfl⟩ : ∃ f', f = f' + 1 := ⟨f - 1, by omega⟩
    have e : nI q + nI m ≤ nI (q + i) := by rw [nI_add]; exact nI_le (by omega) (by omega)
    exact br_t e (h1 (fun j hj => hr j (by omega)))
  | succ k ih =>
    intro i hi hr f hf
    obtain ⟨f, rfl⟩ : ∃ f', f = f' + 1 := ⟨f - 1, by omega⟩
    have e : ¬ nI q + nI m ≤ nI (q + i) := by rw [nI_add]; exact nI_ge (by omega) (by omega)
    have es : nI (q + i) - nI d = nI (q + i - d) := pk_sub (by omega)
    refine br_f e ⟨vp_in_nI (by omega) (by decide), by rw [es]; exact vp_in_nI (by omega) (by decide), ?_⟩
    rw [es, nI_clamp (by omega), nI_clamp (by omega)]
    by_cases c : S (q + i) = S (q + i - d)
    · exact br_t c (nm_r (nI_1 _) (ih (i + 1) (by omega) (lt_s hr c) f (by omega)))
    · exact br_f c (h0 (fun z => c (z i (by omega))))
theorem qx_rep {post : Int32 → Prop} {q m d : Nat} (hq : q + m ≤ 32) (hd : d ≤ q) (h1 : qd_rep S q m d → post 1) (h0 : ¬ qd_rep S q m d → post 0) :
    wpX_repeatsAt post (nI F, nI E, nI K, nI T, nI n, nI bl, nI ol, rl, cu, S, B, O, R, PC, PL, PM, PD) (nI q) (nI m) (nI d) :=
  ⟨m + 1, qx_rep3 hq hd h1 h0 m 0 (by omega) lt_0 (m + 1) (by omega)⟩
theorem qx_nd2 {post : Int32 → Prop} {q m : Nat} (hq : q + m ≤ 32) (h : post (nI (qd_D S q m))) :
    ∀ k d, d + k = q + 1 → 1 ≤ d → (∀ e, 1 ≤ e → e < d → ¬ qd_rep S q m e) → ∀ f, k < f → wX_nearestDistance_2 post (nI q) (nI m) (nI F) (nI E) (nI K) (nI T) (nI n) (nI bl) (nI ol) rl cu S B O R PC PL PM PD f (nI d) := by
  intro k
  induction k with
  | zero =>
    intro d hd h1 hr f hf
    obtain ⟨f, rfl⟩ : ∃ f', f = f' + 1 := ⟨f - 1, by omega⟩
    have e : qd_D S q m = 0 := qd_De (Or.inl ⟨rfl, fun e g1 g2 => hr e g1 (by omega)⟩)
    rw [e] at h
    exact br_t (nI_lt (by omega) (by omega)) h
  | succ k ih =>
    intro d hd h1 hr f hf
    obtain ⟨f, rfl⟩ : ∃ f', f = f' + 1 := ⟨f - 1, by omega⟩
    refine br_f (nI_nlt (by omega) (by omega)) (qx_rep hq (by omega) (fun y => ?_) (fun y => ?_))
    · have e : qd_D S q m = d := qd_De (Or.inr ⟨h1, by omega, y, hr⟩)
      rw [e] at h
      exact br_f (by decide) h
    · refine br_t rfl (nm_r (nI_1 d) (ih (d + 1) (by omega) (by omega) (fun e g1 g2 => ?_) f (by omega)))
      by_cases c : e = d
      · rw [c]; exact y
      · exact hr e g1 (by omega)
theorem qx_nd {post : Int32 → Prop} {q m : Nat} (hq : q + m ≤ 32) (h : post (nI (qd_D S q m))) : wpX_nearestDistance post (nI F, nI E, nI K, nI T, nI n, nI bl, nI ol, rl, cu, S, B, O, R, PC, PL, PM, PD) (nI q) (nI m) :=
  ⟨q + 2, qx_nd2 hq h q 1 (by omega) (by omega) (fun e g1 g2 => absurd g2 (by omega)) (q + 2) (by omega)⟩
theorem qx_cost_le {pc : Nat → Nat} {p l m : Nat} (hE : 2 ≤ E) (hF : 2 ≤ F) (hl : l ≤ 32) (hm : m ≤ 32) (hc : pc (p + l + m) ≤ 1000000) : qd_cost F E K pc p l m ≤ 1000100 := by
  have h1 := qd_hd49 (F := F) (l := l) hE hF hl
  have h2 := qd_ext16 (F := F) (E := E) (x := m - K) hE hF (by omega)
  unfold qd_cost
  omega
theorem qx_pm23 {post : St2 → Prop} {p l : Nat} {pc : Nat → Nat} (hE : 2 ≤ E) (hE2 : E ≤ 255) (hF2 : 2 ≤ F) (hF : F ≤ 15) (hK3 : 3 ≤ K) (hK : K ≤ 6) (hn : n ≤ 32)
    (hT : ∀ j, p < j → j ≤ n → PC j = nI (pc j) ∧ pc j ≤ 1000000)
    (hpost : ∀ mm c a b d, mm < K → qd_best S n F E K pc p l mm c a b d → post (nI F, nI E, nI K, nI T, nI n, nI bl, nI ol, rl, cu, S, B, O, R, upd PC p (nI c), upd PL p (nI a), upd PM p (nI b), upd PD p (nI d))) :
    ∀ k mm, mm + 1 = k + K → p + l + mm ≤ n → ∀ c a b d, qd_best S n F E K pc p l mm c a b d → ∀ f, k < f →
      wX_planMatches_23 post (nI p) (nI l) (nI (p + l)) (nI (qd_hd F E l)) (nI F) (nI E) (nI K) (nI T) (nI n) (nI bl) (nI ol) rl cu f (nI mm) S B O R (upd PC p (nI c)) (upd PL p (nI a)) (upd PM p (nI b)) (upd PD p (nI d)) := by
  intro k
  induction k with
  | zero =>
    intro mm hm hp c a b d hb f hf
    obtain ⟨f, rfl⟩ : ∃ f', f = f' + 1 := ⟨f - 1, by omega⟩
    exact br_t (nI_lt (by omega) (by omega)) (hpost mm c a b d (by omega) hb)
  | succ k ih =>
    intro mm hm hp c a b d hb f hf
    obtain ⟨f, rfl⟩ : ∃ f', f = f' + 1 := ⟨f - 1, by omega⟩
    have hc1 := hb.1
    obtain ⟨t1, t2⟩ := hT (p + l + mm) (by omega) (by omega)
    have hcost := qx_cost_le (F := F) (E := E) (K := K) (pc := pc) (p := p) (l := l) (m := mm) hE hF2 (by omega) (by omega) t2
    have ei : nI (p + l) + nI mm = nI (p + l + mm) := nI_add _ _
    refine br_f (nI_nlt (by omega) (by omega)) ?_
    rw [pk_sub (show K ≤ mm by omega)]
    refine qx_ext hE hE2 hF (by omega) ?_
    refine nm_r (nI_add 2 _) ⟨by rw [ei]; exact vp_in_nI (by omega) (by decide), nm_r (e' := nI (qd_cost F E K pc p l mm)) ?_ ⟨vp_in_nI (by omega) (by decide), ?_⟩⟩
    · rw [ei, nI_clamp (by omega), pk_un (by omega), t1, nI_add, nI_add]
      rfl
    · have eu : upd PC p (nI c) (nI p).toNatClampNeg = nI c := by rw [nI_clamp (by omega), pk_us]
      rw [eu]
      by_cases hc : c ≤ qd_cost F E K pc p l mm
      · exact br_t (nI_le hc (by omega)) (nm_r (sb_m1 (by omega)) (ih (mm - 1) (by omega) (by omega) c a b d (qd_best_skip hb (by omega) (by omega)) f (by omega)))
      · refine br_f (nI_ge (by omega) (by omega)) (qx_nd (by omega) ?_)
        have hDl := qd_Dle S (p + l) mm
        by_cases hD : qd_D S (p + l) mm = 0
        · rw [hD]
          exact br_t (by decide) (nm_r (sb_m1 (by omega)) (ih (mm - 1) (by omega) (by omega) c a b d (qd_best_skip hb (by omega) (by omega)) f (by omega)))
        · have hv : vp_in (nI p) 33 := vp_in_nI (by omega) (by decide)
          have hh := ih (mm - 1) (by omega) (by omega) _ _ _ _ (qd_best_take hb (by omega) hp (by omega) (by omega) (by omega)) f (by omega)
          exact br_f (nI_nle (by omega) (by omega)) ⟨hv, nm_r qx_uu ⟨hv, nm_r qx_uu ⟨hv, nm_r qx_uu ⟨hv, nm_r qx_uu (nm_r (sb_m1 (by omega)) hh)⟩⟩⟩⟩
theorem qx_pm {post : St2 → Prop} {p l c a b d : Nat} {pc : Nat → Nat} (hE : 2 ≤ E) (hE2 : E ≤ 255) (hF2 : 2 ≤ F) (hF : F ≤ 15) (hK3 : 3 ≤ K) (hK : K ≤ 6) (hn : n ≤ 32)
    (hT : ∀ j, p < j → j ≤ n → PC j = nI (pc j) ∧ pc j ≤ 1000000) (hl : p + l + K ≤ n) (hb : qd_best S n F E K pc p l (n - p - l) c a b d)
    (hpost : ∀ mm c a b d, mm < K → qd_best S n F E K pc p l mm c a b d → post (nI F, nI E, nI K, nI T, nI n, nI bl, nI ol, rl, cu, S, B, O, R, upd PC p (nI c), upd PL p (nI a), upd PM p (nI b), upd PD p (nI d))) :
    wpX_planMatches post (nI F, nI E, nI K, nI T, nI n, nI bl, nI ol, rl, cu, S, B, O, R, upd PC p (nI c), upd PL p (nI a), upd PM p (nI b), upd PD p (nI d)) (nI p) (nI l) := by
  refine nm_r (nI_add p l) (qx_ext hE hE2 hF (by omega) (nm_r (e' := nI (qd_hd F E l)) ?_ (nm_r (e' := nI (n - p - l)) ?_ ⟨n + 2, ?_⟩)))
  · rw [show (1 : Int32) + nI (qd_ext F E l) = nI (1 + qd_ext F E l) from nI_add 1 _, nI_add]
    rfl
  · rw [pk_sub (by omega)]
    exact congrArg nI (by omega)
  · exact qx_pm23 hE hE2 hF2 hF hK3 hK hn hT hpost (n - p - l + 1 - K) (n - p - l) (by omega) (by omega) c a b d hb (n + 2) (by omega)
theorem qx_pf20 {post : St2 → Prop} {p l0 m0 c a b d : Nat} {pc pl pm pd : Nat → Nat} (hE : 2 ≤ E) (hE2 : E ≤ 255) (hF2 : 2 ≤ F) (hF : F ≤ 15) (hK3 : 3 ≤ K) (hn : n ≤ 32) (hp : p ≤ n)
    (hb : qd_best S n F E K pc p l0 m0 c a b d) (hl : n < p + l0 + K) (hf : qd_fin n T p)
    (hpost : ∀ c a b d, qd_PL S n F E K T (qd_at pc p c) (qd_at pl p a) (qd_at pm p b) (qd_at pd p d) p → post (nI F, nI E, nI K, nI T, nI n, nI bl, nI ol, rl, cu, S, B, O, R, upd PC p (nI c), upd PL p (nI a), upd PM p (nI b), upd PD p (nI d))) :
    wX_planFinal_20 post (nI p) (nI (n - p)) (nI F) (nI E) (nI K) (nI T) (nI n) (nI bl) (nI ol) rl cu S B O R (upd PC p (nI c)) (upd PL p (nI a)) (upd PM p (nI b)) (upd PD p (nI d)) := by
  have h49 := qd_hd49 (F := F) (E := E) (l := n - p) hE hF2 (by omega)
  have hc1 := hb.1
  have hv : vp_in (nI p) 33 := vp_in_nI (by omega) (by decide)
  unfold wX_planFinal_20
  refine qx_ext hE hE2 hF (by omega) (nm_r (e' := nI (qd_hd F E (n - p))) ?_ ⟨hv, ?_⟩)
  · rw [show (1 : Int32) + nI (qd_ext F E (n - p)) = nI (1 + qd_ext F E (n - p)) from nI_add 1 _, nI_add]
    rfl
  · have eu : upd PC p (nI c) (nI p).toNatClampNeg = nI c := by rw [nI_clamp (by omega), pk_us]
    rw [eu]
    by_cases hc : c ≤ qd_hd F E (n - p)
    · exact br_t (nI_le hc (by omega)) (hpost c a b d (qd_PL_best hb hl (by omega) (fun _ => hc)))
    · exact br_f (nI_ge (by omega) (by omega)) ⟨hv, nm_r qx_uu ⟨hv, nm_r qx_uu ⟨hv, nm_r qx_uu ⟨hv, nm_r qx_uu (hpost _ _ _ _ (qd_PL_fin hb hl (by omega) hf (by omega)))⟩⟩⟩⟩
theorem qx_pf {post : St2 → Prop} {p l0 m0 c a b d : Nat} {pc pl pm pd : Nat → Nat} (hE : 2 ≤ E) (hE2 : E ≤ 255) (hF2 : 2 ≤ F) (hF : F ≤ 15) (hK3 : 3 ≤ K) (hT8 : T ≤ 8) (hn : n ≤ 32) (hp : p ≤ n)
    (hb : qd_best S n F E K pc p l0 m0 c a b d) (hl : n < p + l0 + K)
    (hpost : ∀ c a b d, qd_PL S n F E K T (qd_at pc p c) (qd_at pl p a) (qd_at pm p b) (qd_at pd p d) p → post (nI F, nI E, nI K, nI T, nI n, nI bl, nI ol, rl, cu, S, B, O, R, upd PC p (nI c), upd PL p (nI a), upd PM p (nI b), upd PD p (nI d))) :
    wpX_planFinal post (nI F, nI E, nI K, nI T, nI n, nI bl, nI ol, rl, cu, S, B, O, R, upd PC p (nI c), upd PL p (nI a), upd PM p (nI b), upd PD p (nI d)) (nI p) := by
  refine nm_r (pk_sub hp) ?_
  by_cases h0 : p = 0
  · refine br_t (by rw [h0]; decide) (qx_pf20 hE hE2 hF2 hF hK3 hn hp hb hl (Or.inl h0) hpost)
  · refine br_f (nI_nle (by omega) (by omega)) ?_
    by_cases ht : T ≤ n - p
    · exact br_t (nI_le ht (by omega)) (qx_pf20 hE hE2 hF2 hF hK3 hn hp hb hl (Or.inr ht) hpost)
    · refine br_f (nI_ge (by omega) (by omega)) (hpost c a b d (qd_PL_best hb hl (by omega) (fun z => ?_)))
      unfold qd_fin at z
      omega
theorem qx_ps31 {post : St2 → Prop} {J : Int32 → Int32 → Int32 → Int32 → Int32 → Int32 → Int32 → Int32 → Int32 → Int32 → (Nat → Int32) → (Nat → Int32) → (Nat → Int32) → (Nat → Int32) → (Nat → Int32) → (Nat → Int32) → (Nat → Int32) → (Nat → Int32) → Prop}
    {p : Nat} {pc pl pm pd : Nat → Nat} (hE : 2 ≤ E) (hE2 : E ≤ 255) (hF2 : 2 ≤ F) (hF : F ≤ 15) (hK3 : 3 ≤ K) (hK : K ≤ 6) (hT8 : T ≤ 8) (hn : n ≤ 32) (hp : p ≤ n)
    (hT : ∀ j, p < j → j ≤ n → PC j = nI (pc j) ∧ pc j ≤ 1000000)
    (hJ : ∀ c a b d, qd_PL S n F E K T (qd_at pc p c) (qd_at pl p a) (qd_at pm p b) (qd_at pd p d) p → J (nI p + (-1)) (nI F) (nI E) (nI K) (nI T) (nI n) (nI bl) (nI ol) rl cu S B O R (upd PC p (nI c)) (upd PL p (nI a)) (upd PM p (nI b)) (upd PD p (nI d))) :
    ∀ k l, l + k = n - p + 1 - K → ∀ c a b d, qd_best S n F E K pc p l (n - p - l) c a b d → ∀ f, k < f →
      wX_planSource_31 post J (nI p) (nI n - nI p - nI K) f (nI l) (nI F) (nI E) (nI K) (nI T) (nI n) (nI bl) (nI ol) rl cu S B O R (upd PC p (nI c)) (upd PL p (nI a)) (upd PM p (nI b)) (upd PD p (nI d)) := by
  intro k
  induction k with
  | zero =>
    intro l hl c a b d hb f hf
    obtain ⟨f, rfl⟩ : ∃ f', f = f' + 1 := ⟨f - 1, by omega⟩
    refine br_t ((qx_lim hp hn hK (by omega)).mpr (by omega)) ?_
    exact qx_pf hE hE2 hF2 hF hK3 hT8 hn hp hb (by omega) (fun c a b d h => nm_e (hJ c a b d h))
  | succ k ih =>
    intro l hl c a b d hb f hf
    obtain ⟨f, rfl⟩ : ∃ f', f = f' + 1 := ⟨f - 1, by omega⟩
    refine br_f (fun z => absurd ((qx_lim hp hn hK (by omega)).mp z) (by omega)) ?_
    exact qx_pm hE hE2 hF2 hF hK3 hK hn hT (by omega) hb (fun mm c a b d hm hb' => nm_r (nI_1 l) (ih (l + 1) (by omega) c a b d (qd_best_next hb' hm (by omega)) f (by omega)))
/-- tables from k on hold the plan -/
def qx_tab (F E K T n : Nat) (S PC PL PM PD : Nat → Int32) (pc pl pm pd : Nat → Nat) (k : Nat) : Prop :=
  ∀ j, k ≤ j → j ≤ n → PC j = nI (pc j) ∧ PL j = nI (pl j) ∧ PM j = nI (pm j) ∧ PD j = nI (pd j) ∧ qd_PL S n F E K T pc pl pm pd j
theorem qx_tab_s {p c a b d : Nat} {pc pl pm pd : Nat → Nat} (h : qx_tab F E K T n S PC PL PM PD pc pl pm pd (p + 1))
    (hP : qd_PL S n F E K T (qd_at pc p c) (qd_at pl p a) (qd_at pm p b) (qd_at pd p d) p) :
    qx_tab F E K T n S (upd PC p (nI c)) (upd PL p (nI a)) (upd PM p (nI b)) (upd PD p (nI d)) (qd_at pc p c) (qd_at pl p a) (qd_at pm p b) (qd_at pd p d) p := by
  intro j hj hn
  by_cases e : j = p
  · subst e
    rw [pk_us, pk_us, pk_us, pk_us, qd_at_s, qd_at_s, qd_at_s, qd_at_s]
    exact ⟨rfl, rfl, rfl, rfl, hP⟩
  · obtain ⟨h1, h2, h3, h4, h5⟩ := h j (by omega) hn
    rw [pk_un e, pk_un e, pk_un e, pk_un e, qd_at_n e, qd_at_n e, qd_at_n e, qd_at_n e]
    exact ⟨h1, h2, h3, h4, qd_PL_at (by omega) h5⟩
theorem qx_ps5 {post : St2 → Prop} (hE : 2 ≤ E) (hE2 : E ≤ 255) (hF2 : 2 ≤ F) (hF : F ≤ 15) (hK3 : 3 ≤ K) (hK : K ≤ 6) (hT8 : T ≤ 8) (hn : n ≤ 32)
    (hpost : ∀ PC PL PM PD pc pl pm pd, qx_tab F E K T n S PC PL PM PD pc pl pm pd 0 → post (nI F, nI E, nI K, nI T, nI n, nI bl, nI ol, rl, cu, S, B, O, R, PC, PL, PM, PD)) :
    ∀ k, k ≤ n + 1 → ∀ PC PL PM PD pc pl pm pd, qx_tab F E K T n S PC PL PM PD pc pl pm pd k → ∀ f, k < f → wX_planSource_5 post f (nI k + (-1)) (nI F) (nI E) (nI K) (nI T) (nI n) (nI bl) (nI ol) rl cu S B O R PC PL PM PD := by
  intro k
  induction k with
  | zero =>
    intro hk PC PL PM PD pc pl pm pd h f hf
    obtain ⟨f, rfl⟩ : ∃ f', f = f' + 1 := ⟨f - 1, by omega⟩
    exact br_t (by decide) (hpost PC PL PM PD pc pl pm pd h)
  | succ p ih =>
    intro hk PC PL PM PD pc pl pm pd h f hf
    obtain ⟨f, rfl⟩ : ∃ f', f = f' + 1 := ⟨f - 1, by omega⟩
    rw [pk_m1]
    refine br_f (nI_pos (by omega)) ⟨vp_in_nI (by omega) (by decide), nm_r (e' := upd PC p (nI 1000000)) ?_ (nm_e ⟨n + 2, ?_⟩)⟩
    · rw [nI_clamp (by omega)]
      rfl
    · obtain ⟨a, ha⟩ := qd_of32 (PL p)
      obtain ⟨b, hb⟩ := qd_of32 (PM p)
      obtain ⟨d, hd⟩ := qd_of32 (PD p)
      have key := qx_ps31 (post := post) (J := wX_planSource_5 post f) (F := F) (E := E) (K := K) (T := T) (n := n) (bl := bl) (ol := ol) (rl := rl) (cu := cu) (S := S) (B := B) (O := O) (R := R) (PC := PC) (PL := PL) (PM := PM) (PD := PD)
        (p := p) (pc := pc) (pl := pl) (pm := pm) (pd := pd) hE hE2 hF2 hF hK3 hK hT8 hn (by omega) (fun j h1 h2 => ⟨(h j (by omega) h2).1, (h j (by omega) h2).2.2.2.2.1⟩)
        (fun c a b d hP => ih (by omega) _ _ _ _ _ _ _ _ (qx_tab_s h hP) f (by omega)) (n - p + 1 - K) 0 (by omega) 1000000 a b d (qd_best_0 (by omega)) (n + 2) (by omega)
      rw [← ha, ← hb, ← hd, qd_ue, qd_ue, qd_ue] at key
      exact key
theorem qx_ps {post : St2 → Prop} (hE : 2 ≤ E) (hE2 : E ≤ 255) (hF2 : 2 ≤ F) (hF : F ≤ 15) (hK3 : 3 ≤ K) (hK : K ≤ 6) (hT8 : T ≤ 8) (hn : n ≤ 32)
    (hpost : ∀ PC PL PM PD pc pl pm pd, qx_tab F E K T n S PC PL PM PD pc pl pm pd 0 → post (nI F, nI E, nI K, nI T, nI n, nI bl, nI ol, rl, cu, S, B, O, R, PC, PL, PM, PD)) : wpX_planSource post (nI F, nI E, nI K, nI T, nI n, nI bl, nI ol, rl, cu, S, B, O, R, PC, PL, PM, PD) := by
  have key := qx_ps5 (bl := bl) (ol := ol) (rl := rl) (cu := cu) (B := B) (O := O) (R := R) hE hE2 hF2 hF hK3 hK hT8 hn hpost (n + 1) (by omega) PC PL PM PD (fun _ => 0) (fun _ => 0) (fun _ => 0) (fun _ => 0) (fun j h1 h2 => absurd h1 (by omega)) (n + 2) (by omega)
  rw [pk_m1] at key
  exact ⟨_, key⟩
end
