/-! the law's loops -/
theorem qs_cell' {post : Int32 → Prop} {L a : Nat} {xs : Nat → Int32} {p : Int32} (e : p = nI a) (hL : L ≤ 260) (ha : a < 1000000) (h : ∀ r, post r) : wpL_cell post L xs () p := by
  rw [e]
  exact qs_cell hL ha h
theorem qs_pick' {post : Int32 → Prop} {p p1 : Int32} {m : Nat} (e : p1 = nI m) (hm : m < 1000000) (h : ∀ r, (r < m ∨ r = 0) → post (nI r)) : wpL_pick post () p p1 := by
  rw [e]
  exact qs_pick hm h
theorem qs_least32 {post : Int32 → Prop} {n : Nat} (hn : n ≤ 32) (h : post (nI n)) : wpL_least post () (nI n) 32 := by
  by_cases c : n = 32
  · rw [c] at h ⊢
    exact br_c (fun _ => h) (fun _ => h)
  · exact br_f (nI_ge (b := 32) (by omega) (by decide)) h
section
variable {F E K T n bl ol : Nat} {rl cu : Int32} {S B O R PC PL PM PD : Nat → Int32}
variable {post : Int32 → Prop} {L : Nat} {xs : Nat → Int32} {J85 : Int32 → qs_J9} {J304 : Int32 → Int32 → qs_J9} {x1 x3 x4 x5 x7 : Int32} {v kc ks : Nat}
theorem ql_766 {z0 z1 : Int32} (hE : 2 ≤ E) (hE2 : E ≤ 255) (hF2 : 2 ≤ F) (hF : F ≤ 15) (hK3 : 3 ≤ K) (hK : K ≤ 6) (hT8 : T ≤ 8) (hs : qs_ok n bl ol S B O R)
    (hJ : qs_J F E K T (J304 x7 (nI (v + 1)))) : wL_law_766 post L xs J85 J304 x1 x3 x4 x5 x7 (nI v) z0 z1 kc ks (nI F) (nI E) (nI K) (nI T) (nI n) (nI bl) (nI ol) rl cu S B O R PC PL PM PD := by
  obtain ⟨s1, s2, s3, s4, s5, s6, s7⟩ := hs
  unfold wL_law_766
  exact qs_pk s2 s5 (fun r B hB => qs_de hB s6 s7 s2 s3 hE2 hF hK hT8 (fun r' ol rl cu O R ho hO hR => br_c (fun _ => qc_784 hE hE2 hF2 hF hK3 hK hT8 ⟨s1, s2, ho, s4, hB, hO, hR⟩ hJ) (fun _ => qs_ad ho s4 hO (fun r'' n S hn hS => qc_784 hE hE2 hF2 hF hK3 hK hT8 ⟨hn, s2, ho, hS, hB, hO, hR⟩ hJ))))
theorem ql_304 {a : Nat} (hL : L ≤ 260) (ha : a ≤ 900) (hE : 2 ≤ E) (hE2 : E ≤ 255) (hF2 : 2 ≤ F) (hF : F ≤ 15) (hK3 : 3 ≤ K) (hK : K ≤ 6) (hT8 : T ≤ 8)
    (h85 : a + 2 < L → qs_J F E K T (J85 (nI (a + 2)))) (hp : post 1) :
    ∀ k v, v + k = 3 → ∀ f, k + 1 < f → qs_J F E K T (wL_law_304 post L xs J85 (nI F) (nI E) (nI K) (nI T) kc ks f (nI a) (nI v)) := by
  intro k
  induction k with
  | zero =>
    intro v hv f hf n bl ol rl cu S B O R PC PL PM PD hs
    obtain ⟨f, rfl⟩ : ∃ f', f = f' + 1 + 1 := ⟨f - 2, by omega⟩
    have e : v = 3 := by omega
    subst e
    have hend : qs_J F E K T (wL_law_304 post L xs J85 (nI F) (nI E) (nI K) (nI T) kc ks (f + 1) (nI (a + 2)) (nI (3 + 1))) := by
      intro n bl ol rl cu S B O R PC PL PM PD hs
      refine br_t (by decide) ?_
      by_cases c : a + 2 < L
      · exact br_t (nI_lt c (by omega)) (h85 c n bl ol rl cu S B O R PC PL PM PD hs)
      · exact br_f (nI_nlt (by omega) (by omega)) hp
    have hs' := hs
    obtain ⟨s1, s2, s3, s4, s5, s6, s7⟩ := hs
    refine br_f (by decide) (br_t (by decide) (qs_cell hL (by omega) (fun r97 => qs_l1 (qs_pick (by omega) (fun r99 _ => qs_cell' (nI_1 a) hL (by omega) (fun r100 => nm_r (e' := nI (a + 2)) (nI_add a 2) ?_))))))
    exact br_c (fun _ => qs_ca s1 s2 s3 (fun r => ql_766 hE hE2 hF2 hF hK3 hK hT8 hs' hend)) (fun _ => ql_766 hE hE2 hF2 hF hK3 hK hT8 hs' hend)
  | succ k ih =>
    intro v hv f hf n bl ol rl cu S B O R PC PL PM PD hs
    obtain ⟨f, rfl⟩ : ∃ f', f = f' + 1 := ⟨f - 1, by omega⟩
    have hJ := ih (v + 1) (by omega) f (by omega)
    obtain ⟨s1, s2, s3, s4, s5, s6, s7⟩ := hs
    refine br_f (nI_ge (b := 4) (by omega) (by decide)) (br_f (nI_ge (b := 3) (by omega) (by decide)) (qs_l0 (qs_least32 s1 (qs_cutb s2 (fun r bl hb => ⟨n + 2, ?_⟩)))))
    refine qf_346 hL (by omega) (by omega) hE hE2 hF hK3 hK hT8 s1 s3 (fun bl B hb hB => ?_) (n + 2) 0 0 bl B (by omega) (by omega) (by omega) hb s5
    unfold wL_law_700
    exact qc_784 hE hE2 hF2 hF hK3 hK hT8 ⟨s1, hb, s3, s4, hB, s6, s7⟩ hJ
theorem ql_139 {a1 : Nat} (hL : L ≤ 260) (ha : a1 ≤ 900)
    (h304 : ∃ f, qs_J F E K T (wL_law_304 post L xs J85 x1 x3 x4 x5 kc ks f (nI a1) 0)) :
    ∀ k j a, j + k = 6 → a + 2 * k = a1 → ∀ f, k < f → qs_J F E K T (wL_law_139 post L xs J85 x1 x3 x4 x5 kc ks f (nI a) (nI j)) := by
  intro k
  induction k with
  | zero =>
    intro j a hj ha1 f hf n bl ol rl cu S B O R PC PL PM PD hs
    obtain ⟨f, rfl⟩ : ∃ f', f = f' + 1 := ⟨f - 1, by omega⟩
    obtain ⟨fu, h⟩ := h304
    have e : a = a1 := by omega
    subst e
    exact br_t (nI_le (a := 6) (by omega) (by omega)) ⟨fu, h n bl ol rl cu S B O R PC PL PM PD hs⟩
  | succ k ih =>
    intro j a hj ha1 f hf n bl ol rl cu S B O R PC PL PM PD hs
    obtain ⟨f, rfl⟩ : ∃ f', f = f' + 1 := ⟨f - 1, by omega⟩
    obtain ⟨s1, s2, s3, s4, s5, s6, s7⟩ := hs
    have key : ∀ (n : Nat) (S : Nat → Int32), n ≤ 32 → qd_by S → wL_law_139 post L xs J85 x1 x3 x4 x5 kc ks f (nI (a + 2)) (nI (j + 1)) (nI F) (nI E) (nI K) (nI T) (nI n) (nI bl) (nI ol) rl cu S B O R PC PL PM PD :=
      fun n S hn hS => ih (j + 1) (a + 2) (by omega) (by omega) f (by omega) n bl ol rl cu S B O R PC PL PM PD ⟨hn, s2, s3, hS, s5, s6, s7⟩
    refine br_f (nI_ge (b := 6) (by omega) (by decide)) (qs_cell hL (by omega) (fun r688 => qs_cell' (nI_1 a) hL (by omega) (fun r689 => nm_r (e' := nI (a + 2)) (nI_add a 2) (qs_l0 (nm_e (nm_e ?_))))))
    refine br_c (fun _ => ?_) (fun _ => br_c (fun _ => ?_) (fun _ => br_c (fun _ => ?_) (fun _ => ?_)))
    · exact qs_pick (m := 3) (by decide) (fun r _ => qs_put s1 s4 (fun r' n S hn hS => nm_r (nI_1 j) (key n S hn hS)))
    · exact qs_put s1 s4 (fun r' n S hn hS => nm_r (nI_1 j) (key n S hn hS))
    · exact qs_pick (m := 3) (by decide) (fun r _ => qs_pick (m := 12) (by decide) (fun r' _ => qs_least (fun r'' => qs_rp s1 s4 (fun r3 n S hn hS => nm_r (nI_1 j) (key n S hn hS)))))
    · exact qs_pick (m := n) (by omega) (fun r _ => qs_pick (m := 14) (by decide) (fun r' _ => qs_least (fun r'' => qs_ec s1 s4 (fun r3 n S hn hS => nm_r (nI_1 j) (key n S hn hS)))))
theorem ql_85 (hL : L ≤ 260) (hE : 2 ≤ E) (hE2 : E ≤ 255) (hF2 : 2 ≤ F) (hF : F ≤ 15) (hK3 : 3 ≤ K) (hK : K ≤ 6) (hT8 : T ≤ 8) (hp : post 1) :
    ∀ f a, 1 ≤ f → L < a + f → a ≤ 400 → qs_J F E K T (wL_law_85 post L xs (nI F) (nI E) (nI K) (nI T) kc ks f (nI a)) := by
  intro f
  induction f with
  | zero => intro a h1; omega
  | succ f ih =>
    intro a h1 hf ha n bl ol rl cu S B O R PC PL PM PD hs
    have hs' := hs
    obtain ⟨s1, s2, s3, s4, s5, s6, s7⟩ := hs
    have h304 : ∃ fu, qs_J F E K T (wL_law_304 post L xs (wL_law_85 post L xs (nI F) (nI E) (nI K) (nI T) kc ks f) (nI F) (nI E) (nI K) (nI T) kc ks fu (nI (a + 13)) 0) :=
      ⟨5, ql_304 (a := a + 13) hL (by omega) hE hE2 hF2 hF hK3 hK hT8 (fun c => ih (a + 13 + 2) (by omega) (by omega) (by omega)) hp 3 0 (by omega) 5 (by omega)⟩
    have h139 : qs_J F E K T (wL_law_139 post L xs (wL_law_85 post L xs (nI F) (nI E) (nI K) (nI T) kc ks f) (nI F) (nI E) (nI K) (nI T) kc ks 7 (nI (a + 1)) 0) :=
      ql_139 (a1 := a + 13) hL (by omega) h304 6 0 (a + 1) (by omega) (by omega) 7 (by omega)
    have h118 : ∀ x8 : Int32, wL_law_118 post L xs (wL_law_85 post L xs (nI F) (nI E) (nI K) (nI T) kc ks f) (nI F) (nI E) (nI K) (nI T) (nI (a + 1)) x8 (nI n) kc ks (nI F) (nI E) (nI K) (nI T) (nI n) (nI bl) (nI ol) rl cu S B O R PC PL PM PD := by
      intro x8
      unfold wL_law_118
      exact qs_pick' (nI_1 n) (by omega) (fun r _ => qs_cut s1 (fun r' n hn => ⟨7, h139 n bl ol rl cu S B O R PC PL PM PD ⟨hn, s2, s3, s4, s5, s6, s7⟩⟩))
    exact nm_r (nI_1 a) (qs_cell hL (by omega) (fun r55 => qs_l0 (br_c (fun _ => h118 r55) (fun _ => br_c (fun _ => h118 r55) (fun _ => ⟨7, h139 n bl ol rl cu S B O R PC PL PM PD hs'⟩)))))
theorem ql_37 {z : Nat} {z1 : Int32} (hL : L ≤ 260) (hF2 : 2 ≤ F) (hF : F ≤ 15) (hz1 : 1 ≤ z) (hz : z ≤ 254) (hp : post 1) : wL_law_37 post L xs (nI F) (nI z) z1 2 0 0 := by
  unfold wL_law_37
  refine qs_pick (by omega) (fun e he => nm_r (e' := nI (2 + e)) (nI_add 2 e) (qs_cell (a := 2) hL (by decide) (fun r8 => qs_pick (m := 4) (by decide) (fun k hk => nm_r (e' := nI (3 + k)) (nI_add 3 k) (qs_cell (a := 3) hL (by decide) (fun r11 => qs_pick (m := 9) (by decide) (fun t ht => ?_)))))))
  refine ⟨by decide, by decide, 8, 292, by decide, by decide, ?_⟩
  refine ⟨by decide, by decide, by decide, by decide, by decide, by decide, by decide, by decide, by decide, by decide, by decide, by decide, by decide, by decide, by decide, by decide, ?_⟩
  refine qs_clamp (lo := 2) (hi := 15) hF2 hF (by decide) (qs_clamp (lo := 2) (hi := 255) (by omega) (by omega) (by decide) (qs_clamp (lo := 3) (hi := 6) (by omega) (by omega) (by decide) (qs_clamp (lo := 0) (hi := 8) (by omega) (by omega) (by decide) ?_)))
  exact ⟨L + 1, ql_85 hL (by omega) (by omega) hF2 hF (by omega) (by omega) (by omega) hp (L + 1) 4 (by omega) (by omega) (by omega) 0 0 0 0 0 _ _ _ _ _ _ _ _ ⟨by decide, by decide, by decide, qd_by_0, qd_by_0, qd_by_0, qd_by_0⟩⟩
end
theorem i_vc (xs : Nat → Int32) (L : Nat) (hL : L ≤ 260) : wpL_law (fun r => r = 1) L xs := by
  unfold wpL_law
  exact qs_cell (a := 0) hL (by decide) (fun r1 => qs_pick (m := 14) (by decide) (fun f hf => nm_r (e' := nI (2 + f)) (nI_add 2 f) (qs_cell (a := 1) hL (by decide) (fun r4 =>
    br_c (fun _ => ql_37 (z := 254) hL (by omega) (by omega) (by decide) (by decide) rfl) (fun _ => ql_37 (z := 6) hL (by omega) (by omega) (by decide) (by decide) rfl)))))
