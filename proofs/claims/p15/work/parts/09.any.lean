/-! the class's methods with any argument: the state stays well formed; the law's own small methods -/
def qs_ok (n bl ol : Nat) (S B O R : Nat → Int32) : Prop := n ≤ 32 ∧ bl ≤ 64 ∧ ol ≤ 32 ∧ qd_by S ∧ qd_by B ∧ qd_by O ∧ qd_by R
abbrev qs_J9 : Type := Int32 → Int32 → Int32 → Int32 → Int32 → Int32 → Int32 → Int32 → Int32 → (Nat → Int32) → (Nat → Int32) → (Nat → Int32) → (Nat → Int32) → (Nat → Int32) → (Nat → Int32) → (Nat → Int32) → (Nat → Int32) → Prop
def qs_J (F E K T : Nat) (J : qs_J9) : Prop :=
  ∀ (n bl ol : Nat) (rl cu : Int32) (S B O R PC PL PM PD : Nat → Int32), qs_ok n bl ol S B O R → J (nI F) (nI E) (nI K) (nI T) (nI n) (nI bl) (nI ol) rl cu S B O R PC PL PM PD
theorem qs_pos {v : Int32} (h : 1 ≤ v) : ∃ j, 1 ≤ j ∧ j < 2 ^ 31 ∧ v = nI j := by
  have h0 : ¬ v < 0 := fun z => absurd (Int32.lt_of_le_of_lt (Int32.le_trans (show (0 : Int32) ≤ 1 by decide) h) z) Int32.lt_irrefl
  obtain ⟨j, hj, rfl⟩ := nI_of h0
  exact ⟨j, (nI_leI (a := 1) (by decide) hj).mp h, hj, rfl⟩
theorem qs_cell {post : Int32 → Prop} {L a : Nat} {xs : Nat → Int32} (hL : L ≤ 260) (ha : a < 1000000) (h : ∀ r, post r) : wpL_cell post L xs () (nI a) := by
  by_cases c : L ≤ a
  · exact br_t (nI_le c (by omega)) (h _)
  · exact br_f (nI_ge (by omega) (by omega)) ⟨vp_in_nI (by omega) (by omega), h _⟩
theorem qs_pick {post : Int32 → Prop} {p : Int32} {m : Nat} (hm : m < 1000000) (h : ∀ r, (r < m ∨ r = 0) → post (nI r)) : wpL_pick post () p (nI m) := by
  by_cases c : 1 ≤ m
  · obtain ⟨j, hj, e⟩ := pk_andE p (m := 2147483647) 31 (by decide)
    refine br_t (nI_le (a := 1) c (by omega)) ⟨nI_ne0 (by omega) (by omega), ?_⟩
    rw [e, pk_rem hj (by omega) (by omega)]
    exact h _ (Or.inl (Nat.mod_lt _ (by omega)))
  · refine br_f ?_ (h 0 (Or.inr rfl))
    have : m = 0 := by omega
    rw [this]
    decide
theorem qs_least {post : Int32 → Prop} {a b : Int32} (h : ∀ r, post r) : wpL_least post () a b := br_c (fun _ => h _) (fun _ => h _)
theorem qs_clamp {post : Int32 → Prop} {a lo hi : Nat} (h1 : lo ≤ a) (h2 : a ≤ hi) (hh : hi < 1000) (h : post (nI a)) : wpX_clamp post () (nI a) (nI lo) (nI hi) :=
  br_t (nI_le h1 (by omega)) (br_t (nI_le h2 (by omega)) h)
section
variable {F E K T n bl ol : Nat} {rl cu : Int32} {S B O R PC PL PM PD : Nat → Int32}
theorem qs_l0 {post : Int32 → Prop} (h : post (nI n)) : wpX_length post (nI F, nI E, nI K, nI T, nI n, nI bl, nI ol, rl, cu, S, B, O, R, PC, PL, PM, PD) 0 := by
  unfold wpX_length
  exact qx_ln (fun _ => h) (fun z => absurd z qi_01) (fun z => absurd z qi_02) (fun z => absurd rfl z)
theorem qs_l1 {post : Int32 → Prop} (h : post (nI bl)) : wpX_length post (nI F, nI E, nI K, nI T, nI n, nI bl, nI ol, rl, cu, S, B, O, R, PC, PL, PM, PD) 1 := by
  unfold wpX_length
  exact qx_ln (fun z => absurd z qi_10) (fun _ => h) (fun z => absurd z qi_12) (fun _ z => absurd rfl z)
theorem qs_l2 {post : Int32 → Prop} (h : post (nI ol)) : wpX_length post (nI F, nI E, nI K, nI T, nI n, nI bl, nI ol, rl, cu, S, B, O, R, PC, PL, PM, PD) 2 := by
  unfold wpX_length
  exact qx_ln (fun z => absurd z qi_20) (fun z => absurd z qi_21) (fun _ => h) (fun _ _ z => absurd rfl z)
theorem qs_ca {post : Int32 → Prop} {w i : Int32} (hn : n ≤ 32) (hb : bl ≤ 64) (ho : ol ≤ 32) (h : ∀ r, post r) : wpX_cellAt post (nI F, nI E, nI K, nI T, nI n, nI bl, nI ol, rl, cu, S, B, O, R, PC, PL, PM, PD) w i := by
  by_cases c : i < 0
  · exact br_t c (h _)
  · obtain ⟨j, hj, rfl⟩ := nI_of c
    refine br_f c (qx_ln (fun e => ?_) (fun e => ?_) (fun e => ?_) (fun e0 e1 e2 => ?_))
    · subst e
      by_cases c2 : j < n
      · exact br_t (nI_lt c2 (by omega)) (br_t rfl ⟨vp_in_nI (by omega) (by decide), h _⟩)
      · exact br_f (nI_nlt (by omega) hj) (h _)
    · subst e
      by_cases c2 : j < bl
      · exact br_t (nI_lt c2 (by omega)) (br_f qi_10 (br_t rfl ⟨vp_in_nI (by omega) (by decide), h _⟩))
      · exact br_f (nI_nlt (by omega) hj) (h _)
    · subst e
      by_cases c2 : j < ol
      · exact br_t (nI_lt c2 (by omega)) (br_f qi_20 (br_f qi_21 ⟨vp_in_nI (by omega) (by decide), h _⟩))
      · exact br_f (nI_nlt (by omega) hj) (h _)
    · exact br_f (fun z => c (Int32.lt_trans z (by decide))) (h _)
theorem qs_ca0 {post : Int32 → Prop} {j : Nat} (hn : n ≤ 32) (hj : j < n) (h : post (S j)) : wpX_cellAt post (nI F, nI E, nI K, nI T, nI n, nI bl, nI ol, rl, cu, S, B, O, R, PC, PL, PM, PD) 0 (nI j) := by
  refine br_f (nI_pos (by omega)) (qx_ln (fun _ => br_t (nI_lt hj (by omega)) (br_t rfl ⟨vp_in_nI (by omega) (by decide), ?_⟩)) (fun z => absurd z qi_01) (fun z => absurd z qi_02) (fun z => absurd rfl z))
  rw [qx_g (a := S)]
  exact h
theorem qs_ca2 {post : Int32 → Prop} {j : Nat} (ho : ol ≤ 32) (hj : j < ol) (h : post (O j)) : wpX_cellAt post (nI F, nI E, nI K, nI T, nI n, nI bl, nI ol, rl, cu, S, B, O, R, PC, PL, PM, PD) 2 (nI j) := by
  refine br_f (nI_pos (by omega)) (qx_ln (fun z => absurd z qi_20) (fun z => absurd z qi_21) (fun _ => br_t (nI_lt hj (by omega)) (br_f qi_20 (br_f qi_21 ⟨vp_in_nI (by omega) (by decide), ?_⟩))) (fun _ _ z => absurd rfl z))
  rw [qx_g (a := O)]
  exact h
theorem qs_fd {post : Int32 → St2 → Prop} {v : Int32} (hb : bl ≤ 64) (hB : qd_by B) (h : ∀ (r : Int32) (bl : Nat) (B : Nat → Int32), bl ≤ 64 → qd_by B → post r (nI F, nI E, nI K, nI T, nI n, nI bl, nI ol, rl, cu, S, B, O, R, PC, PL, PM, PD)) : wpX_feed post (nI F, nI E, nI K, nI T, nI n, nI bl, nI ol, rl, cu, S, B, O, R, PC, PL, PM, PD) v := by
  by_cases c : bl < 64
  · exact br_t (nI_lt (b := 64) c (by decide)) (qx_appB c (h _ _ _ c (qd_by_u' hB (qd_255 v))))
  · exact br_f (nI_nlt (b := 64) (by omega) (by omega)) (h _ _ _ hb hB)
theorem qs_put {post : Int32 → St2 → Prop} {v : Int32} (hn : n ≤ 32) (hS : qd_by S) (h : ∀ (r : Int32) (n : Nat) (S : Nat → Int32), n ≤ 32 → qd_by S → post r (nI F, nI E, nI K, nI T, nI n, nI bl, nI ol, rl, cu, S, B, O, R, PC, PL, PM, PD)) : wpX_put post (nI F, nI E, nI K, nI T, nI n, nI bl, nI ol, rl, cu, S, B, O, R, PC, PL, PM, PD) v := by
  by_cases c : n < 32
  · exact br_t (nI_lt (b := 32) c (by decide)) (qx_appS c (h _ _ _ c (qd_by_u' hS (qd_255 v))))
  · exact br_f (nI_nlt (b := 32) (by omega) (by omega)) (h _ _ _ hn hS)
theorem qs_rp {post : Int32 → St2 → Prop} {v w : Int32} (hn : n ≤ 32) (hS : qd_by S) (h : ∀ (r : Int32) (n : Nat) (S : Nat → Int32), n ≤ 32 → qd_by S → post r (nI F, nI E, nI K, nI T, nI n, nI bl, nI ol, rl, cu, S, B, O, R, PC, PL, PM, PD)) : wpX_repeat post (nI F, nI E, nI K, nI T, nI n, nI bl, nI ol, rl, cu, S, B, O, R, PC, PL, PM, PD) v w := by
  by_cases c : 1 ≤ w
  · obtain ⟨j, j1, j2, rfl⟩ := qs_pos c
    by_cases c2 : n + j ≤ 32
    · exact qx_rp j1 c2 (h _ _ _ c2 (qd_by_fill hS (fun _ _ => qd_255 v)))
    · exact qx_rpF j1 j2 hn (by omega) (h _ _ _ hn hS)
  · exact br_f c (h _ _ _ hn hS)
theorem qs_ec {post : Int32 → St2 → Prop} {v w : Int32} (hn : n ≤ 32) (hS : qd_by S) (h : ∀ (r : Int32) (n : Nat) (S : Nat → Int32), n ≤ 32 → qd_by S → post r (nI F, nI E, nI K, nI T, nI n, nI bl, nI ol, rl, cu, S, B, O, R, PC, PL, PM, PD)) : wpX_echo post (nI F, nI E, nI K, nI T, nI n, nI bl, nI ol, rl, cu, S, B, O, R, PC, PL, PM, PD) v w := by
  by_cases c0 : v < 1
  · exact br_t c0 (h _ _ _ hn hS)
  · obtain ⟨d, d1, d2, rfl⟩ := qs_pos (Int32.not_lt.mp c0)
    by_cases c1 : d ≤ n
    · by_cases c : 1 ≤ w
      · obtain ⟨j, j1, j2, rfl⟩ := qs_pos c
        by_cases c2 : n + j ≤ 32
        · exact qx_ec d1 c1 j1 c2 (h _ _ _ c2 (qr_by_copy hS _))
        · exact qx_ecF d1 c1 hn j1 j2 (by omega) (h _ _ _ hn hS)
      · exact br_f c0 (br_t (nI_le c1 (by omega)) (br_f c (h _ _ _ hn hS)))
    · exact br_f c0 (br_f (nI_ge (by omega) d2) (h _ _ _ hn hS))
theorem qs_cut {post : Int32 → St2 → Prop} {w : Int32} (hn : n ≤ 32) (h : ∀ (r : Int32) (n : Nat), n ≤ 32 → post r (nI F, nI E, nI K, nI T, nI n, nI bl, nI ol, rl, cu, S, B, O, R, PC, PL, PM, PD)) : wpX_cut post (nI F, nI E, nI K, nI T, nI n, nI bl, nI ol, rl, cu, S, B, O, R, PC, PL, PM, PD) 0 w := by
  by_cases c : w < 0
  · exact qx_cn c (h _ _ hn)
  · obtain ⟨j, hj, rfl⟩ := nI_of c
    exact qx_c0 hn hj (fun z => h _ _ (by omega)) (fun _ => h _ _ hn)
theorem qs_cutb {post : Int32 → St2 → Prop} (hb : bl ≤ 64) (h : ∀ (r : Int32) (bl : Nat), bl ≤ 64 → post r (nI F, nI E, nI K, nI T, nI n, nI bl, nI ol, rl, cu, S, B, O, R, PC, PL, PM, PD)) : wpX_cut post (nI F, nI E, nI K, nI T, nI n, nI bl, nI ol, rl, cu, S, B, O, R, PC, PL, PM, PD) 1 0 :=
  qx_c1 (j := 0) hb (by decide) (fun _ => h _ _ (by decide)) (fun _ => h _ _ hb)
theorem qs_pk {post : Int32 → St2 → Prop} {v w : Int32} (hb : bl ≤ 64) (hB : qd_by B) (h : ∀ (r : Int32) (B : Nat → Int32), qd_by B → post r (nI F, nI E, nI K, nI T, nI n, nI bl, nI ol, rl, cu, S, B, O, R, PC, PL, PM, PD)) : wpX_poke post (nI F, nI E, nI K, nI T, nI n, nI bl, nI ol, rl, cu, S, B, O, R, PC, PL, PM, PD) v w := by
  by_cases c : v < 0
  · exact br_t c (h _ _ hB)
  · obtain ⟨j, hj, rfl⟩ := nI_of c
    by_cases c2 : j < bl
    · have hv : vp_in (nI j) 64 := vp_in_nI (by omega) (by decide)
      exact br_f c (br_t (nI_lt c2 (by omega)) ⟨hv, nm_e ⟨hv, nm_e (h _ _ (qd_by_u' hB (qd_255 w)))⟩⟩)
    · exact br_f c (br_f (nI_nlt (by omega) hj) (h _ _ hB))
theorem qs_ad {post : Int32 → St2 → Prop} (ho : ol ≤ 32) (hS : qd_by S) (hO : qd_by O) (h : ∀ (r : Int32) (n : Nat) (S : Nat → Int32), n ≤ 32 → qd_by S → post r (nI F, nI E, nI K, nI T, nI n, nI bl, nI ol, rl, cu, S, B, O, R, PC, PL, PM, PD)) : wpX_adopt post (nI F, nI E, nI K, nI T, nI n, nI bl, nI ol, rl, cu, S, B, O, R, PC, PL, PM, PD) :=
  qx_ad ho (h _ _ _ ho (qd_by_fill hS (fun i _ => hO i)))
theorem qs_de {post : Int32 → St2 → Prop} (hB : qd_by B) (hO : qd_by O) (hR : qd_by R) (hb : bl ≤ 64) (ho : ol ≤ 32) (hE2 : E ≤ 255) (hF : F ≤ 15) (hK : K ≤ 6) (hT8 : T ≤ 8)
    (h : ∀ (r : Int32) (ol : Nat) (rl cu : Int32) (O R : Nat → Int32), ol ≤ 32 → qd_by O → qd_by R → post r (nI F, nI E, nI K, nI T, nI n, nI bl, nI ol, rl, cu, S, B, O, R, PC, PL, PM, PD)) : wpX_decode post (nI F, nI E, nI K, nI T, nI n, nI bl, nI ol, rl, cu, S, B, O, R, PC, PL, PM, PD) := by
  have hw := qr_read_b (bl := bl) (F := F) (E := E) (K := K) (T := T) hB (bl + 1) 0 0 0 R (by omega) hR
  generalize hW : qr_read B bl F E K T (bl + 1) 0 0 0 R = W at hw
  obtain ⟨c, len, R'⟩ := W
  obtain ⟨w1, w2, w3⟩ := hw
  dsimp only at w1 w2 w3
  exact qx_de hB hR hb hE2 hF hK hT8 hW (fun _ cu => h _ _ _ _ _ _ w2 (qd_by_fill hO (fun i _ => w3 i)) w3) (fun _ cu => h _ _ _ _ _ _ ho hO w3)
end
