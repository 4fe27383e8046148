/-! WRITING THE FACTS' PART (writeFacts) -/
/-- only the table's size and cells, and the fresh tape's own cells, are others -/
def fT (m m' : xw_M) (p : Int) : Prop := (∀ a, (a < 302 ∨ 336 < a) → (a < 517 ∨ 523 < a) → m' a = m a) ∧ (∀ k, k ≠ 8 → m' 302 k = m 302 k) ∧ (∀ q, 0 ≤ q → q < p → bW (m' 517) q = bW (m 517) q)
theorem fT_refl (m : xw_M) (p : Int) : fT m m p := ⟨fun _ _ _ => rfl, fun _ _ => rfl, fun _ _ _ => rfl⟩
theorem fT_trans {m m1 m2 : xw_M} {p p1 : Int} (h : fT m m1 p) (h2 : fT m1 m2 p1) (hp : p ≤ p1) : fT m m2 p := ⟨fun a h1 h3 => (h2.1 a h1 h3).trans (h.1 a h1 h3), fun k hk => (h2.2.1 k hk).trans (h.2.1 k hk), fun q h0 hq => (h2.2.2 q h0 (by omega)).trans (h.2.2 q h0 hq)⟩
theorem fw_fT {m m' : xw_M} {p : Int} (h : fw m m' p) : fT m m' p := ⟨fun a _ h2 => h.1 a h2, fun k _ => by rw [h.1 302 (by omega)], h.2⟩
/-- the tape stands at p, or is over, and more than there is room for was asked -/
def tst (B : Nat) (m : xw_M) (p : Int) : Prop := (ws B m p ∧ p ≤ 64 * (B * 512 : Nat)) ∨ (ov B m ∧ 64 * (B * 512 : Nat) < p)
theorem w64_xR (m : xw_M) (a k : Int) : w64 (xR m a k) = xR m a k := w64_32 (w32_xR m a k)
/-- the facts' table of a row of facts -/
def Tfac (m : xw_M) (r D : Int) (o : Int → Int) (c k : Int) : Int := if c < D then xR m (r + 3 + c) (o k) else xJ m (r + 12 + (c - D)) (o k)
theorem Tfac_w (m : xw_M) (r D : Int) (o : Int → Int) : cwd (Tfac m r D o) := fun c i => by
  unfold Tfac
  split
  · exact w64_xR _ _ _
  · exact w64_xJ _ _ _
section WF
variable {B : Nat} {m : xw_M} {r W cap D M n : Int}
/-- a segment's cells are filled -/
theorem fill_seg (hr : rwo r W cap) (hD : 0 ≤ D ∧ D ≤ 8) (hM : 0 ≤ M ∧ M ≤ 8) (hn : 0 ≤ n ∧ n ≤ cap) (ho : prm (xR m (r + 12 + W)) n) {m1 : xw_M} (h1 : ∀ a, a < 302 ∨ 336 < a → m1 a = m a ∨ (517 ≤ a ∧ a ≤ 523)) (h5 : xR m1 302 5 = D) (h32 : xR m 3 2 = M) {x from' sz : Int} (hx : x = 518) (hfrom : 0 ≤ from') (hsz : 0 ≤ sz ∧ sz ≤ 1024) (hle : from' + sz ≤ n) (h8 : xR m1 302 8 = sz)
    {r13 : Int → Int → Int → xw_M → xP} {Q : Int → xw_M → Prop} {X : Nat → xw_M → Prop}
    (fin : ∀ m', (∀ a, a < 304 ∨ 336 < a → m' a = m1 a) → (∀ c i, 0 ≤ c → c < D + M → 0 ≤ i → i < sz → xJ m' (304 + c) i = Tfac m r D (xR m (r + 12 + W)) c (from' + i)) → xH (xB (yf182 B x m') fun _ m2 => r13 r x (w32 (from' + 1024)) m2) Q X) :
    xH (xl4 (yl181_47 B r13) 1000000 r x from' 0 m1) Q X := by
  have hb := rw_b hr
  obtain ⟨f1, ⟨f2, f3, f4, f5, f6⟩, ⟨f7, f8, f9, f10, f11⟩, ⟨f12, f13, f14, f15, f16⟩⟩ := rw_f B hr
  generalize hof : xR m (r + 12 + W) = o at *
  have rR : ∀ a, 373 ≤ a → a < 503 → m1 a = m a := fun a q1 q2 => (h1 a (by omega)).resolve_right (by omega)
  refine xl4_rule (F := yl181_47 B r13) (fun x0 x1 x2 x3 m' => x0 = r ∧ x1 = x ∧ x2 = from' ∧ 0 ≤ x3 ∧ x3 ≤ sz ∧ (∀ a, a < 304 ∨ 336 < a → m' a = m1 a) ∧ ∀ c i, 0 ≤ c → c < D + M → 0 ≤ i → i < x3 → xJ m' (304 + c) i = Tfac m r D o c (from' + i)) (fun _ _ _ x3 _ => (sz - x3).toNat) ?_ 1000000 r x from' 0 m1 ⟨rfl, rfl, rfl, by omega, by omega, fun _ _ => rfl, fun c i q1 q2 q3 q4 => by omega⟩ (by omega)
  intro q x0 x1 x2 x3 m2 ⟨a0, a1, a2, a3, a4, F2, V2⟩ ih
  subst a0 a1 a2
  have r8 : xR m2 302 8 = sz := by rw [xR_cg (F2 302 (by omega))]; exact h8
  have ro : xR m2 (x0 + 12 + W) = o := by rw [xR_cg (F2 _ (by omega)), xR_cg (rR _ (by omega) (by omega)), hof]
  unfold yl181_47
  rw [r8]
  by_cases hi : x3 < sz
  · have hoi := ho.1 (x2 + x3) (by omega) (by omega)
    rw [if_pos hi, if_pos f1, f4, f12, if_pos ⟨by omega, by omega⟩, if_pos f7, ro]
    -- the measures' row
    have meas : ∀ m3, (∀ a, a < 304 ∨ 336 < a → m3 a = m1 a) → (∀ c i, 0 ≤ c → c < D + M → 0 ≤ i → i < x3 → xJ m3 (304 + c) i = Tfac m x0 D o c (x2 + i)) → (∀ c, 0 ≤ c → c < D → xJ m3 (304 + c) x3 = Tfac m x0 D o c (x2 + x3)) → xH (xl6 (yl181_109 B r13 q) 1000000 x0 x1 x2 x3 (o (x2 + x3)) 0 m3) Q X := by
      intro m3 F3 V3 D3
      refine xl6_rule (F := yl181_109 B r13 q) (fun y0 y1 y2 y3 y4 y5 m' => y0 = x0 ∧ y1 = x1 ∧ y2 = x2 ∧ y3 = x3 ∧ y4 = o (x2 + x3) ∧ 0 ≤ y5 ∧ y5 ≤ M ∧ (∀ a, a < 304 ∨ 336 < a → m' a = m1 a) ∧ (∀ c i, 0 ≤ c → c < D + M → 0 ≤ i → i < x3 → xJ m' (304 + c) i = Tfac m x0 D o c (x2 + i)) ∧ ∀ c, 0 ≤ c → c < D + y5 → xJ m' (304 + c) x3 = Tfac m x0 D o c (x2 + x3)) (fun _ _ _ _ _ y5 _ => (M - y5).toNat) ?_ 1000000 x0 x1 x2 x3 (o (x2 + x3)) 0 m3 ⟨rfl, rfl, rfl, rfl, rfl, by omega, by omega, F3, V3, fun c q1 q2 => D3 c q1 (by omega)⟩ (by omega)
      intro q' y0 y1 y2 y3 y4 y5 m4 ⟨b0, b1, b2, b3, b4, b5, b6, F4, V4, D4⟩ ih'
      subst b0 b1 b2 b3 b4
      have s32 : xR m4 3 2 = M := by rw [xR_cg (F4 3 (by omega)), xR_cg ((h1 3 (by omega)).resolve_right (by omega))]; exact h32
      have s5 : xR m4 302 5 = D := by rw [xR_cg (F4 302 (by omega))]; exact h5
      unfold yl181_109
      rw [s32, s5]
      by_cases hm : y5 < M
      · obtain ⟨g1, g2, g3, g4⟩ := rw_a B hr (d := y5) b5 (by omega)
        obtain ⟨ob1, ob2⟩ := ce_ob (B := B) (c := D + y5) (by omega) (by omega)
        have ra : xJ m4 (y0 + 12 + y5) = xJ m (y0 + 12 + y5) := by rw [xJ_cg (F4 _ (by omega)), xJ_cg (rR _ (by omega) (by omega))]
        rw [if_pos hm, if_pos ⟨by omega, by omega⟩, if_pos f1, f3, f16, if_pos ⟨b5, by omega⟩, if_pos g1, if_pos f11, g2, g4, if_pos ⟨hoi.1, by omega⟩, if_pos g3, ob2, if_pos ⟨by omega, by omega⟩, if_pos ob1, w32_id (by omega) (by omega), ra]
        refine ih' _ _ _ _ _ _ _ ⟨rfl, rfl, rfl, rfl, rfl, by omega, by omega, fun a ha => by rw [xu_c (by omega)]; exact F4 a ha, fun c i q1 q2 q3 q4 => ?_, fun c q1 q2 => ?_⟩ (by omega)
        · rw [xJ_u, if_neg (by omega)]
          exact V4 c i q1 q2 q3 q4
        · rw [xJ_u]
          by_cases e : c = D + y5
          · rw [if_pos ⟨by omega, rfl⟩, w64_xJ]
            unfold Tfac
            rw [if_neg (by omega), show c - D = y5 from by omega]
          · rw [if_neg (by omega)]
            exact D4 c q1 (by omega)
      · rw [if_neg hm, w32_id (by omega) (by omega)]
        refine ih _ _ _ _ _ ⟨rfl, rfl, rfl, by omega, by omega, F4, fun c i q1 q2 q3 q4 => ?_⟩ (by omega)
        by_cases e : i = y3
        · rw [e]
          exact D4 c q1 (by omega)
        · exact V4 c i q1 q2 q3 (by omega)
    refine xl6_rule (F := yl181_70 B r13 q) (fun y0 y1 y2 y3 y4 y5 m' => y0 = x0 ∧ y1 = x1 ∧ y2 = x2 ∧ y3 = x3 ∧ y4 = o (x2 + x3) ∧ 0 ≤ y5 ∧ y5 ≤ D ∧ (∀ a, a < 304 ∨ 336 < a → m' a = m1 a) ∧ (∀ c i, 0 ≤ c → c < D + M → 0 ≤ i → i < x3 → xJ m' (304 + c) i = Tfac m x0 D o c (x2 + i)) ∧ ∀ c, 0 ≤ c → c < y5 → xJ m' (304 + c) x3 = Tfac m x0 D o c (x2 + x3)) (fun _ _ _ _ _ y5 _ => (D - y5).toNat) ?_ 1000000 x0 x1 x2 x3 (o (x2 + x3)) 0 m2 ⟨rfl, rfl, rfl, rfl, rfl, by omega, by omega, F2, V2, fun c q1 q2 => by omega⟩ (by omega)
    intro q' y0 y1 y2 y3 y4 y5 m4 ⟨b0, b1, b2, b3, b4, b5, b6, F4, V4, D4⟩ ih'
    subst b0 b1 b2 b3 b4
    have s5 : xR m4 302 5 = D := by rw [xR_cg (F4 302 (by omega))]; exact h5
    unfold yl181_70
    rw [s5]
    by_cases hm : y5 < D
    · obtain ⟨g1, g2, g3, g4⟩ := rw_p B hr (d := y5) b5 (by omega)
      obtain ⟨ob1, ob2⟩ := ce_ob (B := B) (c := y5) (by omega) (by omega)
      have ra : xR m4 (y0 + 3 + y5) = xR m (y0 + 3 + y5) := by rw [xR_cg (F4 _ (by omega)), xR_cg (rR _ (by omega) (by omega))]
      rw [if_pos hm, if_pos ⟨by omega, by omega⟩, if_pos f1, f2, f15, if_pos ⟨b5, by omega⟩, if_pos g1, if_pos f10, g2, g4, if_pos ⟨hoi.1, by omega⟩, if_pos g3, ob2, if_pos ⟨by omega, by omega⟩, if_pos ob1, w32_id (by omega) (by omega), ra]
      refine ih' _ _ _ _ _ _ _ ⟨rfl, rfl, rfl, rfl, rfl, by omega, by omega, fun a ha => by rw [xu_c (by omega)]; exact F4 a ha, fun c i q1 q2 q3 q4 => ?_, fun c q1 q2 => ?_⟩ (by omega)
      · rw [xJ_u, if_neg (by omega)]
        exact V4 c i q1 q2 q3 q4
      · rw [xJ_u]
        by_cases e : c = y5
        · rw [if_pos ⟨by omega, rfl⟩, w64_xR]
          unfold Tfac
          rw [if_pos (by omega), e]
        · rw [if_neg (by omega)]
          exact D4 c q1 (by omega)
    · rw [if_neg hm]
      exact meas m4 F4 V4 (fun c q1 q2 => D4 c q1 (by omega))
  · rw [if_neg hi]
    have ei : x3 = sz := by omega
    subst ei
    exact fin m2 F2 V2
theorem wr_facts (hB : B ≤ 512) (hr : rwo r W cap) (hD : 0 ≤ D ∧ D ≤ 8) (hM : 0 ≤ M ∧ M ≤ 8) (hn : 0 ≤ n ∧ n ≤ cap) (h5 : xR m r 5 = n) (ho : prm (xR m (r + 12 + W)) n) (h302 : xR m 302 5 = D) (h6 : xR m 302 6 = (D + M).toNat) (h32 : xR m 3 2 = M) {p : Int} (hp : 0 ≤ p) (hw : tst B m p) :
    ∃ m', yf181 B r 518 m = some (.inl 0, m') ∧ fT m m' p ∧ tst B m' (p + 8 * partB (Tfac m r D (xR m (r + 12 + W))) n (D + M).toNat) ∧ (ws B m' (p + 8 * partB (Tfac m r D (xR m (r + 12 + W))) n (D + M).toNat) → Part (m' 517) p n (D + M).toNat (Tfac m r D (xR m (r + 12 + W)))) := by
  have hb := rw_b hr
  obtain ⟨f1, _⟩ := rw_f B hr
  have hT := Tfac_w m r D (xR m (r + 12 + W))
  generalize hTf : Tfac m r D (xR m (r + 12 + W)) = T at *
  have hk : (D + M).toNat ≤ 33 := by omega
  have hss := ssum_nn hT hk (R := n) (s := nseg n) (by unfold nseg; omega)
  have first : ∃ m1, yf152 B 518 n 32 m = some (.inl 0, m1) ∧ fT m m1 p ∧ ((ws B m1 (p + 32) ∧ p + 32 ≤ 64 * (B * 512 : Nat) ∧ tk (m1 517) p 32 = n) ∨ (ov B m1 ∧ 64 * (B * 512 : Nat) < p + 32)) := by
    by_cases hfit : (ws B m p ∧ p ≤ 64 * (B * 512 : Nat)) ∧ p + 32 ≤ 64 * (B * 512 : Nat)
    · obtain ⟨m1, e1, w1, f1, t1⟩ := put_ws (v := n) (n := 32) hB hfit.1.1 (by decide) (by decide) hfit.2
      refine ⟨m1, e1, fw_fT (fr_fw f1), Or.inl ⟨w1, hfit.2, ?_⟩⟩
      rw [show (32 : Int).toNat = 32 from rfl] at t1
      rw [t1]
      exact msk_nn (by omega) (by show _ < (4294967296 : Int); omega) (by decide)
    · obtain ⟨m1, e1, o1, g1⟩ := put_ov (v := n) (n := 32) (p := p) hB (m := m) (by
        rcases hw with h | h
        · exact Or.inr ⟨h.1, h.2, by
            have : ¬ p + 32 ≤ 64 * ((B * 512 : Nat) : Int) := fun q => hfit ⟨h, q⟩
            omega⟩
        · exact Or.inl h.1)
      refine ⟨m1, e1, ⟨fun a h1 h2 => g1 a (by omega), fun k _ => by rw [g1 302 (by decide)], fun q _ _ => by rw [g1 517 (by decide)]⟩, Or.inr ⟨o1, ?_⟩⟩
      rcases hw with h | h
      · have : ¬ p + 32 ≤ 64 * ((B * 512 : Nat) : Int) := fun q => hfit ⟨h, q⟩
        omega
      · omega
  obtain ⟨m1, e1, F1, S1⟩ := first
  unfold yf181
  rw [if_pos f1, if_pos (by decide), h5, e1, xB_ret]
  have goal := xH_ex (Q := fun v m' => v = 0 ∧ fT m m' p ∧ tst B m' (p + 8 * partB T n (D + M).toNat) ∧ (ws B m' (p + 8 * partB T n (D + M).toNat) → Part (m' 517) p n (D + M).toNat T)) (xl3_rule (F := yl181_13 B) (fun x0 x1 x2 m' => x0 = r ∧ x1 = 518 ∧ ∃ s : Nat, x2 = 1024 * (s : Int) ∧ 1024 * (s : Int) < n + 1024 ∧ fT m m' p ∧ ((ws B m' (p + 32 + 8 * ssum T n (D + M).toNat s) ∧ p + 32 + 8 * ssum T n (D + M).toNat s ≤ 64 * (B * 512 : Nat) ∧ tk (m' 517) p 32 = n ∧ ∀ j : Nat, j < s → Seg (m' 517) (p + 32 + 8 * ssum T n (D + M).toNat j) (nrow n j) (D + M).toNat (Tseg T j)) ∨ (ov B m' ∧ 64 * (B * 512 : Nat) < p + 8 * partB T n (D + M).toNat))) (fun _ _ x2 _ => (n + 1024 - x2).toNat) ?_ 1000000 r 518 0 m1 ⟨rfl, rfl, 0, by omega, by omega, F1, ?_⟩ (by omega))
  · obtain ⟨v, m', e, rfl, h⟩ := goal
    exact ⟨m', e, h⟩
  · intro q x0 x1 x2 m2 ⟨a0, a1, s, a2, a3, F2, S2⟩ ih
    subst a0 a1 a2
    have r5 : xR m2 x0 5 = n := by rw [xR_cg (F2.1 x0 (by omega) (by omega))]; exact h5
    unfold yl181_13
    rw [if_pos f1, r5]
    by_cases hx : 1024 * (s : Int) < n
    · rw [if_pos hx, if_pos (by decide)]
      rcases S2 with ⟨w, hl, ht, sg⟩ | ⟨o, hl⟩
      · have hsn := ssum_nn hT hk (R := n) (s := s) (by omega)
        have es : ssum T n (D + M).toNat (s + 1) = ssum T n (D + M).toNat s + (2 + csum (Tseg T s) (nrow n s) (D + M).toNat) := rfl
        have mono := ssum_mono hT hk (R := n) (s + 1) (nseg n - (s + 1)) (by unfold nseg; omega)
        rw [show s + 1 + (nseg n - (s + 1)) = nseg n from by unfold nseg; omega] at mono
        rw [w.2.2.1, if_pos rfl, w32_id (x := n - 1024 * (s : Int)) (by omega) (by omega), show min 1024 (n - 1024 * (s : Int)) = nrow n s from rfl]
        have hnr : 1 ≤ nrow n s ∧ nrow n s ≤ 1024 ∧ 1024 * (s : Int) + nrow n s ≤ n := by unfold nrow; omega
        refine fill_seg (m := m) (M := M) (sz := nrow n s) (from' := 1024 * (s : Int)) hr hD hM hn ho (m1 := xw_u m2 302 8 (nrow n s)) (fun a ha => ?_) (by rw [xR_u, if_neg (by decide)]; unfold xR; rw [F2.2.1 5 (by decide)]; exact h302) h32 rfl (by omega) ⟨by omega, by omega⟩ (by omega) (by rw [xR_u, if_pos ⟨rfl, rfl⟩]; exact w32_id (by omega) (by omega)) ?_
        · rw [xu_c (by omega)]
          by_cases hq : a < 517 ∨ 523 < a
          · exact Or.inl (F2.1 a (by omega) hq)
          · exact Or.inr ⟨by omega, by omega⟩
        · intro m3 F3 V3
          have hC : ∀ c i : Int, 0 ≤ c → c < ((D + M).toNat : Nat) → 0 ≤ i → i < nrow n s → xJ m3 (304 + c) i = Tseg T s c i := fun c i q1 q2 q3 q4 => by
            rw [V3 c i q1 (by omega) q3 q4, hTf]
            rfl
          have w3 : ws B m3 (p + 32 + 8 * ssum T n (D + M).toNat s) := by
            obtain ⟨q1, q2, q3, q4, q5⟩ := w
            have e18 : m3 518 = m2 518 := by rw [F3 518 (by omega), xu_c (by decide)]
            have e17 : m3 517 = m2 517 := by rw [F3 517 (by omega), xu_c (by decide)]
            refine ⟨?_, ?_, ?_, q4, ?_⟩
            · rw [xR_cg e18]; exact q1
            · rw [xR_cg e18]; exact q2
            · rw [xR_cg e18]; exact q3
            · rw [e17]; exact q5
          have s8 : xR m3 302 8 = nrow n s := by rw [xR_cg (F3 302 (by omega)), xR_u, if_pos ⟨rfl, rfl⟩]; exact w32_id (by omega) (by omega)
          have s6 : xR m3 302 6 = (D + M).toNat := by rw [xR_cg (F3 302 (by omega)), xR_u, if_neg (by decide)]; unfold xR; rw [F2.2.1 6 (by decide)]; exact h6
          obtain ⟨m4, e4, F4, S4⟩ := wr_seg hB hk hnr.1 hnr.2.1 s8 s6 (Or.inl ⟨w3, hl⟩) (show 0 ≤ p + 32 + 8 * ssum T n (D + M).toNat s by omega)
          have ecs : csum (fun c => xJ m3 (304 + c)) (nrow n s) (D + M).toNat = csum (Tseg T s) (nrow n s) (D + M).toNat := csum_cg hnr.1 _ hC
          rw [ecs] at S4
          have G4 : fT m m4 p := by
            have f3 : fT m2 m3 (p + 32 + 8 * ssum T n (D + M).toNat s) := ⟨fun a h1 h2 => by rw [F3 a (by omega), xu_c (by omega)], fun k hk2 => by rw [F3 302 (by omega)]; unfold xw_u; rw [if_neg (fun e => hk2 e.2)], fun q _ _ => by rw [F3 517 (by omega), xu_c (by decide)]⟩
            exact fT_trans F2 (fT_trans f3 (fw_fT F4) (Int.le_refl _)) (by omega)
          rw [e4, xB_ret, w32_id (by omega) (by omega)]
          refine ih _ _ _ _ ⟨rfl, rfl, s + 1, by omega, by omega, G4, ?_⟩ (by omega)
          rcases S4 with ⟨q1, q2, q3⟩ | ⟨q1, q2⟩
          · refine Or.inl ⟨?_, ?_, ?_, fun j hj => ?_⟩
            · rw [es, show p + 32 + 8 * (ssum T n (D + M).toNat s + (2 + csum (Tseg T s) (nrow n s) (D + M).toNat)) = p + 32 + 8 * ssum T n (D + M).toNat s + 16 + 8 * csum (Tseg T s) (nrow n s) (D + M).toNat from by omega]
              exact q1
            · rw [es]
              omega
            · rw [fw_tk F4 hp (by omega), F3 517 (by omega), xu_c (by decide)]
              exact ht
            · by_cases ej : j = s
              · rw [ej]
                refine ⟨q3.1, fun c hc => ?_⟩
                have hcc := q3.2 c hc
                have ec1 : csum (fun c => xJ m3 (304 + c)) (nrow n s) c = csum (Tseg T s) (nrow n s) c := csum_cg hnr.1 _ (fun c i q1 q2 q3 q4 => hC c i q1 (by omega) q3 q4)
                have ec2 : colB (xJ m3 (304 + (c : Int))) (nrow n s) = colB (Tseg T s c) (nrow n s) := colB_cg hnr.1 (fun i q1 q2 => hC c i (by omega) (by omega) q1 q2)
                rw [ec1, ec2] at hcc
                exact Col_f hnr.1 (fun i q1 q2 => hC c i (by omega) (by omega) q1 q2) hcc
              · have hj2 := sg j (by omega)
                have ej1 : ssum T n (D + M).toNat (j + 1) = ssum T n (D + M).toNat j + (2 + csum (Tseg T j) (nrow n j) (D + M).toNat) := rfl
                have mj := ssum_mono hT hk (R := n) (j + 1) (s - (j + 1)) (by omega)
                rw [show j + 1 + (s - (j + 1)) = s from by omega] at mj
                have snj := ssum_nn hT hk (R := n) (s := j) (by omega)
                refine Seg_cg (Tseg_w hT j) (by unfold nrow; omega) (by unfold nrow; omega) hk (fun z h1 h2 => ?_) hj2
                rw [F4.2 _ (by omega) (by omega), F3 517 (by omega), xu_c (by decide)]
          · exact Or.inr ⟨q1, by unfold partB; omega⟩
      · rw [o.2, if_neg (by decide), xH_ret]
        exact ⟨rfl, F2, Or.inr ⟨o, hl⟩, fun h => absurd (h.2.2.1.symm.trans o.2) (by decide)⟩
    · rw [if_neg hx, xH_ret]
      have es : s = nseg n := by unfold nseg; omega
      rcases S2 with ⟨w, hl, ht, sg⟩ | ⟨o, hl⟩
      · unfold partB
        rw [es] at w hl sg
        refine ⟨rfl, F2, Or.inl ⟨?_, by omega⟩, fun _ => ⟨ht, ⟨hn.1, by omega⟩, fun j hj => sg j (by unfold nseg; omega)⟩⟩
        rw [show p + 8 * (4 + ssum T n (D + M).toNat (nseg n)) = p + 32 + 8 * ssum T n (D + M).toNat (nseg n) from by omega]
        exact w
      · exact ⟨rfl, F2, Or.inr ⟨o, hl⟩, fun h => absurd (h.2.2.1.symm.trans o.2) (by decide)⟩
  · rcases S1 with ⟨q1, q2, q3⟩ | ⟨q1, q2⟩
    · refine Or.inl ⟨?_, ?_, q3, fun j hj => by omega⟩
      · rw [show ssum T n (D + M).toNat 0 = 0 from rfl, Int.mul_zero, Int.add_zero]
        exact q1
      · rw [show ssum T n (D + M).toNat 0 = 0 from rfl, Int.mul_zero, Int.add_zero]
        exact q2
    · exact Or.inr ⟨q1, by unfold partB; omega⟩
end WF
