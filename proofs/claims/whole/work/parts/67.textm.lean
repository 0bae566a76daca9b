/-! the reference's readLine and the loop of its text -/
section RT
variable {N e m : Nat} {σ : ST} {Q : POST} {n : Nat} {tb : Nat → Nat}
theorem st_0n {A : RDc} {t : TK} (h : ¬ kdM t = 2) : stp ⟨0, A⟩ t = .inl 1 := by
  cases t using TK_el with
  | wd l => exact absurd rfl h
  | no => rfl
  | fin => rfl
  | wh v => rfl
  | pa => rfl
  | co => rfl
theorem st_1n {A : RDc} {t : TK} (h : ¬ kdM t = 2) : stp ⟨1, A⟩ t = .inl 1 := by
  cases t using TK_el with
  | wd l => exact absurd rfl h
  | no => rfl
  | fin => rfl
  | wh v => rfl
  | pa => rfl
  | co => rfl
theorem st_3n {A : RDc} {t : TK} (h : t ≠ .co) : stp ⟨3, A⟩ t = .inl 1 := by
  cases t using TK_el with
  | co => exact absurd rfl h
  | no => rfl
  | fin => rfl
  | wh v => rfl
  | pa => rfl
  | wd l => rfl
theorem st_6n {A : RDc} {t : TK} (h : t ≠ .pa) (h2 : ∀ l, t ≠ .wd l) : stp ⟨6, A⟩ t = .inl 1 := by
  cases t using TK_el with
  | pa => exact absurd rfl h
  | wd l => exact absurd rfl (h2 l)
  | no => rfl
  | fin => rfl
  | wh v => rfl
  | co => rfl
set_option maxRecDepth 100000 in
/-- the reference's readLine -/
theorem c_readLine {r p : Nat} {A : RDc} {R0 : PRc} (c : mTP σ n tb) (hp : p ≤ n) (hr : n + 1 ≤ p + (r + 1)) (v : vPS ⟨0, A⟩) (hx : mRX σ A A.1) (h24 : σ.1 11 0 24 0 = nI A.1) (cu : mCU σ n tb p) (hR : prs n tb (r + 1) ⟨0, A⟩ p = R0) (hm : 200 * r + 70000 ≤ m)
    (hF : ∀ f s' τ, R0 = .inl (f, s') → 1 ≤ f → f ≤ 4 → off rOfM σ τ → τ.1 11 0 8 0 = nI f → τ.1 11 0 9 0 = nI s' → Q none τ)
    (hO : ∀ A' p' r' τ, R0 = prs n tb (r' + 1) ⟨6, A'⟩ p' → r' < r → vPS ⟨6, A'⟩ → p' ≤ n → n + 1 ≤ p' + (r' + 1) → off rOfM σ τ → mRX τ A' A'.1 → τ.1 11 0 24 0 = nI A'.1 → mCU τ n tb p' → (∀ l, (tkA n tb (tkS n tb p')).1 ≠ .wd l) → Q none τ) :
    wp N m (e + 4, 0) TX11_readLine 0 [some (.inr (.inr (11, 0, 0))), none, none, none, none, none, none] [] σ Q := by
  have hn := c.2.1
  have hnh : A.1 ≤ 5 := v.2.1
  obtain ⟨n1, rfl⟩ := il_ex (K := 100) (m := m) (by omega)
  obtain ⟨u1, u2, u3, u4⟩ := cu
  have ck := mTK_k u4
  have kl := kdM_le (tkA n tb (tkS n tb p)).1
  have vt := tkA_v (n := n) (tb := tb) (tkS n tb p)
  have hs := tkS_le (tb := tb) hp
  have hAl := tkA_le (tb := tb) hs.2
  have flt : ∀ (f : Nat) (x : Int32) (m' : Nat) (o1 o2 o3 o4 o6 : Option AV), 1 ≤ f → f ≤ 4 → x = nI f → 30 ≤ m' → R0 = .inl (f, tkS n tb p) → wp N m' (e + 4, 0) TX11_readLine 29 [some (.inr (.inr (11, 0, 0))), o1, o2, o3, o4, none, o6] [] (uI (uI σ 11 0 8 0 x) 11 0 9 0 (σ.1 11 0 11 0)) Q := by
    intro f x m' o1 o2 o3 o4 o6 f1 f4 ex hm' hR'
    obtain ⟨n2, rfl⟩ := il_ex (K := 10) (m := m') (by omega)
    have g8 : (uI (uI σ 11 0 8 0 x) 11 0 9 0 (σ.1 11 0 11 0)).1 11 0 8 0 = nI f := by rw [uI_nr _ _ _ _ _ _ (by decide), uI_at]; exact ex
    refine b_le g8 z0 (by omega) (by omega) (fun q => by omega) (fun _ => ?_)
    exact hF f _ _ hR' f1 f4 (off_uI (off_uI (off_rf _ _) (by decide)) (by decide)) g8 (by rw [uI_at]; exact u2)
  refine b_eq ck i2 (by omega) (by omega) (fun q => ?_) (fun q => ?_)
  · obtain ⟨l, hl⟩ := wd_of q
    rw [hl] at vt u4
    refine ⟨trivial, c_find11 (j := 15) (L := 5) (k0 := A.1) (f := A.2.1) (l := l) rfl (by omega) hnh (fun k hk => (v.2.2.2 k hk).1) vt (fun k hk => (hx k hk).1) h24 u4.2 (by omega) (fun k hk ek _ => ?_) (fun hno => ?_)⟩
    · refine ⟨fun z => absurd z (b_n1 (by omega)), fun _ => ?_⟩
      refine ⟨trivial, c_flaw u1 (by omega) ?_⟩
      refine ⟨trivial, flt 3 _ _ _ _ _ _ _ (by omega) (by omega) i3 (by omega) ?_⟩
      rw [← hR]
      exact prs_no (Or.inl (by show ¬ 0 = 6; omega)) (by rw [hl]; exact if_pos ⟨k, hk, ek⟩)
    · have nno : ¬ nmI A l := fun ⟨k, a, b⟩ => hno k a b
      refine ⟨fun _ => ?_, fun z => absurd (show (-1 : Int32) = Int32.ofInt (-1) by rw [im1]) z⟩
      refine b_ne h24 i5 (by omega) (by omega) (fun q5 => ?_) (fun q5 => ?_)
      · refine b_le u1 z0 (by omega) (by omega) (fun _ => ?_) (fun z => by omega)
        have st1 : stp ⟨0, A⟩ (tkA n tb (tkS n tb p)).1 = .inr ⟨1, aHr A l⟩ := by rw [hl]; exact (if_neg nno).trans (if_neg q5)
        obtain ⟨r1, er1, pr1, p2n, p2r⟩ := prs_go hp hr st1
        have v1 := vPS_hr v vt q5
        have j1 := il_in h24 (show A.1 < 5 by omega) (by omega)
        have cl1 : (σ.1 11 0 (23 + 1) 0).toNatClampNeg = A.1 := il_cl h24 (by omega)
        refine ⟨j1, ?_⟩
        rw [cl1]
        have o0 : off rOfM σ (uL σ 11 0 15 A.1 (σ.2 11 0 14 0)) := off_uL (off_rf _ _) (by decide)
        have hx0 : mRX (uL σ 11 0 15 A.1 (σ.2 11 0 14 0)) A A.1 := fun h hh => by
          have := hx h hh
          refine ⟨by rw [uL_ne _ _ _ _ _ _ (by omega)]; exact this.1, this.2.1, this.2.2.1, fun i hi => ?_⟩
          rw [uL_nr _ _ _ _ _ _ (by decide)]; exact this.2.2.2 i hi
        have n15 : (uL σ 11 0 15 A.1 (σ.2 11 0 14 0)).2 11 0 15 A.1 = lN (enL l) := by rw [uL_at]; exact u4.2
        refine ⟨trivial, c_goOnM (e := e + 1) (σ := uL σ 11 0 15 A.1 (σ.2 11 0 14 0)) (mTP_off o0 (by decide) (by decide) c) hAl.2.1 u1 u3 (by omega) ?_⟩
        intro τ1 o1 g1 g2 g3
        have ho1 : off rOfM σ τ1 := off_tr o0 (off_in o1 (by decide))
        have c1 : mTP τ1 n tb := mTP_off ho1 (by decide) (by decide) c
        have f8 : τ1.1 11 0 8 0 = nI 0 := by rw [off_1 o1 (by decide)]; exact u1
        have hx1 : mRX τ1 A A.1 := mRX_off o1 (by decide) (by decide) (by decide) (by decide) (by decide) hx0
        have n15' : τ1.2 11 0 15 A.1 = lN (enL l) := by rw [off_2 o1 (by decide)]; exact n15
        have h24a : τ1.1 11 0 24 0 = nI A.1 := by rw [off_1 o1 (by decide)]; exact h24
        generalize hp2 : (tkA n tb (tkS n tb p)).2 = p2 at *
        have ck2 := mTK_k g3
        have kl2 := kdM_le (tkA n tb (tkS n tb p2)).1
        have vt2 := tkA_v (n := n) (tb := tb) (tkS n tb p2)
        have flt2 : ∀ m', 500 ≤ m' → R0 = .inl (1, tkS n tb p2) → wp N m' (e + 4, 0) TX11_readLine 51 [some (.inr (.inr (11, 0, 0))), some (.inl (σ.1 11 0 (23 + 1) 0)), none, none, none, none, none] [] τ1 Q := by
          intro m' hm' hR'
          obtain ⟨n2, rfl⟩ := il_ex (K := 5) (m := m') (by omega)
          refine ⟨trivial, c_flaw f8 (by omega) ?_⟩
          have g8 : (uI (uI τ1 11 0 8 0 (Int32.ofInt 1)) 11 0 9 0 (τ1.1 11 0 11 0)).1 11 0 8 0 = nI 1 := by rw [uI_nr _ _ _ _ _ _ (by decide), uI_at]; exact oi_1
          refine ft54 (e := e + 2) (f := 1) (h := A.1) (by omega) (by omega) (by omega) h24 g8 (by omega) (fun τ2 o2 => ?_)
          refine hF 1 _ τ2 hR' (by omega) (by omega) (off_tr (off_uI (off_uI ho1 (by decide)) (by decide)) (off_in o2 (by decide))) ?_ ?_
          · rw [off_1 o2 (by decide)]; exact g8
          · rw [off_1 o2 (by decide), uI_at]; exact g1
        refine b_ne ck2 i2 (by omega) (by omega) (fun q2 => ?_) (fun q2 => ?_)
        · refine flt2 _ (by omega) ?_
          rw [← hR, pr1]
          exact prs_no (Or.inl (by show ¬ 1 = 6; omega)) (st_1n q2)
        · obtain ⟨l2, hl2⟩ := wd_of q2
          rw [hl2] at vt2 g3
          have b2 := enL_b vt2.2.1 vt2.2.2
          have cmp : lg_cmp (τ1.2 11 0 14 0) (Int64.ofInt 777297172) = if 777297172 < enL l2 then 1 else if enL l2 = 777297172 then 0 else -1 := by
            rw [g3.2, l777, b_lcm (by omega) (by omega)]
          show (brI .eq (lg_cmp _ _) 0 → _) ∧ (¬ brI .eq (lg_cmp _ _) 0 → _)
          rw [show lg_cmp (τ1.2 11 0 (13 + 1) 0) (Int64.ofInt 777297172) = _ from cmp]
          by_cases qw : l2 = wgL
          · have ew : enL l2 = 777297172 := by rw [qw]; exact wg_en
            rw [if_neg (by omega), if_pos ew]
            refine ⟨fun _ => ?_, fun z => absurd rfl z⟩
            have st2 : stp ⟨1, aHr A l⟩ (tkA n tb (tkS n tb p2)).1 = .inr ⟨2, aHr A l⟩ := by rw [hl2]; exact if_pos qw
            obtain ⟨r2, er2, pr2, p3n, p3r⟩ := prs_go p2n p2r st2
            have v2 := vPS_wg v1
            refine ⟨trivial, c_goOnM (e := e + 1) c1 p3n f8 g2 (by omega) ?_⟩
            intro τ2 o2 k1 k2 k3
            have ho2 : off rOfM σ τ2 := off_tr ho1 (off_in o2 (by decide))
            have c2 : mTP τ2 n tb := mTP_off o2 (by decide) (by decide) c1
            have hx2 : mRX τ2 A A.1 := mRX_off o2 (by decide) (by decide) (by decide) (by decide) (by decide) hx1
            have n15'' : τ2.2 11 0 15 A.1 = lN (enL l) := by rw [off_2 o2 (by decide)]; exact n15'
            have h24b : τ2.1 11 0 24 0 = nI A.1 := by rw [off_1 o2 (by decide)]; exact h24a
            generalize hp3 : (tkA n tb (tkS n tb p2)).2 = p3 at *
            have cu2 : mCU τ2 n tb p3 := ⟨by rw [off_1 o2 (by decide)]; exact f8, k1, k2, k3⟩
            have vt3 := tkA_v (n := n) (tb := tb) (tkS n tb p3)
            refine ⟨trivial, c_readWhole (e := e) c2 p3n cu2 (by omega) (by omega) oi_1 i99 (by omega) (fun w τ3 hw w1 w2 o3 cu3 => ?_) (fun f y τ3 hf o3 f8' f9 => ?_)⟩
            · refine ⟨j1, ?_⟩
              rw [cl1]
              have st3 : stp ⟨2, aHr A l⟩ (tkA n tb (tkS n tb p3)).1 = .inr ⟨3, aWt (aHr A l) w⟩ := by rw [hw]; exact if_pos ⟨w1, w2⟩
              obtain ⟨r3, er3, pr3, p4n, p4r⟩ := prs_go p3n p3r st3
              have v3 := vPS_wt v2 ⟨w1, w2⟩
              have o3' : off rOfM τ2 (uI τ3 11 0 18 A.1 (nI w)) := off_uI (off_in o3 (by decide)) (by decide)
              have ho3 : off rOfM σ (uI τ3 11 0 18 A.1 (nI w)) := off_tr ho2 o3'
              have c3 : mTP (uI τ3 11 0 18 A.1 (nI w)) n tb := mTP_off ho3 (by decide) (by decide) c
              have o18 : off [(11, 0, 18)] τ3 (uI τ3 11 0 18 A.1 (nI w)) := off_uI (off_rf _ _) (by decide)
              have cu3' := mCU_off o18 (by decide) cu3
              have hx3 : mRX (uI τ3 11 0 18 A.1 (nI w)) A A.1 := fun h hh => by
                have := mRX_off o3 (by decide) (by decide) (by decide) (by decide) (by decide) hx2 h hh
                refine ⟨this.1, by rw [uI_ne _ _ _ _ _ _ (by omega)]; exact this.2.1, by rw [uI_nr _ _ _ _ _ _ (by decide)]; exact this.2.2.1, fun i hi => ⟨(this.2.2.2 i hi).1, by rw [uI_nr _ _ _ _ _ _ (by decide)]; exact (this.2.2.2 i hi).2⟩⟩
              have m15 : (uI τ3 11 0 18 A.1 (nI w)).2 11 0 15 A.1 = lN (enL l) := by rw [uI_2, off_2 o3 (by decide)]; exact n15''
              have m18 : (uI τ3 11 0 18 A.1 (nI w)).1 11 0 18 A.1 = nI w := uI_at ..
              have m24 : (uI τ3 11 0 18 A.1 (nI w)).1 11 0 24 0 = nI A.1 := by rw [uI_nr _ _ _ _ _ _ (by decide), off_1 o3 (by decide)]; exact h24b
              generalize hτ4 : uI τ3 11 0 18 A.1 (nI w) = τ4 at *
              generalize hp4 : (tkA n tb (tkS n tb p3)).2 = p4 at *
              refine ⟨trivial, c_isSignN cu3'.1 cu3'.2.2.2 i58 (Or.inl rfl) (by omega) (fun hco => ?_) (fun hco => ?_)⟩
              · have tco : (tkA n tb (tkS n tb p4)).1 = .co := by
                  rcases hco with ⟨_, z⟩ | ⟨z, _⟩
                  · exact z
                  · cases z
                refine b_ne (a := 1) rfl z0 (by omega) (by omega) (fun _ => ?_) (fun z => by omega)
                have st4 : stp ⟨3, aWt (aHr A l) w⟩ (tkA n tb (tkS n tb p4)).1 = .inr ⟨4, aWt (aHr A l) w⟩ := by rw [tco]; rfl
                obtain ⟨r4, er4, pr4, p5n, p5r⟩ := prs_go p4n p4r st4
                have v4 := vPS_co v3
                refine ⟨trivial, c_goOnM (e := e + 1) c3 p5n cu3'.1 cu3'.2.2.1 (by omega) ?_⟩
                intro τ5 o5 y1 y2 y3
                refine ⟨j1, ?_⟩
                rw [cl1]
                have o19 : off [(11, 0, 19)] τ5 (uI τ5 11 0 19 A.1 (Int32.ofInt 0)) := off_uI (off_rf _ _) (by decide)
                have ho6 : off rOfM σ (uI τ5 11 0 19 A.1 (Int32.ofInt 0)) := off_tr (off_tr ho3 (off_in o5 (by decide))) (off_in o19 (by decide))
                have g8 : τ5.1 11 0 8 0 = nI 0 := by rw [off_1 o5 (by decide)]; exact cu3'.1
                have cu6 : mCU (uI τ5 11 0 19 A.1 (Int32.ofInt 0)) n tb (tkA n tb (tkS n tb p4)).2 := mCU_off o19 (by decide) ⟨g8, y1, y2, y3⟩
                refine b_ne cu6.1 z0 (by omega) (by omega) (fun z => absurd rfl z) (fun _ => ?_)
                refine ⟨trivial, ?_⟩
                refine adv 1 (200 * r + 69000) (by omega) (fun n9 hn9 => ?_)
                refine rl_loop (σ := σ) (h0 := A.1) (rr := r4) (e := e) (R0 := R0) (by omega) h24 hF (fun A' p' r' τ a a2 b c d f g h i j => hO A' p' r' τ a (by omega) b c d f g h i j) r4 _ 4 n9 (aWt (aHr A l) w) _ _ _ _ _ (Nat.le_refl _) (mTP_off ho6 (by decide) (by decide) c) p5n p5r (Or.inl rfl) v4 rfl (by omega) ho6 ?_ ?_ cu6 (by rw [← pr4, ← pr3, ← pr2, ← pr1, hR]) ?_ oi_1
                · intro h hh
                  have ho5 := hx3
                  by_cases z : h = A.1
                  · subst z
                    show _ = lN (enL (up1 A.2.1 A.1 l A.1)) ∧ _ = nI (up1 A.2.2.1 (A.1 + 1 - 1) w A.1) ∧ _ = nI (up1 A.2.2.2.1 A.1 0 A.1) ∧ ∀ i, i < up1 A.2.2.2.1 A.1 0 A.1 → _
                    rw [up1_k, up1_k, show A.1 + 1 - 1 = A.1 by omega, up1_k]
                    refine ⟨?_, ?_, ?_, fun i hi => by omega⟩
                    · rw [uI_2, off_2 o5 (by decide)]; exact m15
                    · rw [uI_nr _ _ _ _ _ _ (by decide), off_1 o5 (by decide)]; exact m18
                    · rw [uI_at]; exact oi_0
                  · obtain ⟨a1, a2, a3, a4⟩ := mRX_off o5 (by decide) (by decide) (by decide) (by decide) (by decide) hx3 h (by omega)
                    show _ = lN (enL (up1 A.2.1 A.1 l h)) ∧ _ = nI (up1 A.2.2.1 (A.1 + 1 - 1) w h) ∧ _ = nI (up1 A.2.2.2.1 A.1 0 h) ∧ ∀ i, i < up1 A.2.2.2.1 A.1 0 h → _ = lN (enL (A.2.2.2.2.1 h i)) ∧ _ = nI (A.2.2.2.2.2 h i)
                    rw [up1_n z, up1_n z, show A.1 + 1 - 1 = A.1 by omega, up1_n z]
                    exact ⟨by rw [uI_2]; exact a1, by rw [uI_nr _ _ _ _ _ _ (by decide)]; exact a2, by rw [uI_ne _ _ _ _ _ _ z]; exact a3, fun i hi => ⟨by rw [uI_2]; exact (a4 i hi).1, by rw [uI_nr _ _ _ _ _ _ (by decide)]; exact (a4 i hi).2⟩⟩
                · rw [uI_nr _ _ _ _ _ _ (by decide), off_1 o5 (by decide)]; exact m24
                · unfold tmI
                  show Int32.ofInt (-1) = if up1 A.2.2.2.1 A.1 0 (A.1 + 1 - 1) = 0 then _ else _
                  rw [show A.1 + 1 - 1 = A.1 by omega, up1_k, if_pos rfl]; exact im1
              · refine b_ne (a := 0) rfl z0 (by omega) (by omega) (fun z => absurd rfl z) (fun _ => ?_)
                refine ⟨trivial, c_flaw cu3'.1 (by omega) ?_⟩
                have g8 : (uI (uI τ4 11 0 8 0 (Int32.ofInt 1)) 11 0 9 0 (τ4.1 11 0 11 0)).1 11 0 8 0 = nI 1 := by rw [uI_nr _ _ _ _ _ _ (by decide), uI_at]; exact oi_1
                refine ft71 (e := e + 2) (f := 1) (h := A.1) (by omega) (by omega) (by omega) h24 g8 (by omega) (fun τ6 o6 => ?_)
                refine hF 1 (tkS n tb p4) τ6 ?_ (by omega) (by omega) (off_tr (off_uI (off_uI ho3 (by decide)) (by decide)) (off_in o6 (by decide))) ?_ ?_
                · rw [← hR, pr1, pr2, pr3]
                  exact prs_no (Or.inl (by show ¬ 3 = 6; omega)) (st_3n (fun z => hco (Or.inl ⟨rfl, z⟩)))
                · rw [off_1 o6 (by decide)]; exact g8
                · rw [off_1 o6 (by decide), uI_at]; exact cu3'.2.1
            · refine ⟨j1, ?_⟩
              rw [cl1]
              have o18 : off [(11, 0, 18)] τ3 (uI τ3 11 0 18 A.1 y) := off_uI (off_rf _ _) (by decide)
              have fb : 1 ≤ f ∧ f ≤ 4 := by rcases hf with ⟨_, _, _, ef⟩ | ⟨_, ef⟩ <;> omega
              refine ft64 (e := e + 2) (f := f) (h := A.1) (by omega) (by omega) (by omega) h24 (by rw [off_1 o18 (by decide)]; exact f8') (by omega) (fun τ6 o6 => ?_)
              refine hF f (tkS n tb p3) τ6 ?_ fb.1 fb.2 (off_tr (off_tr (off_tr ho2 (off_in o3 (by decide))) (off_in o18 (by decide))) (off_in o6 (by decide))) ?_ ?_
              · rw [← hR, pr1, pr2]
                refine prs_no (Or.inl (by show ¬ 2 = 6; omega)) ?_
                rcases hf with ⟨w, hw, hb, ef⟩ | ⟨hw, ef⟩
                · rw [hw, ef]; exact if_neg hb
                · rw [ef]
                  cases z : (tkA n tb (tkS n tb p3)).1 using TK_el with
                  | wh w => exact absurd z (hw w)
                  | no => rfl
                  | fin => rfl
                  | wd l => rfl
                  | pa => rfl
                  | co => rfl
              · rw [off_1 o6 (by decide), off_1 o18 (by decide)]; exact f8'
              · rw [off_1 o6 (by decide), off_1 o18 (by decide)]; exact f9
          · have ew : enL l2 ≠ 777297172 := fun z => qw (enL_inj vt2.2.2 wg_v.2.2 (by rw [z, wg_en]))
            rw [if_neg ew]
            refine ⟨fun z => absurd (show (if 777297172 < enL l2 then (1 : Int32) else -1) = 0 from z) (by split <;> decide), fun _ => ?_⟩
            refine flt2 _ (by omega) ?_
            rw [← hR, pr1]
            exact prs_no (Or.inl (by show ¬ 1 = 6; omega)) (by rw [hl2]; exact if_neg qw)
      · refine ⟨trivial, c_flaw u1 (by omega) ?_⟩
        refine flt 4 _ _ _ _ _ _ _ (by omega) (by omega) i4 (by omega) ?_
        rw [← hR]
        exact prs_no (Or.inl (by show ¬ 0 = 6; omega)) (by rw [hl]; exact (if_neg nno).trans (if_pos q5))
  · refine ⟨trivial, c_flaw u1 (by omega) ?_⟩
    refine ⟨trivial, flt 1 _ _ _ _ _ _ _ (by omega) (by omega) oi_1 (by omega) ?_⟩
    rw [← hR]
    exact prs_no (Or.inl (by show ¬ 0 = 6; omega)) (st_0n q)
end RT
