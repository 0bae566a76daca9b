/-! the reference's readLine -/
section RL
variable {N e m : Nat} {σ : ST} {Q : POST} {n : Nat} {tb : Nat → Nat}
theorem l777 : Int64.ofInt 777297172 = lN 777297172 := by decide
/-- what the variable of the latest TIME holds -/
def tmI (A : RDc) : Int32 := if A.2.2.2.1 (A.1 - 1) = 0 then -1 else nI (A.2.2.2.2.2 (A.1 - 1) (A.2.2.2.1 (A.1 - 1) - 1))
theorem tmI_1 (A : RDc) : tmI A + Int32.ofInt 1 = nI (if A.2.2.2.1 (A.1 - 1) = 0 then 0 else A.2.2.2.2.2 (A.1 - 1) (A.2.2.2.1 (A.1 - 1) - 1) + 1) := by
  unfold tmI
  by_cases q : A.2.2.2.1 (A.1 - 1) = 0
  · rw [if_pos q, if_pos q]; decide
  · rw [if_neg q, if_neg q]; exact il_inc rfl
theorem wd_of {t : TK} (h : kdM t = 2) : ∃ l, t = .wd l := by
  cases t using TK_el with
  | wd l => exact ⟨l, rfl⟩
  | no => cases h
  | fin => cases h
  | wh v => cases h
  | pa => cases h
  | co => cases h
theorem st_wd {a0 : Nat} {A : RDc} {l : WL} (ha : a0 = 4 ∨ a0 = 6) : stp ⟨a0, A⟩ (.wd l) = hrd A l := by rcases ha with rfl | rfl <;> rfl
theorem st_4n {A : RDc} {t : TK} (h : ¬ kdM t = 2) : stp ⟨4, A⟩ t = .inl 1 := by
  cases t using TK_el with
  | wd l => exact absurd rfl h
  | no => rfl
  | fin => rfl
  | wh v => rfl
  | pa => rfl
  | co => rfl
set_option maxRecDepth 100000 in
theorem rl_loop {h0 rr : Nat} (hh0 : h0 < 5) {x1 : Int32} (e1 : x1 = nI h0) {R0 : PRc}
    (hF : ∀ f s' τ, R0 = .inl (f, s') → 1 ≤ f → f ≤ 4 → off rOfM σ τ → τ.1 11 0 8 0 = nI f → τ.1 11 0 9 0 = nI s' → Q none τ)
    (hO : ∀ A' p' r' τ, R0 = prs n tb (r' + 1) ⟨6, A'⟩ p' → r' < rr → vPS ⟨6, A'⟩ → p' ≤ n → n + 1 ≤ p' + (r' + 1) → off rOfM σ τ → mRX τ A' A'.1 → τ.1 11 0 24 0 = nI A'.1 → mCU τ n tb p' → (∀ l, (tkA n tb (tkS n tb p')).1 ≠ .wd l) → Q none τ) :
    ∀ (r p a0 m : Nat) (A : RDc) (τ : ST) (x2 x3 : Int32) (o4 o6 : Option AV), r ≤ rr → mTP τ n tb → p ≤ n → n + 1 ≤ p + (r + 1) → (a0 = 4 ∨ (a0 = 6 ∧ ∃ l, (tkA n tb (tkS n tb p)).1 = .wd l)) → vPS ⟨a0, A⟩ → A.1 = h0 + 1 → 200 * r + 60000 ≤ m → off rOfM σ τ → mRX τ A (h0 + 1) → τ.1 11 0 24 0 = nI h0 → mCU τ n tb p → prs n tb (r + 1) ⟨a0, A⟩ p = R0 → x2 = tmI A → x3 = nI 1 →
      wp N m (e + 4, 0) TX11_readLine 87 [some (.inr (.inr (11, 0, 0))), some (.inl x1), some (.inl x2), some (.inl x3), o4, none, o6] [] τ Q := by
  intro r
  induction r using Nat.strongRecOn with
  | ind r ih =>
    intro p a0 m A τ x2 x3 o4 o6 hrr c hp hr ha v hA hm ho hx h24 cu hR e2 e3
    have hn := c.2.1
    have ha' : a0 = 4 ∨ a0 = 6 := ha.elim Or.inl (fun z => Or.inr z.1)
    have hh : A.1 - 1 = h0 := by omega
    have vh := v.2.2.2 h0 (by show h0 < A.1; omega)
    simp only at vh
    have c12 : A.2.2.2.1 h0 ≤ 12 := vh.2.1
    obtain ⟨x15, x18, x19, xw⟩ := hx h0 (by omega)
    obtain ⟨n1, rfl⟩ := il_ex (K := 110) (m := m) (by omega)
    obtain ⟨u1, u2, u3, u4⟩ := cu
    have ck := mTK_k u4
    have kl := kdM_le (tkA n tb (tkS n tb p)).1
    have vt := tkA_v (n := n) (tb := tb) (tkS n tb p)
    have hs := tkS_le (tb := tb) hp
    have hAl := tkA_le (tb := tb) hs.2
    have flt : ∀ (f : Nat) (x : Int32) (m' : Nat) (o4 o6 : Option AV), 1 ≤ f → f ≤ 4 → x = nI f → 300 ≤ m' → R0 = .inl (f, tkS n tb p) → wp N m' (e + 4, 0) TX11_readLine 106 [some (.inr (.inr (11, 0, 0))), some (.inl x1), some (.inl x2), some (.inl x3), o4, none, o6] [] (uI (uI τ 11 0 8 0 x) 11 0 9 0 (τ.1 11 0 11 0)) Q := by
      intro f x m' o4 o6 f1 f4 ex hm' hR'
      have o1 : off rOfM σ (uI (uI τ 11 0 8 0 x) 11 0 9 0 (τ.1 11 0 11 0)) := off_uI (off_uI ho (by decide)) (by decide)
      have g8 : (uI (uI τ 11 0 8 0 x) 11 0 9 0 (τ.1 11 0 11 0)).1 11 0 8 0 = nI f := by rw [uI_nr _ _ _ _ _ _ (by decide), uI_at]; exact ex
      exact ft106 (e := e + 2) (f := f) (by omega) (by omega) g8 hm' (hF f _ _ hR' f1 f4 o1 g8 (by rw [uI_at]; exact u2))
    refine b_eq e3 z0 (by omega) (by omega) (fun q => by omega) (fun _ => ?_)
    refine b_eq ck i2 (by omega) (by omega) (fun q => ?_) (fun q => ?_)
    · obtain ⟨l, hl⟩ := wd_of q
      rw [hl] at vt u4
      have e19 : τ.1 11 0 19 x1.toNatClampNeg = nI (A.2.2.2.1 h0) := by rw [il_cl e1 (by omega)]; exact x19
      refine ⟨il_in e1 (by omega) (by omega), ?_⟩
      refine b_ne e19 i12 (by omega) (by omega) (fun q12 => ?_) (fun q12 => ?_)
      · have st1 : stp ⟨a0, A⟩ (tkA n tb (tkS n tb p)).1 = .inr ⟨5, aWd A l⟩ := by rw [hl, st_wd ha']; unfold hrd; rw [if_neg (by rw [hh]; exact q12)]
        obtain ⟨r1, er1, pr1, p2n, p2r⟩ := prs_go hp hr st1
        have v1 := vPS_wd v ha' vt (by rw [hh]; exact q12)
        refine ⟨trivial, c_goOnM (e := e + 1) c hAl.2.1 u1 u3 (by omega) ?_⟩
        intro τ1 o1 g1 g2 g3
        have ho1 : off rOfM σ τ1 := off_tr ho (off_in o1 (by decide))
        have c1 : mTP τ1 n tb := mTP_off o1 (by decide) (by decide) c
        have cu1 : mCU τ1 n tb (tkA n tb (tkS n tb p)).2 := ⟨by rw [off_1 o1 (by decide)]; exact u1, g1, g2, g3⟩
        have hx1 : mRX τ1 A (h0 + 1) := mRX_off o1 (by decide) (by decide) (by decide) (by decide) (by decide) hx
        have vt2 := tkA_v (n := n) (tb := tb) (tkS n tb (tkA n tb (tkS n tb p)).2)
        generalize hp2 : (tkA n tb (tkS n tb p)).2 = p2 at *
        have e2' := tmI_1 A
        rw [← e2, hh] at e2'
        have tmb : A.2.2.2.1 h0 ≠ 0 → A.2.2.2.2.2 h0 (A.2.2.2.1 h0 - 1) ≤ 999 := fun z => by
          rcases vh.2.2.2.2.2 (A.2.2.2.1 h0 - 1) (by omega) with y | y
          · omega
          · exact y
        have ab : (if A.2.2.2.1 h0 = 0 then 0 else A.2.2.2.2.2 h0 (A.2.2.2.1 h0 - 1) + 1) ≤ 1000 := by
          by_cases z : A.2.2.2.1 h0 = 0
          · rw [if_pos z]; omega
          · rw [if_neg z]; have := tmb z; omega
        have cW : (aWd A l).2.2.2.1 h0 = A.2.2.2.1 h0 + 1 := by show up1 A.2.2.2.1 (A.1 - 1) _ h0 = _; rw [hh, up1_k]
        have tmx : ∀ w, tmX (aWd A l) w ↔ ¬ (if A.2.2.2.1 h0 = 0 then 0 else A.2.2.2.2.2 h0 (A.2.2.2.1 h0 - 1) + 1) ≤ w := by
          intro w
          unfold tmX
          show (2 ≤ (aWd A l).2.2.2.1 (A.1 - 1) ∧ w ≤ A.2.2.2.2.2 (A.1 - 1) ((aWd A l).2.2.2.1 (A.1 - 1) - 2)) ↔ _
          rw [hh, cW, show A.2.2.2.1 h0 + 1 - 2 = A.2.2.2.1 h0 - 1 by omega]
          by_cases z : A.2.2.2.1 h0 = 0
          · rw [if_pos z]; omega
          · rw [if_neg z]; omega
        refine ⟨trivial, c_readWhole (e := e) c1 p2n cu1 (by omega) (by omega) e2' i999 (by omega) (fun w τ2 hw w1 w2 o2 cu2 => ?_) (fun f y τ2 hf o2 f8 f9 => ?_)⟩
        · have st2 : stp ⟨5, aWd A l⟩ (tkA n tb (tkS n tb p2)).1 = .inr ⟨6, aTm (aWd A l) w⟩ := by
            rw [hw]; exact if_neg (fun z => (tmx w).mp z w1)
          rw [er1] at hR pr1
          obtain ⟨r2, er2, pr2, p3n, p3r⟩ := prs_go p2n p2r st2
          rw [hw] at vt2
          have v2 := vPS_tm v1 vt2
          have ho2 : off rOfM σ τ2 := off_tr ho1 (off_in o2 (by decide))
          have hx2 : mRX τ2 A (h0 + 1) := mRX_off o2 (by decide) (by decide) (by decide) (by decide) (by decide) hx1
          have c2 : mTP τ2 n tb := mTP_off o2 (by decide) (by decide) c1
          have f19 : τ2.1 11 0 19 h0 = nI (A.2.2.2.1 h0) := (hx2 h0 (by omega)).2.2.1
          have cl1 : x1.toNatClampNeg = h0 := il_cl e1 (by omega)
          have gi : (Int8.ofInt 12).toInt32 * x1 + τ2.1 11 0 19 x1.toNatClampNeg = nI (12 * h0 + A.2.2.2.1 h0) := by rw [cl1, f19, e1, i12, pk_mul, nI_add]
          have j1 := il_in e1 (show h0 < 5 by omega) (by omega)
          have w14 : τ.2 11 0 14 0 = lN (enL l) := u4.2
          refine b_ne cu2.1 z0 (by omega) (by omega) (fun z => absurd rfl z) (fun _ => ?_)
          refine ⟨j1, il_in gi (by omega) (by omega), ?_⟩
          rw [show ((Int8.ofInt 12).toInt32 * x1 + τ2.1 11 0 (18 + 1) x1.toNatClampNeg).toNatClampNeg = 12 * h0 + A.2.2.2.1 h0 from il_cl gi (by omega)]
          have gi2 : (Int8.ofInt 12).toInt32 * x1 + (uL τ2 11 0 16 (12 * h0 + A.2.2.2.1 h0) (τ.2 11 0 14 0)).1 11 0 19 x1.toNatClampNeg = nI (12 * h0 + A.2.2.2.1 h0) := gi
          refine ⟨j1, il_in gi2 (by omega) (by omega), ?_⟩
          rw [show ((Int8.ofInt 12).toInt32 * x1 + (uL τ2 11 0 16 (12 * h0 + A.2.2.2.1 h0) (τ.2 11 0 (13 + 1) 0)).1 11 0 (18 + 1) x1.toNatClampNeg).toNatClampNeg = 12 * h0 + A.2.2.2.1 h0 from il_cl gi2 (by omega)]
          refine ⟨j1, j1, ?_⟩
          rw [cl1]
          have o3 : off [(11, 0, 16), (11, 0, 20), (11, 0, 19)] τ2 (uI (uI (uL τ2 11 0 16 (12 * h0 + A.2.2.2.1 h0) (τ.2 11 0 14 0)) 11 0 20 (12 * h0 + A.2.2.2.1 h0) (nI w)) 11 0 19 h0 ((uI (uL τ2 11 0 16 (12 * h0 + A.2.2.2.1 h0) (τ.2 11 0 14 0)) 11 0 20 (12 * h0 + A.2.2.2.1 h0) (nI w)).1 11 0 19 h0 + Int32.ofInt 1)) := off_uI (off_uI (off_uL (off_rf _ _) (by decide)) (by decide)) (by decide)
          have hx3 : mRX (uI (uI (uL τ2 11 0 16 (12 * h0 + A.2.2.2.1 h0) (τ.2 11 0 14 0)) 11 0 20 (12 * h0 + A.2.2.2.1 h0) (nI w)) 11 0 19 h0 ((uI (uL τ2 11 0 16 (12 * h0 + A.2.2.2.1 h0) (τ.2 11 0 14 0)) 11 0 20 (12 * h0 + A.2.2.2.1 h0) (nI w)).1 11 0 19 h0 + Int32.ofInt 1)) (aTm (aWd A l) w) (h0 + 1) := by
            intro h hlt
            obtain ⟨y15, y18, y19, yw⟩ := hx2 h hlt
            have vk := (v.2.2.2 h (by show h < A.1; omega)).2.1
            simp only at vk
            show _ = lN (enL (A.2.1 h)) ∧ _ = nI (A.2.2.1 h) ∧ _ = nI ((aWd A l).2.2.2.1 h) ∧ ∀ i, i < (aWd A l).2.2.2.1 h → _ = lN (enL (up2 A.2.2.2.2.1 (A.1 - 1) (A.2.2.2.1 (A.1 - 1)) l h i)) ∧ _ = nI (up2 A.2.2.2.2.2 (A.1 - 1) ((aWd A l).2.2.2.1 (A.1 - 1) - 1) w h i)
            rw [hh, cW, show A.2.2.2.1 h0 + 1 - 1 = A.2.2.2.1 h0 by omega]
            refine ⟨by rw [off_2 o3 (by decide)]; exact y15, by rw [off_1 o3 (by decide)]; exact y18, ?_, fun i hi => ?_⟩
            · by_cases z : h = h0
              · rw [z, uI_at, uI_nr _ _ _ _ _ _ (by decide), uL_1, f19, cW]; exact il_inc rfl
              · rw [uI_ne _ _ _ _ _ _ z, uI_nr _ _ _ _ _ _ (by decide), uL_1, y19]
                show _ = nI (up1 A.2.2.2.1 (A.1 - 1) _ h)
                rw [up1_n (by omega)]
            · have e16 : ∀ z, (uI (uI (uL τ2 11 0 16 (12 * h0 + A.2.2.2.1 h0) (τ.2 11 0 14 0)) 11 0 20 (12 * h0 + A.2.2.2.1 h0) (nI w)) 11 0 19 h0 ((uI (uL τ2 11 0 16 (12 * h0 + A.2.2.2.1 h0) (τ.2 11 0 14 0)) 11 0 20 (12 * h0 + A.2.2.2.1 h0) (nI w)).1 11 0 19 h0 + Int32.ofInt 1)).2 11 0 16 z = if z = 12 * h0 + A.2.2.2.1 h0 then τ.2 11 0 14 0 else τ2.2 11 0 16 z := fun z => by rw [uI_2, uI_2, uL_if]
              have e20 : ∀ z, (uI (uI (uL τ2 11 0 16 (12 * h0 + A.2.2.2.1 h0) (τ.2 11 0 14 0)) 11 0 20 (12 * h0 + A.2.2.2.1 h0) (nI w)) 11 0 19 h0 ((uI (uL τ2 11 0 16 (12 * h0 + A.2.2.2.1 h0) (τ.2 11 0 14 0)) 11 0 20 (12 * h0 + A.2.2.2.1 h0) (nI w)).1 11 0 19 h0 + Int32.ofInt 1)).1 11 0 20 z = if z = 12 * h0 + A.2.2.2.1 h0 then nI w else τ2.1 11 0 20 z := fun z => by rw [uI_nr _ _ _ _ _ _ (by decide), uI_if, uL_1]
              rw [e16, e20]
              by_cases z : h = h0
              · subst z
                rw [cW] at hi
                by_cases z2 : i = A.2.2.2.1 h
                · rw [if_pos (by omega), if_pos (by omega), z2, up2_k, up2_k]; exact ⟨w14, rfl⟩
                · rw [if_neg (by omega), if_neg (by omega), up2_n (by omega), up2_n (by omega)]; exact yw i (by omega)
              · have hi : i < up1 A.2.2.2.1 (A.1 - 1) (A.2.2.2.1 (A.1 - 1) + 1) h := hi
                rw [up1_n (by omega)] at hi
                rw [if_neg (by omega), if_neg (by omega), up2_n (by omega), up2_n (by omega)]; exact yw i hi
          have cu3 := mCU_off o3 (by intro j hj; simp at hj ⊢; omega) cu2
          have c3 := mTP_off o3 (by decide) (by decide) c2
          have ho3 : off rOfM σ _ := off_tr ho2 (off_in o3 (by decide))
          have h24' : (uI (uI (uL τ2 11 0 16 (12 * h0 + A.2.2.2.1 h0) (τ.2 11 0 14 0)) 11 0 20 (12 * h0 + A.2.2.2.1 h0) (nI w)) 11 0 19 h0 ((uI (uL τ2 11 0 16 (12 * h0 + A.2.2.2.1 h0) (τ.2 11 0 14 0)) 11 0 20 (12 * h0 + A.2.2.2.1 h0) (nI w)).1 11 0 19 h0 + Int32.ofInt 1)).1 11 0 24 0 = nI h0 := by rw [off_1 o3 (by decide), off_1 o2 (by decide), off_1 o1 (by decide)]; exact h24
          generalize hτ3 : uI (uI (uL τ2 11 0 16 (12 * h0 + A.2.2.2.1 h0) (τ.2 11 0 14 0)) 11 0 20 (12 * h0 + A.2.2.2.1 h0) (nI w)) 11 0 19 h0 ((uI (uL τ2 11 0 16 (12 * h0 + A.2.2.2.1 h0) (τ.2 11 0 14 0)) 11 0 20 (12 * h0 + A.2.2.2.1 h0) (nI w)).1 11 0 19 h0 + Int32.ofInt 1) = τ3 at *
          have hR2 : prs n tb (r2 + 1) ⟨6, aTm (aWd A l) w⟩ (tkA n tb (tkS n tb p2)).2 = R0 := by rw [← hR, pr1, pr2]
          have ck3 := mTK_k cu3.2.2.2
          have kl3 := kdM_le (tkA n tb (tkS n tb (tkA n tb (tkS n tb p2)).2)).1
          refine b_ne cu3.1 z0 (by omega) (by omega) (fun z => absurd rfl z) (fun _ => ?_)
          refine b_ne ck3 i2 (by omega) (by omega) (fun qn => ?_) (fun qy => ?_)
          · refine ⟨trivial, ?_⟩
            refine b_eq (a := 0) oi_0 z0 (by omega) (by omega) (fun _ => ?_) (fun z => absurd rfl z)
            refine b_ne cu3.1 z0 (by omega) (by omega) (fun z => absurd rfl z) (fun _ => ?_)
            have o4 : off [(11, 0, 24)] τ3 (uI τ3 11 0 24 0 (τ3.1 11 0 24 0 + Int32.ofInt 1)) := off_uI (off_rf _ _) (by decide)
            refine hO _ _ r2 _ hR2.symm (by omega) v2 p3n p3r (off_tr ho3 (off_in o4 (by decide))) ?_ ?_ (mCU_off o4 (by decide) cu3) (fun l' z => qn (by rw [z]; rfl))
            · show mRX _ _ A.1
              rw [hA]
              exact mRX_off o4 (by decide) (by decide) (by decide) (by decide) (by decide) hx3
            · rw [uI_at]
              show _ = nI A.1
              rw [hA]; exact il_inc h24'
          · refine ⟨trivial, trivial, ih r2 (by omega) (tkA n tb (tkS n tb p2)).2 6 _ _ τ3 _ _ _ _ (by omega) c3 p3n p3r (Or.inr ⟨rfl, wd_of qy⟩) v2 hA (by omega) ho3 hx3 h24' cu3 hR2 ?_ oi_1⟩
            unfold tmI
            show nI w = if (aWd A l).2.2.2.1 (A.1 - 1) = 0 then -1 else nI (up2 A.2.2.2.2.2 (A.1 - 1) ((aWd A l).2.2.2.1 (A.1 - 1) - 1) w (A.1 - 1) ((aWd A l).2.2.2.1 (A.1 - 1) - 1))
            rw [hh, cW, if_neg (by omega), up2_k]
        · have st2 : stp ⟨5, aWd A l⟩ (tkA n tb (tkS n tb p2)).1 = .inl f := by
            rcases hf with ⟨w, hw, hb, ef⟩ | ⟨hw, ef⟩
            · rw [hw, ef]
              refine if_pos ((tmx w).mpr (fun z => hb ⟨z, ?_⟩))
              rw [hw] at vt2
              exact vt2
            · rw [ef]
              cases z : (tkA n tb (tkS n tb p2)).1 using TK_el with
              | wh w => exact absurd z (hw w)
              | no => rfl
              | fin => rfl
              | wd l => rfl
              | pa => rfl
              | co => rfl
          have fb : 1 ≤ f ∧ f ≤ 4 := by rcases hf with ⟨_, _, _, ef⟩ | ⟨_, ef⟩ <;> omega
          have hR2 : R0 = .inl (f, tkS n tb p2) := by
            rw [← hR, pr1]
            exact prs_no (Or.inl (by show ¬ 5 = 6; omega)) st2
          exact ft117 (e := e + 2) (f := f) (by omega) (by omega) f8 (by omega) (hF f _ τ2 hR2 fb.1 fb.2 (off_tr ho1 (off_in o2 (by decide))) f8 f9)
      · refine ⟨trivial, c_flaw u1 (by omega) ?_⟩
        refine flt 4 _ _ _ _ (by omega) (by omega) i4 (by omega) ?_
        rw [← hR]
        refine prs_no (Or.inr (by rw [hl]; intro z; cases z)) ?_
        rw [hl, st_wd ha']
        unfold hrd
        rw [if_pos (by rw [hh]; exact q12)]
    · have h4 : a0 = 4 := by
        rcases ha with z | ⟨_, l, z⟩
        · exact z
        · rw [z] at q; exact absurd rfl q
      subst h4
      refine ⟨trivial, c_flaw u1 (by omega) ?_⟩
      refine ⟨trivial, flt 1 _ _ _ _ (by omega) (by omega) oi_1 (by omega) ?_⟩
      rw [← hR]
      exact prs_no (Or.inl (by show ¬ 4 = 6; omega)) (st_4n q)
end RL
