/-! ===== the calls, side by side: check ===== -/
/-- what is due at the hour i: the roofs' water, the street's snow; what is told is right there -/
def gA (g : NF) (T h m i : Nat) : Int32 := gSum (gHours g T h m (i + 1)).1 4 m
def gS (g : NF) (T h m i : Nat) : Int32 := (gHours g T h m (i + 1)).1 4
def gOk1 (g tl : NF) (T h m L i : Nat) : Prop := 2 * i < L ∧ tl (2 * i) = gA g T h m i
def gOk2 (g tl : NF) (T h m L i : Nat) : Prop := 2 * i + 1 < L ∧ tl (2 * i + 1) = gS g T h m i
def CkV (M0 : Mem) (g : NF) (T h m i : Nat) (V : Mem) : Prop := V 25 0 = (gHours g T h m i).1 ∧ ∀ r, ¬ r = 25 → ¬ r = 35 → ¬ r = 36 → V r 0 = M0 r 0
section OPS22
variable {d D : Nat} {V W X M X1 M1 M0 : Mem} {P : Option AV → Mem → Prop} {w v m h T i j k r t u q m1 h1 s p z1 z2 L N T1 : Nat} {n n1 g tl : NF} {a b c x y z kk ss : Int32} {B B1 : Int}
theorem x_isWaiting (ea : a = nI j) (hj : j < 60) (eb : b = nI L) (hL : L ≤ 60) (hT : j < L → V 21 0 j = x → P (some (aI 1)) V) (hF : ¬ (j < L ∧ V 21 0 j = x) → P (some (aI 0)) V) : Cl UX (d + 1) mX6_isWaiting [aR 0 0, aI a, aI b, aI x] V P := by
  refine clX6_isWaiting a b x V ?_
  unfold wpX6_isWaiting_0
  rw [ea, eb]
  refine ⟨fun c => hF (fun q => absurd c (nI_ge q.1 (by omega))), fun c => ⟨j, rfl, hj, fun q => hF (fun z => q z.2), fun q => hT ?_ q⟩⟩
  rcases Nat.lt_or_ge j L with z | z
  · exact z
  · exact absurd (nI_le z (by omega)) c
theorem two_nI : (2 : Int32) * nI i = nI (2 * i) := by rw [show (2 : Int32) = nI 2 from rfl, pk_mul]
/-- one turn of the reference's loop -/
theorem r_ckturn {I : Int32 → Int32 → Int32 → Int32 → Int32 → Mem → Prop} (hLI : LawI g T1) (e1 : g 1 = nI m1) (hm1 : m1 ≤ 8) (e2 : g 2 = nI h1) (hh1 : h1 ≤ 9999) (hL : L ≤ 60) (hN : N ≤ 30) (hi : i < N) (hV : CkV M0 g T1 h1 m1 i V) (htl : ∀ j, j < L → M0 45 0 j = tl j) {rr : Nat}
    (o1 : ¬ gOk1 g tl T1 h1 m1 L i → rr = 2 * i) (o2 : gOk1 g tl T1 h1 m1 L i → ¬ gOk2 g tl T1 h1 m1 L i → rr = 2 * i + 1) (o3 : gOk1 g tl T1 h1 m1 L i → gOk2 g tl T1 h1 m1 L i → rr = 2 * (i + 1))
    (hI : ∀ W, CkV M0 g T1 h1 m1 (i + 1) W → I a (nI L) (nI (2 * N)) (nI rr) (nI (i + 1)) W) : wpX7_check_80 (Cl UM (d + 11)) I a (nI L) (nI (2 * N)) (nI (2 * i)) (nI i) V P := by
  unfold wpX7_check_80 wpX7_check_130 wpX7_check_131
  have l0 : LawI (V 25 0) T1 := by rw [hV.1]; exact gHours_law hLI hm1
  have l1 : V 25 0 1 = nI m1 := by rw [hV.1, gHours_o (not_hot (by omega) (by omega)) i]; exact e1
  have l2 : V 25 0 2 = nI (h1 + i) := by rw [hV.1]; exact gHours_2 e2 i
  refine ⟨fun c => ?_, fun _ => ⟨fun c => absurd two_nI.symm c, fun _ => r_hour l0 l1 hm1 l2 (by omega) (fun f s => ⟨_, rfl, ?_⟩)⟩⟩
  · rw [two_nI] at c; exact absurd c (nI_ge (by omega) (by omega))
  have hW : CkV M0 g T1 h1 m1 (i + 1) (M3 V (gHour (V 25 0) T1 (h1 + i) m1).1 f s) := by
    refine ⟨by rw [M3_n, hV.1]; rfl, fun r c1 c2 c3 => by rw [M3_o c1 c3 c2, hV.2 r c1 c2 c3]⟩
  generalize M3 V (gHour (V 25 0) T1 (h1 + i) m1).1 f s = V1 at hW ⊢
  have h45 : ∀ j, j < L → V1 45 0 j = tl j := fun j hj => by rw [hW.2 45 (by decide) (by decide) (by decide), htl j hj]
  have e25 : V1 25 0 1 = nI m1 := by rw [hW.1, gHours_o (not_hot (by omega) (by omega)) (i + 1)]; exact e1
  have n0 : ∀ x : Int32, x + 0 = x := Int32.add_zero
  have Z0 : ¬ gOk1 g tl T1 h1 m1 L i → ∀ z_1 : Int32, z_1 = nI (2 * i) + 0 → ((¬ z_1 = ((2 * nI i) + 1) → (∀ z_2 : Int32, z_2 = (z_1 + 0) → I a (nI L) (nI (2 * N)) z_2 (nI i + 1) V1)) ∧ (z_1 = ((2 * nI i) + 1) → ((nI L ≤ z_1 → (∀ z_3 : Int32, z_3 = (z_1 + 0) → I a (nI L) (nI (2 * N)) z_3 (nI i + 1) V1)) ∧ (¬ nI L ≤ z_1 → (∃ j_4 : Nat, z_1 = nI j_4 ∧ j_4 < 60 ∧ ((¬ (V1 45 0 j_4) = (V1 25 0 4) → (∀ z_5 : Int32, z_5 = (z_1 + 0) → I a (nI L) (nI (2 * N)) z_5 (nI i + 1) V1)) ∧ ((V1 45 0 j_4) = (V1 25 0 4) → (∀ z_6 : Int32, z_6 = (z_1 + 1) → I a (nI L) (nI (2 * N)) z_6 (nI i + 1) V1)))))))) := by
    intro no z1 ez
    rw [n0] at ez
    refine ⟨fun _ z2 ez2 => ?_, fun q => ?_⟩
    · rw [ez2, n0, ez, nI_1, ← o1 no]
      exact hI V1 hW
    · rw [ez, two_nI, nI_1] at q
      exact absurd ((nI_eq (by omega) (by omega)).mp q) (by omega)
  refine ⟨fun c => Z0 (fun q => absurd c (nI_ge q.1 (by omega))), fun c => ?_⟩
  have hl : 2 * i < L := by
    rcases Nat.lt_or_ge (2 * i) L with z | z
    · exact z
    · exact absurd (nI_le z (by omega)) c
  refine ⟨2 * i, rfl, by omega, r_sum (k := 4) rfl (by omega) e25 hm1 ⟨_, rfl, fun c2 => Z0 (fun q => ?_), fun c2 => ?_⟩⟩
  · refine c2 ?_
    rw [h45 _ hl, hW.1]
    exact q.2
  · have ok1 : gOk1 g tl T1 h1 m1 L i := ⟨hl, by rw [← h45 _ hl, c2, hW.1]; rfl⟩
    intro z1 ez
    have ez : z1 = nI (2 * i + 1) := by rw [ez]; exact nI_1 (2 * i)
    refine ⟨fun q => ?_, fun _ => ⟨fun q z3 e3 => ?_, fun q => ⟨2 * i + 1, ez, by omega, fun q2 z5 e5 => ?_, fun q2 z6 e6 => ?_⟩⟩⟩
    · rw [ez, two_nI, nI_1] at q; exact absurd rfl q
    · rw [ez] at q
      rw [e3, n0, ez, nI_1, ← o2 ok1 (fun z => absurd q (nI_ge z.1 (by omega)))]
      exact hI V1 hW
    · rw [ez] at q
      have hl2 : 2 * i + 1 < L := by
        rcases Nat.lt_or_ge (2 * i + 1) L with z | z
        · exact z
        · exact absurd (nI_le z (by omega)) q
      rw [e5, n0, ez, nI_1, ← o2 ok1 (fun z => q2 (by rw [h45 _ hl2, hW.1]; exact z.2))]
      exact hI V1 hW
    · rw [ez] at q
      have hl2 : 2 * i + 1 < L := by
        rcases Nat.lt_or_ge (2 * i + 1) L with z | z
        · exact z
        · exact absurd (nI_le z (by omega)) q
      rw [e6, ez, nI_1, nI_1, show 2 * i + 1 + 1 = 2 * (i + 1) by omega, ← o3 ok1 ⟨hl2, by rw [← h45 _ hl2, q2, hW.1]; rfl⟩]
      exact hI V1 hW
theorem op_check (hG : GR X M) : OP (d + 12) mX6_check mX7_check [aI a] X M := by
  obtain ⟨m, T, h, hN, hR⟩ := id hG
  obtain ⟨L, l1, l2, l3, l4⟩ := id hR.2.2.2.2.1
  have G0 : GR (mu X 0 0 11 0) (mu M 24 0 32 0) := GR.wt hN hR (fun r i q _ => by rw [mu_eq, ma_ne q]) (fun k hk => mu_sn hk) (fun r q _ => mu_o q) (fun k hk => mu_sn hk) ⟨0, by omega, by rw [mu_sk]; rfl, by rw [mu_sk]; rfl, fun k hk => absurd hk (by omega)⟩
  obtain ⟨i1, i2⟩ := id hR.1
  by_cases hc : 1 ≤ a ∧ a ≤ 30
  · by_cases hi : M 24 0 3 = 0
    · refine clX6_check (I60 := fun _ _ _ _ _ => False) a X (fun _ _ _ _ _ q => q.elim) ?_
      unfold wpX6_check_0
      intro z ez V2 e2
      have e4 : V2 0 0 4 = 0 := by rw [e2, mu_sn (by omega), i1, hi]
      refine xwT hc ⟨_, rfl, t2 ⟨fun q => absurd e4 q, fun _ => ⟨_, rfl, ?_⟩⟩⟩
      refine clX7_check (I80 := fun _ _ _ _ _ _ => False) a M (fun _ _ _ _ _ _ q => q.elim) ?_
      unfold wpX7_check_0
      intro z' ez' W2 g2
      have g4 : W2 24 0 3 = 0 := by rw [g2, mu_sn (by omega), hi]
      exact rwT hc ⟨_, rfl, t2 ⟨fun q => absurd g4 q, fun _ => ⟨rfl, by rw [e2, g2]; exact G0⟩⟩⟩
    · obtain ⟨e3, m1, T1, h1, hS, hh1, hT1⟩ := i2.resolve_left hi
      obtain ⟨k, hk, ea⟩ := in_nI (N := 30) (by omega) (a := a) ⟨by
        have := ti_le.mp hc.1
        rw [show (1 : Int32).toInt = 1 from rfl] at this
        rw [ti_le, ti0]; omega, hc.2⟩
      obtain ⟨N, eN⟩ : ∃ N, N = if 9999 - h1 < k then 9999 - h1 else k := ⟨_, rfl⟩
      have hN30 : N ≤ 30 := by rw [eN]; split <;> omega
      have eh : (9999 : Int32) - nI h1 = nI (9999 - h1) := pk_sub (a := 9999) hh1
      have cN : (if nI (9999 - h1) < nI k then nI (9999 - h1) else nI k) = nI N := by
        rw [eN]
        by_cases q : 9999 - h1 < k
        · rw [if_pos q, if_pos (nI_lt q (by omega))]
        · rw [if_neg q, if_neg (fun z => q ((nI_ltI (by omega) (by omega)).mp z))]
      have rN : wi (nI (9999 - h1)) 0 (nI k) = nI N := by
        unfold wi
        rw [if_neg (nI_pos (by omega)), eN]
        by_cases q : 9999 - h1 < k
        · rw [if_pos q, if_neg (nI_nlt (by omega) (by omega))]
        · rw [if_neg q]
          by_cases q2 : k < 9999 - h1
          · rw [if_pos (nI_lt q2 (by omega))]
          · rw [if_neg (nI_nlt (by omega) (by omega)), show 9999 - h1 = k by omega]
      -- the image's row, as the reference lays it over now
      obtain ⟨g, eg⟩ : ∃ g, g = cpf (M 25 0) (M 26 0) 1479 := ⟨_, rfl⟩
      obtain ⟨X0, eX0⟩ : ∃ X0, X0 = mu X 0 0 11 0 := ⟨_, rfl⟩
      obtain ⟨M0, eM0⟩ : ∃ M0, M0 = ma (ma (mu M 24 0 32 0) 27 0 (cpf (M 27 0) (M 25 0) 1479)) 25 0 g := ⟨_, rfl⟩
      have xo : ∀ r i, ¬ r = 0 → X0 r i = X r i := fun r i q => by rw [eX0, mu_o q]
      have hS0 : WS X0 1 g m1 T1 h1 (738 * (h1 : Int)) := WS.row (n := M 26 0) (hS.eq (xo 2 1 (by omega)) (xo 14 1 (by omega)) (xo 15 1 (by omega)) (xo 16 1 (by omega)) (fun i _ => xo 3 _ (by omega)) (xo 7 0 (by omega)) (xo 8 0 (by omega)) (xo 9 0 (by omega)) (fun t _ => xo 11 t (by omega))) (fun j hj => by rw [eg]; exact cpf_lt hj)
      obtain ⟨p1, p2, p3, p4, p5, p6, p7⟩ := id hS0
      have hm1 := p1.2.1
      have htl : ∀ j, j < L → M0 45 0 j = X 21 0 j := fun j hj => by rw [eM0, ma_o (by decide), ma_o (by decide), mu_o (by decide)]; exact (l4 j hj).symm
      -- the end of the reference
      have FIN : ∀ (V X1 : Mem), TH X0 X1 → (∀ r, ¬ r = 25 → ¬ r = 35 → ¬ r = 36 → V r 0 = M0 r 0) → GR X1 (ma V 25 0 (cpf (V 25 0) (V 27 0) 1479)) := by
        intro V X1 hX1 hV
        obtain ⟨m', T', h', hN', hR'⟩ := G0
        rw [← eX0] at hN' hR'
        refine ⟨m', T', h', ⟨?_, hN'.2⟩, hR'.eq (fun r i q => hX1 r i (fun z => q (th_now z))) (fun r q => ?_)⟩
        · rw [ma_same]
          have := hN'.1.row (n1 := cpf (V 25 0) (V 27 0) 1479) (fun j hj => by rw [cpf_lt hj, hV 27 (by decide) (by decide) (by decide), eM0, ma_o (by decide), ma_same, cpf_lt hj, mu_o (by decide)])
          exact TH.ws this hX1
        · unfold nowM at q
          rw [ma_o (by omega), hV r (by omega) (by omega) (by omega), eM0, ma_o (by omega), ma_o (by omega)]
      have R : ∀ (kk : Nat) (a0 : Int32) (X1 : Mem), TH X0 X1 → kk ≤ N → (∀ i, i < kk → gOk1 g (X 21 0) T1 h1 m1 L i ∧ gOk2 g (X 21 0) T1 h1 m1 L i) → ((kk = N ∧ a0 = if L ≤ 2 * N then 0 else nI (1 + 2 * N)) ∨ (kk < N ∧ ¬ gOk1 g (X 21 0) T1 h1 m1 L kk ∧ a0 = nI (1 + 2 * kk)) ∨ (kk < N ∧ gOk1 g (X 21 0) T1 h1 m1 L kk ∧ ¬ gOk2 g (X 21 0) T1 h1 m1 L kk ∧ a0 = nI (2 + 2 * kk))) → Cl UM (d + 12) mX7_check [aR 24 0, aI a] M (fun v2 M1 => v2 = some (aI a0) ∧ GR X1 M1) := by
        intro kk a0 X1 hX1 hkk hok hend
        have E : ∀ (I : Int32 → Int32 → Int32 → Int32 → Int32 → Mem → Prop) (V : Mem) (rr : Nat) (x5 : Int32), rr ≤ 60 → (∀ r, ¬ r = 25 → ¬ r = 35 → ¬ r = 36 → V r 0 = M0 r 0) → (rr = L → rr = 2 * N → a0 = 0) → (¬ (rr = L ∧ rr = 2 * N) → a0 = nI (1 + rr)) → wpX7_check_183 (Cl UM (d + 11)) I a (nI L) (nI (2 * N)) (nI rr) x5 V (fun v2 M1 => v2 = some (aI a0) ∧ GR X1 M1) := by
          intro I V rr x5 hrr hV q1 q2
          unfold wpX7_check_183
          refine r_copy_27_25 ⟨rfl, fun c => ⟨?_, FIN V X1 hX1 hV⟩, fun c => ⟨fun c2 => ⟨?_, FIN V X1 hX1 hV⟩, fun c2 => ⟨?_, FIN V X1 hX1 hV⟩⟩⟩
          · rw [q2 (fun z => c (by rw [z.1]))]
            exact congrArg (fun x => some (aI x)) (nI_add 1 rr)
          · rw [q2 (fun z => c2 (by rw [z.2]))]
            exact congrArg (fun x => some (aI x)) (nI_add 1 rr)
          · rw [q1 ((nI_eq (by omega) (by omega)).mp c) ((nI_eq (by omega) (by omega)).mp c2)]
        have hd : ∀ (I : Int32 → Int32 → Int32 → Int32 → Int32 → Mem → Prop) (V : Mem) (rr : Nat), rr ≤ 60 → ¬ rr = 2 * (kk + 1) → (∀ r, ¬ r = 25 → ¬ r = 35 → ¬ r = 36 → V r 0 = M0 r 0) → (rr = L → rr = 2 * N → a0 = 0) → (¬ (rr = L ∧ rr = 2 * N) → a0 = nI (1 + rr)) → wpX7_check_80 (Cl UM (d + 11)) I a (nI L) (nI (2 * N)) (nI rr) (nI (kk + 1)) V (fun v2 M1 => v2 = some (aI a0) ∧ GR X1 M1) := by
          intro I V rr hrr hne hV q1 q2
          unfold wpX7_check_80
          refine ⟨fun _ => E I V rr _ hrr hV q1 q2, fun _ => ⟨fun _ => E I V rr _ hrr hV q1 q2, fun c => ?_⟩⟩
          rw [two_nI] at c
          exact absurd ((nI_eq (by omega) (by omega)).mp c) hne
        have LR : ∀ q i, i + q = kk → ∀ V, CkV M0 g T1 h1 m1 i V → Gq (Kp (d + 12) mX7_check UM (fun v2 M1 => v2 = some (aI a0) ∧ GR X1 M1)) UM cX7_check 7 RX7 80 [(0, aR 24 0), (1, aI a), (2, aI (nI L)), (3, aI (nI (2 * N))), (4, aI (nI (2 * i))), (5, aI (nI i))] [] V := by
          intro q
          induction q with
          | zero =>
            intro i hi V hV
            have hi : i = kk := by omega
            subst hi
            rcases hend with ⟨n1, n2⟩ | ⟨n1, n2, n3⟩ | ⟨n1, n2, n3, n4⟩
            · subst n1
              refine okX7_check_80 (I80 := fun _ _ _ _ _ _ => False) a _ _ _ _ V (fun _ _ _ _ _ _ q => q.elim) ?_
              unfold wpX7_check_80
              have hLN : 2 * i ≤ L := by
                rcases Nat.eq_zero_or_pos i with z | z
                · omega
                · have := (hok (i - 1) (by omega)).2.1
                  omega
              refine ⟨fun _ => E _ V (2 * i) _ (by omega) hV.2 (fun z _ => by rw [n2, if_pos (by omega)]) (fun z => by rw [n2, if_neg (by omega)]), fun c => absurd ?_ c⟩
              rw [two_nI]
              exact nI_le (Nat.le_refl _) (by omega)
            · refine okX7_check_80 (I80 := fun x1 x2 x3 x4 x5 W => x1 = a ∧ x2 = nI L ∧ x3 = nI (2 * N) ∧ x4 = nI (2 * i) ∧ x5 = nI (i + 1) ∧ CkV M0 g T1 h1 m1 (i + 1) W) a _ _ _ _ V (fun x1 x2 x3 x4 x5 W z => ?_) ?_
              · obtain ⟨rfl, rfl, rfl, rfl, rfl, hW⟩ := z
                refine okX7_check_80 (I80 := fun _ _ _ _ _ _ => False) x1 _ _ _ _ W (fun _ _ _ _ _ _ q => q.elim) ?_
                exact hd _ W (2 * i) (by omega) (by omega) hW.2 (fun _ z => by omega) (fun _ => n3)
              · exact r_ckturn p4 p1.1 hm1 p7 hh1 l1 hN30 n1 hV htl (rr := 2 * i) (fun _ => rfl) (fun z => absurd z n2) (fun z => absurd z n2) (fun W hW => ⟨rfl, rfl, rfl, rfl, rfl, hW⟩)
            · refine okX7_check_80 (I80 := fun x1 x2 x3 x4 x5 W => x1 = a ∧ x2 = nI L ∧ x3 = nI (2 * N) ∧ x4 = nI (2 * i + 1) ∧ x5 = nI (i + 1) ∧ CkV M0 g T1 h1 m1 (i + 1) W) a _ _ _ _ V (fun x1 x2 x3 x4 x5 W z => ?_) ?_
              · obtain ⟨rfl, rfl, rfl, rfl, rfl, hW⟩ := z
                refine okX7_check_80 (I80 := fun _ _ _ _ _ _ => False) x1 _ _ _ _ W (fun _ _ _ _ _ _ q => q.elim) ?_
                exact hd _ W (2 * i + 1) (by omega) (by omega) hW.2 (fun _ z => by omega) (fun _ => by rw [n4]; exact congrArg nI (by omega))
              · exact r_ckturn p4 p1.1 hm1 p7 hh1 l1 hN30 n1 hV htl (rr := 2 * i + 1) (fun z => absurd n2 z) (fun _ _ => rfl) (fun _ z => absurd z n3) (fun W hW => ⟨rfl, rfl, rfl, rfl, rfl, hW⟩)
          | succ q ih =>
            intro i hi V hV
            refine okX7_check_80 (I80 := fun x1 x2 x3 x4 x5 W => x1 = a ∧ x2 = nI L ∧ x3 = nI (2 * N) ∧ x4 = nI (2 * (i + 1)) ∧ x5 = nI (i + 1) ∧ CkV M0 g T1 h1 m1 (i + 1) W) a _ _ _ _ V (fun x1 x2 x3 x4 x5 W z => ?_) ?_
            · obtain ⟨rfl, rfl, rfl, rfl, rfl, hW⟩ := z
              exact ih (i + 1) (by omega) W hW
            · have ok := hok i (by omega)
              exact r_ckturn p4 p1.1 hm1 p7 hh1 l1 hN30 (by omega) hV htl (rr := 2 * (i + 1)) (fun z => absurd ok.1 z) (fun _ z => absurd ok.2 z) (fun _ _ => rfl) (fun W hW => ⟨rfl, rfl, rfl, rfl, rfl, hW⟩)
        refine clX7_check (I80 := fun x1 x2 x3 x4 x5 W => x1 = a ∧ x2 = nI L ∧ x3 = nI (2 * N) ∧ x4 = nI (2 * 0) ∧ x5 = nI 0 ∧ W = M0) a M (fun x1 x2 x3 x4 x5 W z => ?_) ?_
        · obtain ⟨rfl, rfl, rfl, rfl, rfl, hW⟩ := z
          rw [hW]
          refine LR kk 0 (by omega) M0 ⟨?_, fun _ _ _ _ => rfl⟩
          rw [eM0, ma_same]
          rfl
        · unfold wpX7_check_0
          intro z' ez' W2 g2
          have g4 : ¬ W2 24 0 3 = 0 := by rw [g2, mu_sn (by omega)]; exact hi
          refine rwT hc ⟨_, rfl, t2 ⟨fun _ => r_copy_25_27 ⟨rfl, r_copy_26_25 ⟨rfl, r_within ⟨_, rfl, fun z9 e9 => ?_⟩⟩⟩, fun q => absurd q g4⟩⟩
          have eW : ma (ma W2 27 0 (cpf (W2 27 0) (W2 25 0) 1479)) 25 0 (cpf (ma W2 27 0 (cpf (W2 27 0) (W2 25 0) 1479) 25 0) (ma W2 27 0 (cpf (W2 27 0) (W2 25 0) 1479) 26 0) 1479) = M0 := by
            rw [eM0, eg, g2, ma_o (show ¬ 25 = 27 by decide), ma_o (show ¬ 26 = 27 by decide), mu_o (show ¬ 27 = 24 by decide), mu_o (show ¬ 25 = 24 by decide), mu_o (show ¬ 26 = 24 by decide)]
          rw [eW] at e9 ⊢
          have e25 : M0 25 0 2 = nI h1 := by rw [eM0, ma_same]; exact p7
          refine ⟨rfl, by rw [ez', l3], ?_, rfl, rfl, rfl⟩
          rw [e9, e25, eh, ea, rN, two_nI]
      have LX : ∀ q i, i + q = N → (∀ i0, i0 < i → gOk1 g (X 21 0) T1 h1 m1 L i0 ∧ gOk2 g (X 21 0) T1 h1 m1 L i0) → ∀ V, WS V 2 (gHours g T1 h1 m1 i).1 m1 T1 (h1 + i) (738 * (h1 : Int) + 738 * (i : Int)) → TH X0 V → Gq (Kp (d + 12) mX6_check UX (fun v X1 => ∃ a0, v = some (aI a0) ∧ Cl UM (d + 12) mX7_check [aR 24 0, aI a] M (fun v2 M1 => v2 = some (aI a0) ∧ GR X1 M1))) UX cX6_check 5 RX6 60 [(0, aR 0 0), (1, aI a), (2, aI (nI L)), (3, aI (nI N)), (4, aI (nI i))] [] V := by
        intro q
        induction q with
        | zero =>
          intro i hi hok V hV hT
          have hi : i = N := by omega
          subst hi
          refine okX6_check_60 (I60 := fun _ _ _ _ _ => False) a _ _ _ V (fun _ _ _ _ _ q => q.elim) ?_
          unfold wpX6_check_60
          refine ⟨fun _ => ⟨fun c => ⟨_, rfl, R i _ V hT (Nat.le_refl i) hok (Or.inl ⟨rfl, ?_⟩)⟩, fun c => ⟨_, rfl, R i _ V hT (Nat.le_refl i) hok (Or.inl ⟨rfl, ?_⟩)⟩⟩, fun c => absurd (nI_le (Nat.le_refl i) (by omega)) c⟩
          · rw [two_nI] at c
            rw [if_pos ((nI_leI (by omega) (by omega)).mp c)]
          · rw [two_nI] at c
            rw [if_neg (fun z => c (nI_le z (by omega))), two_nI]
            exact nI_add 1 (2 * i)
        | succ q ih =>
          intro i hi hok V hV hT
          refine okX6_check_60 (I60 := fun x1 x2 x3 x4 W => x1 = a ∧ x2 = nI L ∧ x3 = nI N ∧ x4 = nI (i + 1) ∧ gOk1 g (X 21 0) T1 h1 m1 L i ∧ gOk2 g (X 21 0) T1 h1 m1 L i ∧ WS W 2 (gHours g T1 h1 m1 (i + 1)).1 m1 T1 (h1 + (i + 1)) (738 * (h1 : Int) + 738 * ((i + 1 : Nat) : Int)) ∧ TH X0 W) a _ _ _ V (fun x1 x2 x3 x4 W z => ?_) ?_
          · obtain ⟨rfl, rfl, rfl, rfl, k1, k2, k3, k4⟩ := z
            refine ih (i + 1) (by omega) (fun i0 hi0 => ?_) W k3 k4
            by_cases e : i0 = i
            · rw [e]; exact ⟨k1, k2⟩
            · exact hok i0 (by omega)
          · unfold wpX6_check_60
            refine ⟨fun c => absurd c (nI_ge (by omega) (by omega)), fun _ => x_passHour (by omega) hV (by omega) (by omega) (fun V1 hV1 hF1 => ⟨_, rfl, x_sumW (by omega) hV1.1 ⟨_, rfl, ?_⟩⟩)⟩
            have hT1' : TH X0 V1 := hT.tr (TH.fr hF1)
            have x21 : V1 21 0 = X 21 0 := by rw [hT1' 21 0 (by unfold thk footB; omega), xo 21 0 (by omega)]
            refine x_isWaiting (j := 2 * i) two_nI (by omega) rfl l1 (fun c1 c2 => ⟨_, rfl, t2 ?_⟩) (fun c => ⟨_, rfl, f2 ⟨_, rfl, ?_⟩⟩)
            · have ok1 : gOk1 g (X 21 0) T1 h1 m1 L i := ⟨c1, by rw [← x21]; exact c2⟩
              have e10 : V1 2 2 10 = gS g T1 h1 m1 i := hV1.1.sc 4 (by omega)
              refine x_isWaiting (j := 2 * i + 1) (by rw [two_nI, nI_1]) (by omega) rfl l1 (fun c3 c4 => ⟨_, rfl, t2 ⟨rfl, rfl, rfl, nI_1 i, ok1, ⟨c3, ?_⟩, ?_, hT1'⟩⟩) (fun c => ⟨_, rfl, f2 ⟨_, rfl, ?_⟩⟩)
              · rw [← x21, c4, e10]
              · have e : 738 * (h1 : Int) + 738 * ((i + 1 : Nat) : Int) = 738 * (h1 : Int) + 738 * (i : Int) + 738 := by omega
                rw [e]
                exact hV1
              · refine R i _ V1 hT1' (by omega) hok (Or.inr (Or.inr ⟨by omega, ok1, fun z => c ⟨z.1, ?_⟩, ?_⟩))
                · rw [x21, e10]; exact z.2
                · rw [two_nI]; exact nI_add 2 (2 * i)
            · refine R i _ V1 hT1' (by omega) hok (Or.inr (Or.inl ⟨by omega, fun z => c ⟨z.1, ?_⟩, ?_⟩))
              · rw [x21]; exact z.2
              · rw [two_nI]; exact nI_add 1 (2 * i)
      refine clX6_check (I60 := fun x1 x2 x3 x4 W => x1 = a ∧ x2 = nI L ∧ x3 = nI N ∧ x4 = nI 0 ∧ WS W 2 g m1 T1 h1 (738 * (h1 : Int)) ∧ TH X0 W) a X (fun x1 x2 x3 x4 W z => ?_) ?_
      · obtain ⟨rfl, rfl, rfl, rfl, k1, k2⟩ := z
        refine LX N 0 (by omega) (fun i h => absurd h (by omega)) W ?_ k2
        have e : 738 * (h1 : Int) + 738 * ((0 : Nat) : Int) = 738 * (h1 : Int) := by omega
        rw [e]
        exact k1
      · unfold wpX6_check_0
        intro z ez V2 e2
        rw [← eX0] at e2
        subst e2
        have e4 : ¬ V2 0 0 4 = 0 := by rw [eX0, mu_sn (by omega), i1]; exact hi
        refine xwT hc ⟨_, rfl, t2 ⟨fun _ => x_become (by omega) (by omega) (by omega) hS0 (fun V5 hS5 hF5 => ⟨rfl, ?_⟩), fun q => absurd q e4⟩⟩
        refine clX5_hoursLeft 2 (by omega) V5 ?_
        unfold wpX5_hoursLeft_0
        refine ⟨_, rfl, fun z8 e8 => ⟨rfl, by rw [ez, l2], ?_, rfl, hS5, TH.fb hF5⟩⟩
        have e58 : V5 2 2 8 = nI h1 := (hS5.1.sc 2 (by omega)).trans p7
        rw [e8, e58, eh, ea, cN]
  · refine clX6_check (I60 := fun _ _ _ _ _ => False) a X (fun _ _ _ _ _ q => q.elim) ?_
    unfold wpX6_check_0
    intro z ez V2 e2
    refine xwF hc ⟨_, rfl, f2 ⟨_, rfl, ?_⟩⟩
    refine clX7_check (I80 := fun _ _ _ _ _ _ => False) a M (fun _ _ _ _ _ _ q => q.elim) ?_
    unfold wpX7_check_0
    intro z' ez' W2 g2
    exact rwF hc ⟨_, rfl, f2 ⟨rfl, by rw [e2, g2]; exact G0⟩⟩
end OPS22
