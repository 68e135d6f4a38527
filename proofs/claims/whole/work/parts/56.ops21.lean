section OPS21
variable {d D : Nat} {V W X M X1 M1 : Mem} {P : Option AV → Mem → Prop} {w v m h T i j k r t u q m1 h1 s p z1 z2 : Nat} {n n1 : NF} {a b c x y z kk ss : Int32} {B B1 : Int}
theorem op_lay (hG : GR X M) : OP (d + 12) mX6_lay mX7_lay [aI a, aI b, aI c] X M := by
  obtain ⟨m, T, h, hN, hR⟩ := id hG
  have hm := hN.1.1.2.1
  have hX : X 2 0 6 = nI m := hN.1.1.many
  have hM : M 25 0 1 = nI m := hN.1.1.1
  refine clX6_lay a b c X ?_
  unfold wpX6_lay_0 wpX6_lay_32 wpX6_lay_47 wpX6_lay_67
  have S : ∀ (a0 : Int32) (X1 : Mem), wpX7_lay_0 (Cl UM (d + 11)) (fun _ _ _ _ _ _ => False) a b c M (fun v2 M1 => v2 = some (aI a0) ∧ GR X1 M1) → Cl UM (d + 12) mX7_lay [aR 24 0, aI a, aI b, aI c] M (fun v2 M1 => v2 = some (aI a0) ∧ GR X1 M1) := fun a0 X1 q => clX7_lay (I134 := fun _ _ _ _ _ _ => False) a b c M (fun _ _ _ _ _ _ q => q.elim) q
  unfold wpX7_lay_0 wpX7_lay_29 wpX7_lay_44 at S
  by_cases hc : 0 ≤ a ∧ a ≤ 4
  · obtain ⟨s, hs, ea⟩ := in_nI (N := 4) (by omega) hc
    obtain ⟨e1, e2⟩ := id (hR.2.2.1 s (by omega))
    refine xlT hc ⟨_, rfl, t1 ?_⟩
    by_cases hc2 : 0 ≤ b ∧ b ≤ 3
    · refine xwT hc2 ⟨_, rfl, t2 ⟨fun n1 => ⟨fun n2 => ⟨fun _ => ⟨s, ea, by omega, fun z2 ez V3 e3 => ⟨fun _ => ⟨fun _ => ⟨fun n3 => ⟨_, rfl, ?_⟩, fun c3 V4 e4 => ⟨_, rfl, ?_⟩⟩, fun q => absurd q n2⟩, fun q => absurd q n1⟩⟩, fun q => absurd q n2⟩, fun c2 => ?_⟩, fun c1 => ?_⟩⟩
      · -- nothing
        rw [ez, e1]
        refine r_lay (d := d + 8) ea (by omega) hc2 hM hm (fun q => absurd q n1) (fun q => absurd q n2) (fun M1 g => ⟨rfl, ?_⟩)
        obtain ⟨g1, g2, g3, g4, g5, g6, g7, g8⟩ := g
        refine GR.sl hN hR (s := s) (by omega) (fun r i c _ _ _ => by rw [e3, mu_eq, ma_ne c]) g1 (fun t ht => by rw [g2, up_n ht]) g3 g4 g5 ⟨by rw [e3, mu_sk, g2, up_s], Or.inl ?_⟩
        rw [g2, up_s]
        have hb := rng_of (l := 0) (u := 3) rfl rfl hc2
        rcases (show b.toInt = 0 ∨ b.toInt = 1 ∨ b.toInt = 2 ∨ b.toInt = 3 by omega) with q | q | q | q
        · exact ti_eq.mpr q
        · exact absurd (ti_eq.mpr q) n1
        · exact absurd (ti_eq.mpr q) n2
        · exact absurd (ti_eq.mpr q) n3
      · -- a number
        rw [ez, e1]
        refine r_lay (d := d + 8) ea (by omega) hc2 hM hm (fun q => absurd q n1) (fun q => absurd q n2) (fun M1 g => ⟨rfl, ?_⟩)
        obtain ⟨g1, g2, g3, g4, g5, g6, g7, g8⟩ := g
        refine GR.sl hN hR (s := s) (by omega) (fun r i c _ _ _ => by rw [e4, mu_eq, ma_ne c, e3, mu_eq, ma_ne c]) g1 (fun t ht => by rw [g2, up_n ht]) g3 g4 g5 ⟨by rw [e4, mu_sn (by omega), e3, mu_sk, g2, up_s], Or.inr (Or.inr (Or.inr ⟨?_, ?_⟩))⟩
        · rw [g2, up_s]; exact c3
        · rw [e4, mu_sk, g8 c3]
      · -- a sheet
        have n1 : ¬ b = 1 := fun q => absurd (c2.symm.trans q) (by decide)
        by_cases hcs : 0 ≤ c ∧ c ≤ 3
        · obtain ⟨j, hj, ec⟩ := in_nI (N := 3) (by omega) hcs
          obtain ⟨s1, zs, hzs, s2, s3, s4, s5⟩ := id (hR.2.1 j (by omega))
          refine xsT hcs ⟨_, rfl, t2 ⟨fun q => absurd c2 q, fun _ => ⟨j, ec, by omega, ?_⟩⟩⟩
          refine clX3_isMissing j (by omega) X ?_
          unfold wpX3_isMissing_0
          rw [s1]
          refine ⟨fun ms => ⟨_, rfl, f1 ⟨s, ea, by omega, fun z2 ez V3 e3 => ⟨fun _ => ⟨fun q => absurd c2 q, fun _ => ⟨j, ec, by omega, ?_⟩⟩, fun q => absurd q n1⟩⟩⟩, fun ms => ⟨_, rfl, t1 ⟨_, rfl, S _ _ (rlT hc ⟨_, rfl, t1 (rwT hc2 ⟨_, rfl, t1 ⟨fun _ => ⟨fun q => absurd c2 q, fun _ => rsT hcs ⟨_, rfl, t2 ⟨fun q => absurd c2 q, fun _ => ⟨j, ec, by omega, fun q => absurd q (by rw [ms]; decide), fun _ => ⟨rfl, hG⟩⟩⟩⟩⟩, fun q => absurd q n1⟩⟩)⟩)⟩⟩⟩
          have ps : M 37 0 j = 0 ∨ M 37 0 j = 1 := s4.resolve_left (fun q => ms q.1)
          have ps0 : 0 ≤ M 37 0 j := by rcases ps with q | q <;> (rw [q]; decide)
          refine x_shbecome (by omega) (by omega) (by omega) (fun V7 k1 k2 k3 k4 => ⟨rfl, _, rfl, ?_⟩)
          rw [ez, e1]
          refine r_lay (d := d + 8) ea (by omega) hc2 hM hm (fun q => absurd q n1) (fun _ => ⟨j, ec, by omega, ps0⟩) (fun M1 g => ⟨rfl, ?_⟩)
          obtain ⟨g1, g2, g3, g4, g5, g6, g7, g8⟩ := g
          obtain ⟨g9, g10⟩ := g7 j c2 ec (by omega)
          refine GR.sl hN hR (s := s) (by omega) (fun r i c _ d1 d2 => by rw [k1 r i d1 d2, e3, mu_eq, ma_ne c]) g1 (fun t ht => by rw [g2, up_n ht]) g3 g4 g5 ⟨?_, Or.inr (Or.inr (Or.inl ⟨?_, zs, hzs, ?_, ?_, fun k hk => ?_⟩))⟩
          · rw [k1 5 s (by omega) (by omega), e3, mu_sk, g2, up_s]
          · rw [g2, up_s]; exact c2
          · rw [k3, e3, mu_o (by decide), s2]
          · rw [g9, s3]
          · rw [k4 k (by omega), e3, mu_o (by decide), g10 k (by omega)]
            exact (s5 k hk).1
        · exact xsF hcs ⟨_, rfl, f2 ⟨_, rfl, S _ _ (rlT hc ⟨_, rfl, t1 (rwT hc2 ⟨_, rfl, t1 ⟨fun _ => ⟨fun q => absurd c2 q, fun _ => rsF hcs ⟨_, rfl, f2 ⟨rfl, hG⟩⟩⟩, fun q => absurd q n1⟩⟩)⟩)⟩⟩
      · -- a roof
        have n2 : ¬ b = 2 := fun q => absurd (c1.symm.trans q) (by decide)
        by_cases hcr : 0 ≤ c ∧ c ≤ nI m - 1
        · obtain ⟨j, hj, ec⟩ := isRoof_of hm hcr
          refine xrT hX hcr ⟨_, rfl, t1 ⟨fun _ => ⟨fun _ => ⟨s, ea, by omega, fun z2 ez V3 e3 => ⟨fun q => absurd c1 q, fun _ => ⟨j, ec, by omega, ?_⟩⟩⟩, fun q => absurd q n2⟩, fun q => absurd q n2⟩⟩
          refine x_rbecome (by omega) (by omega) (by omega) (fun V7 k1 k2 => ⟨rfl, _, rfl, ?_⟩)
          rw [ez, e1]
          refine r_lay (d := d + 8) ea (by omega) hc2 hM hm (fun _ => ⟨j, ec, hj⟩) (fun q => absurd q n2) (fun M1 g => ⟨rfl, ?_⟩)
          obtain ⟨g1, g2, g3, g4, g5, g6, g7, g8⟩ := g
          obtain ⟨g9, g10⟩ := g6 j c1 ec hj
          have r0 : V7 3 (24 + s) 0 = M 25 0 (59 + 6 * j) := by
            rw [k2 0 (by omega), e3, mu_o (by decide), hN.1.1.rf hj (j := 0) (by omega)]
            rfl
          have r1 : V7 3 (24 + s) 1 = M 25 0 (60 + 6 * j) := by
            rw [k2 1 (by omega), e3, mu_o (by decide), hN.1.1.rf hj (j := 1) (by omega), show 59 + 6 * j + 1 = 60 + 6 * j by omega]
          have hrk := hN.1.2.1.1 j hj
          unfold rok at hrk
          refine GR.sl hN hR (s := s) (by omega) (fun r i c d0 _ _ => by rw [k1 r i d0, e3, mu_eq, ma_ne c]) g1 (fun t ht => by rw [g2, up_n ht]) g3 g4 g5 ⟨?_, Or.inr (Or.inl ⟨?_, ?_, ?_, ?_, ?_⟩)⟩
          · rw [k1 5 s (by omega), e3, mu_sk, g2, up_s]
          · rw [g2, up_s]; exact c1
          · rw [r0, g9]
          · rw [r0, r1, g10]
          · rw [r0]; omega
          · rw [r1]; omega
        · exact xrF hX hcr ⟨_, rfl, f1 ⟨_, rfl, S _ _ (rlT hc ⟨_, rfl, t1 (rwT hc2 ⟨_, rfl, t1 ⟨fun q => absurd c1 q, fun _ => rrF hM hcr ⟨_, rfl, f1 ⟨rfl, hG⟩⟩⟩⟩)⟩)⟩⟩
    · exact xwF hc2 ⟨_, rfl, f2 ⟨_, rfl, S _ _ (rlT hc ⟨_, rfl, t1 (rwF hc2 ⟨_, rfl, f1 ⟨rfl, hG⟩⟩)⟩)⟩⟩
  · exact xlF hc ⟨_, rfl, f1 ⟨_, rfl, S _ _ (rlF hc ⟨_, rfl, f1 ⟨rfl, hG⟩⟩)⟩⟩
end OPS21
