/-! ===== the reference: melting, owning, hours ===== -/
/-- what holds of the texts in a row of numbers: T of them, each a whole postfix of its key -/
def nbk (key : Nat) : Nat := if key = 0 then 3 else 2
def LawI (n : NF) (T : Nat) : Prop := n 10 = nI T ∧ T ≤ 14 ∧ ∀ t, t < T → ∃ key L, key < 3 ∧ L ≤ 96 ∧ n (107 + 2 * t) = nI (1000 * key + L) ∧ vdep (nbk key) (lawC n t) L = some 1
/-- a length of the text t -/
def lawL (n : NF) (t : Nat) : Nat := (n (107 + 2 * t)).toNatClampNeg % 1000
theorem gCt_spec {n : NF} {T : Nat} (hl : ∀ t, t < T → ∃ key L, key < 3 ∧ L ≤ 96 ∧ n (107 + 2 * t) = nI (1000 * key + L) ∧ vdep (nbk key) (lawC n t) L = some 1) {k : Nat} (hk : k < 3) : ∀ t, t ≤ T → gCt n (nI k) t = -1 ∨ ∃ u L, u < t ∧ gCt n (nI k) t = nI u ∧ L ≤ 96 ∧ n (107 + 2 * u) = nI (1000 * k + L) ∧ vdep (nbk k) (lawC n u) L = some 1 := by
  intro t
  induction t with
  | zero => exact fun _ => Or.inl rfl
  | succ t ih =>
    intro ht
    obtain ⟨key, L, h1, h2, h3, h4⟩ := hl t (by omega)
    have e1 : n (107 + 2 * t) / 1000 = nI key := by
      rw [h3, show (1000 : Int32) = nI 1000 from rfl, pk_div (by omega) (by omega) (by omega), show (1000 * key + L) / 1000 = key by omega]
    rw [gCt, e1]
    by_cases hkk : key = k
    · subst hkk
      rw [if_pos rfl]
      exact Or.inr ⟨t, L, by omega, rfl, h2, h3, h4⟩
    · rw [if_neg (fun q => hkk ((nI_eq (by omega) (by omega)).mp q))]
      rcases ih (by omega) with q | ⟨u, L', q1, q2⟩
      · exact Or.inl q
      · exact Or.inr ⟨u, L', by omega, q2⟩
theorem lawL_eq {n : NF} {t k L : Nat} (h : n (107 + 2 * t) = nI (1000 * k + L)) (hk : k < 3) (hL : L ≤ 96) : lawL n t = L := by
  unfold lawL; rw [h, nI_clamp (by omega)]; omega
def f3 (a b c : Int32) : NF := fun k => if k = 0 then a else if k = 1 then b else c
/-- what a key's text gives with these facts, or else -/
def gLaw (n : NF) (T k : Nat) (a b c e : Int32) : Int32 := if gCt n (nI k) T < 0 then e else lawV n (gCt n (nI k) T).toNatClampNeg (lawL n (gCt n (nI k) T).toNatClampNeg) (f3 a b c)
/-- facts beyond the names are not read -/
theorem st1e_cong {nb p p' : Nat} {sg : Int32} {fa fb : NF} {l : List Int32} (hf : ∀ k, k < nb → fa k = fb k) (h : okc nb sg p = some p') : st1e sg fa l = st1e sg fb l := by
  unfold st1e
  by_cases h1 : sg < 0
  · rw [if_pos h1, if_pos h1]
  · rw [if_neg h1, if_neg h1]
    by_cases h2 : 10000 ≤ sg
    · rw [if_pos h2, if_pos h2]
      unfold okc at h
      rw [if_neg h1, if_neg (fun q => by rw [ti_le] at h2; rw [ti_lt] at q; omega)] at h
      by_cases h3 : sg < nI (10000 + nb)
      · obtain ⟨v, hv1, hv2⟩ := nI_of h1
        subst hv2
        have g1 : 10000 ≤ v := (nI_leI (a := 10000) (by omega) hv1).mp h2
        rw [show nI v - 10000 = nI (v - 10000) from pk_sub (b := 10000) g1, nI_clamp (by omega)]
        by_cases hnb : 10000 + nb < 2 ^ 31
        · have g2 : v < 10000 + nb := (nI_ltI hv1 hnb).mp h3
          rw [hf _ (by omega)]
        · rw [hf _ (by omega)]
      · rw [if_neg h3] at h; cases h
    · rw [if_neg h2, if_neg h2]
theorem evL_cong {nb : Nat} {c fa fb : NF} (hf : ∀ k, k < nb → fa k = fb k) : ∀ (k : Nat) {p : Nat}, vdep nb c k = some p → evL c fa k = evL c fb k
  | 0, _, _ => rfl
  | k + 1, p, h => by
    rw [vdep] at h
    cases h1 : vdep nb c k with
    | none => rw [h1] at h; cases h
    | some p1 =>
      rw [h1] at h
      rw [evL, evL, evL_cong hf k h1]
      exact st1e_cong hf (show okc nb (c k) p1 = some p from h)
/-- melting, owning -/
def gPl (n : NF) (T h r : Nat) : Int32 := wi (gLaw n T 0 (gW n h r) (n (64 + 6 * r)) (n (60 + 6 * r)) (n (60 + 6 * r) * wi (gW n h r) 0 99)) 0 (n (64 + 6 * r))
def gM (n : NF) (T h r : Nat) : Int32 := if n (59 + 6 * r) = 5 then wi (2 * gPl n T h r) 0 (n (64 + 6 * r)) else if n (59 + 6 * r) = 4 then gPl n T h r / 2 else gPl n T h r
def gO (n : NF) (T h r : Nat) : Int32 := if gLaw n T 1 (nI (h % 24)) (gW n h r) 0 (if nI (h % 24) < n 3 then 0 else 1) = 0 then 0 else 1
section REF4
variable {d : Nat} {V : Mem} {P : Option AV → Mem → Prop}
theorem r_lawat {T k u : Nat} {L : Nat} {a b c e : Int32} {n fa : NF} (hg : gCt n (nI k) T = nI u) (hu : u < 14) (hk : k < 3) (hL : L ≤ 96) (hn : n (107 + 2 * u) = nI (1000 * k + L)) (hv : vdep (nbk k) (lawC n u) L = some 1) (hf : ∀ q, q < nbk k → fa q = f3 a b c q) : lawV n u L fa = gLaw n T k a b c e := by
  unfold gLaw
  rw [hg, if_neg (nI_pos (by omega)), nI_clamp (by omega), lawL_eq hn hk hL]
  unfold lawV
  rw [evL_cong hf L hv]
theorem r_melts {T h r : Nat} {a : Int32} (hI : LawI (V 25 0) T) (e : V 25 0 2 = nI h) (hl : h < 2 ^ 31) (ea : a = nI r) (hr : r < 8) (hp : ∀ f s : NF, P (some (aI (gM (V 25 0) T h r))) (ma (ma V 36 0 f) 35 0 s)) : Cl UM (d + 4) mX7_meltsOf [aR 24 0, aI a] V P := by
  obtain ⟨hT1, hT2, hT3⟩ := hI
  refine clX7_meltsOf a V ?_
  unfold wpX7_meltsOf_0
  have e5 : 59 + 6 * r + 5 = 64 + 6 * r := by omega
  have e1 : 59 + 6 * r + 1 = 60 + 6 * r := by omega
  have e0 : 59 + 6 * r + 0 = 59 + 6 * r := by omega
  have F : ∀ (W : Mem) (x4 x6 v : Int32), W 25 0 = V 25 0 → wi v 0 (V 25 0 (64 + 6 * r)) = gPl (V 25 0) T h r → P (some (aI (gM (V 25 0) T h r))) W → wpX7_meltsOf_74 (Cl UM (d + 3)) a (V 25 0 (64 + 6 * r)) x4 x6 v W P := by
    intro W x4 x6 v hW hv hq
    unfold wpX7_meltsOf_74
    refine r_within ⟨_, rfl, ?_⟩
    refine r_of (k := 0) ea rfl (by omega) ⟨_, rfl, ?_⟩
    dsimp only
    rw [e0, hW, hv]
    unfold gM at hq
    refine ⟨fun c => ⟨fun c2 => ?_, fun c2 => ?_⟩, fun c => ?_⟩
    · rw [if_neg c, if_neg c2] at hq; exact hq
    · rw [if_neg c, if_pos c2] at hq; exact hq
    · rw [if_pos c] at hq
      exact r_within ⟨_, rfl, hq⟩
  refine r_of (k := 5) ea rfl (by omega) ⟨_, rfl, ?_⟩
  refine r_warmth e hl ea hr ⟨_, rfl, ?_⟩
  refine r_counts hT1 hT2 ⟨_, rfl, fun V7 e7 V8 e8 => ?_⟩
  have h8 : V8 25 0 = V 25 0 := by rw [e8, e7, mu_o (by decide), mu_o (by decide)]
  refine r_of (k := 1) ea rfl (by omega) ⟨_, rfl, fun V11 e11 => ?_⟩
  have h11 : V11 25 0 = V 25 0 := by rw [e11, mu_o (by decide), h8]
  rw [h8] at e11
  have hV : V11 = ma V 36 0 (upd (upd (upd (V 36 0) 0 (gW (V 25 0) h r)) 1 (V 25 0 (59 + 6 * r + 5))) 2 (V 25 0 (59 + 6 * r + 1))) := by
    rw [e11, e8, e7, mu_eq V, mu_ma, mu_ma]
  rw [e5, e1] at hV
  rw [e5]
  refine ⟨fun c => ?_, fun c => ?_⟩
  · rcases gCt_spec hT3 (k := 0) (by omega) T (Nat.le_refl T) with q | ⟨u, L, u1, u2, u3, u4, u5⟩
    · exfalso
      have q : gCt (V 25 0) 0 T = -1 := q
      rw [q] at c
      exact absurd c (by decide)
    · refine r_works (t := u) (L := L) (key := 0) (nb := 3) u2 (by omega) (by rw [h11]; exact u4) (by omega) u3 (by omega) (by rw [h11]; exact u5) (fun s => ⟨_, rfl, ?_⟩)
      refine F _ _ _ _ (by rw [ma_o (by decide)]; exact h11) ?_ ?_
      · unfold gPl
        rw [h11, r_lawat (k := 0) (a := gW (V 25 0) h r) (b := V 25 0 (64 + 6 * r)) (c := V 25 0 (60 + 6 * r)) (e := V 25 0 (60 + 6 * r) * wi (gW (V 25 0) h r) 0 99) u2 (by omega) (by omega) u3 u4 u5]
        intro q hq
        rw [hV, ma_same]
        have hq : q < 3 := hq
        rcases (show q = 0 ∨ q = 1 ∨ q = 2 by omega) with rfl | rfl | rfl <;> simp [upd, f3]
      · rw [hV]
        exact hp _ s
  · rcases gCt_spec hT3 (k := 0) (by omega) T (Nat.le_refl T) with q | ⟨u, L, u1, u2, u3, u4, u5⟩
    · refine r_of (k := 1) ea rfl (by omega) ⟨_, rfl, ?_⟩
      refine r_within ⟨_, rfl, ?_⟩
      rw [h11, e1]
      refine F _ _ _ _ h11 ?_ ?_
      · unfold gPl gLaw
        rw [q, if_pos (by decide)]
      · rw [hV]
        have := hp (upd (upd (upd (V 36 0) 0 (gW (V 25 0) h r)) 1 (V 25 0 (64 + 6 * r))) 2 (V 25 0 (60 + 6 * r))) (V 35 0)
        rw [show V 35 0 = ma V 36 0 (upd (upd (upd (V 36 0) 0 (gW (V 25 0) h r)) 1 (V 25 0 (64 + 6 * r))) 2 (V 25 0 (60 + 6 * r))) 35 0 from (ma_o (by decide)).symm, ma_eta] at this
        exact this
    · exfalso
      have u2 : gCt (V 25 0) 0 T = nI u := u2
      rw [u2] at c
      exact c (nI_pos' (by omega))
theorem r_owns {T h r : Nat} {a : Int32} (hI : LawI (V 25 0) T) (e : V 25 0 2 = nI h) (hl : h < 2 ^ 31) (ea : a = nI r) (hr : r < 8) (hp : ∀ f s : NF, P (some (aI (gO (V 25 0) T h r))) (ma (ma V 36 0 f) 35 0 s)) : Cl UM (d + 4) mX7_owns [aR 24 0, aI a] V P := by
  obtain ⟨hT1, hT2, hT3⟩ := hI
  refine clX7_owns a V ?_
  unfold wpX7_owns_0
  refine r_counts hT1 hT2 ⟨_, rfl, ?_⟩
  refine r_hod e hl ⟨_, rfl, fun V5 e5 => ?_⟩
  have h5 : V5 25 0 = V 25 0 := by rw [e5, mu_o (by decide)]
  refine r_warmth (h := h) (by rw [h5]; exact e) hl ea hr ⟨_, rfl, fun V8 e8 => ?_⟩
  have h8 : V8 25 0 = V 25 0 := by rw [e8, mu_o (by decide), h5]
  rw [h5] at e8
  have hV : V8 = ma V 36 0 (upd (upd (V 36 0) 0 (nI (h % 24))) 1 (gW (V 25 0) h r)) := by rw [e8, e5, mu_eq V, mu_ma]
  refine ⟨fun c => ?_, fun c => ?_⟩
  · rcases gCt_spec hT3 (k := 1) (by omega) T (Nat.le_refl T) with q | ⟨u, L, u1, u2, u3, u4, u5⟩
    · exfalso
      have q : gCt (V 25 0) 1 T = -1 := q
      rw [q] at c
      exact absurd c (by decide)
    · refine r_works (t := u) (L := L) (key := 1) (nb := 2) u2 (by omega) (by rw [h8]; exact u4) (by omega) u3 (by omega) (by rw [h8]; exact u5) (fun s => ⟨_, rfl, ?_⟩)
      have hq := hp (upd (upd (V 36 0) 0 (nI (h % 24))) 1 (gW (V 25 0) h r)) s
      rw [← hV] at hq
      unfold gO at hq
      rw [h8, r_lawat (k := 1) (a := nI (h % 24)) (b := gW (V 25 0) h r) (c := 0) (e := if nI (h % 24) < V 25 0 3 then 0 else 1) u2 (by omega) (by omega) u3 u4 u5 (by
        intro q hq
        rw [hV, ma_same]
        have hq : q < 2 := hq
        rcases (show q = 0 ∨ q = 1 by omega) with rfl | rfl <;> simp [upd, f3])]
      refine ⟨fun c2 => ?_, fun c2 => ?_⟩
      · rw [if_pos c2] at hq; exact hq
      · rw [if_neg c2] at hq; exact hq
  · rcases gCt_spec hT3 (k := 1) (by omega) T (Nat.le_refl T) with q | ⟨u, L, u1, u2, u3, u4, u5⟩
    · refine r_hod (h := h) (by rw [h8]; exact e) hl ⟨_, rfl, ?_⟩
      have hq := hp (upd (upd (V 36 0) 0 (nI (h % 24))) 1 (gW (V 25 0) h r)) (V 35 0)
      rw [show V 35 0 = V8 35 0 by rw [hV, ma_o (by decide)], ← hV, ma_eta] at hq
      unfold gO gLaw at hq
      rw [q, if_pos (show (-1 : Int32) < 0 by decide)] at hq
      dsimp only
      rw [h8]
      refine ⟨fun c2 => ?_, fun c2 => ?_⟩
      · rw [if_pos c2, if_pos rfl] at hq; exact hq
      · rw [if_neg c2, if_neg (by decide)] at hq; exact hq
    · exfalso
      have u2 : gCt (V 25 0) 1 T = nI u := u2
      rw [u2] at c
      exact c (nI_pos' (by omega))
end REF4
