/-! ===== lay of both ===== -/
section LA
variable {c0 m0 fc fd fm fn g g' : q_F} {k : Nat}
theorem AK.kn (hS : SS fc fm) (hA : AK fc) {k : Nat} (hk : k < 8) (ht : fc (28 + k) 0 = 1) : fc (28 + k) 10 ≠ NY := by
  obtain ⟨o1, o2, o3⟩ := hS.2.2.2.1.2.2.2.1 k hk
  have q := o3 ht
  have := hA.1 (fm 78 k).toNat (by omega)
  rw [q.2.2, Int.toNat_natCast] at this
  exact this
theorem DD.kno {k : Nat} (hD : DD fc fm) (hk : k < 8) (hn : fc (28 + k) 10 ≠ NY) : fm 77 k = 1 ∧ fc (28 + k) 9 = fm 86 k ∧ fc (28 + k) 10 = fm 87 k ∧ fc (28 + k) 11 = fm 88 k ∧ bnd (fc (28 + k) 9) ∧ bnd (fc (28 + k) 11) ∧ 0 ≤ fc (28 + k) 10 ∧ fc (28 + k) 10 ≤ 17000 := by
  rcases hD.1 k hk with q | q
  · exact absurd q.2.1 hn
  · exact ⟨q.1, q.2.1, q.2.2.1, q.2.2.2.1, ab_bnd q.2.2.2.2.1, ab_bnd q.2.2.2.2.2.1, q.2.2.2.2.2.2.1, q.2.2.2.2.2.2.2⟩
theorem rj_of {r : Int} (hS : SS fc fm) (hr : rtold fc r) : rj fc fm r := by
  obtain ⟨h1, h2, h3⟩ := hr
  have q := hS.1 r.toNat (by omega) h3
  exact ⟨h1, h2, q.1, q.2.1, q.2.2.1, q.2.2.2.1, q.2.2.2.2⟩
theorem JJ_of (hS : SS fc fm) (hD : DD fc fm) (hA : AK fc) : JJ fc fm := by
  refine ⟨hS.2.2.2.1.1, hS.2.2.2.1.2.1, hS.2.2.2.1.2.2.1, fun i hi => ?_⟩
  obtain ⟨o1, o2, o3, o4, o5⟩ := hS.2.2.2.1.2.2.2.2 i hi
  obtain ⟨k, hk⟩ : ∃ k : Nat, fc 14 i = k := ⟨(fc 14 i).toNat, by omega⟩
  rw [hk, Int.toNat_natCast] at o4
  have hk8 : k < 8 := by omega
  obtain ⟨q1, q2, q3, q4, q5, q6, q7, q8⟩ := hD.kno hk8 (hA.kn hS hk8 o4)
  obtain ⟨-, -, h6, h6t, h8, h8t, h7, h7t⟩ := hS.2.2.2.2.1.1 k hk8 o4
  exact ⟨k, hk8, hk, by rw [← o1]; exact hk, ⟨q2, q5⟩, ⟨q3, q7, q8⟩, ⟨q4, q6⟩, ⟨h7, h7t⟩, ⟨h6, rj_of hS h6t⟩, h8, h8t.imp id (fun z => rj_of hS z.1)⟩
def secL (fc fm : q_F) (k : Nat) : Prop := (fc (28 + k) 9 = fm 86 k ∧ fc (28 + k) 10 = fm 87 k ∧ fc (28 + k) 11 = fm 88 k ∧ fc (28 + k) 7 = fm 83 k ∧ (fc (28 + k) 7 = 0 ∨ fc (28 + k) 7 = 1)) ∧ (0 ≤ fc (28 + k) 9 ∧ 0 ≤ fc (28 + k) 10 ∧ fc (28 + k) 9 + fc (28 + k) 10 ≤ 512) ∧ ((fc (28 + k) 7 = 1 → 0 ≤ fc (28 + k) 11 ∧ fc (28 + k) 11 + fc (28 + k) 10 ≤ 512) ∧ bnd (fc (28 + k) 11)) ∧ (fc (28 + k) 4 = fm 84 k ∧ fc (28 + k) 5 = fm 84 k + fm 85 k ∧ 0 ≤ fc (28 + k) 4 ∧ fc (28 + k) 4 ≤ fc (28 + k) 5 ∧ fc (28 + k) 5 ≤ 160) ∧ ∀ j : Nat, fc (28 + k) 4 ≤ j → (j : Int) < fc (28 + k) 5 → itemok (fc 9 j) (fc 10 j) (fm 89 j) ∧ (fc 9 j = 0 → fc (28 + k) 9 ≤ fc (16 + (fc 10 j).toNat) 4 ∧ fc (16 + (fc 10 j).toNat) 4 + fc (16 + (fc 10 j).toNat) 0 ≤ fc (28 + k) 9 + fc (28 + k) 10)
def LD (fc fm : q_F) : Prop := (fc 3 7 = fm 60 22 ∧ 0 ≤ fc 3 7 ∧ fc 3 7 ≤ 8) ∧ (∀ i : Nat, (i : Int) < fc 3 7 → ∃ k : Nat, k < 8 ∧ fc 14 i = k ∧ fm 75 i = k ∧ fc (28 + k) 0 = 1) ∧ (∀ k : Nat, k < 8 → fc (28 + k) 0 = fm 76 k ∧ (fc (28 + k) 0 = 0 ∨ fc (28 + k) 0 = 1) ∧ (fc (28 + k) 0 = 1 → secL fc fm k)) ∧ (∀ v : Nat, v < 18 → fc (36 + v) 0 = fm 90 (v + 8) ∧ (fc (36 + v) 0 = 0 ∨ fc (36 + v) 0 = 1) ∧ (fc (36 + v) 0 = 1 → fc (36 + v) 4 = fm 95 (v + 8) ∧ bnd (fc (36 + v) 4))) ∧ (∀ k : Nat, k < 8 → fc (16 + k) 4 = fm 64 k ∧ bnd (fc (16 + k) 4)) ∧ CPs fc
theorem LD_of (hS : SS fc fm) (hD : DD fc fm) (hA : AK fc) (hok : ∀ j : Nat, (j : Int) < fc 3 7 → okS fc (ord fc j)) (hr : ∀ a, a ≠ 0 → a ≠ 3 → a ≠ 15 → fd a = fc a) (h37 : fd 3 7 = fc 3 7) (hcp : CPs fd) (hm : ∀ a k, ¬ (a = 60 ∧ k = 45) → fn a k = fm a k) : LD fd fn := by
  have M : ∀ a, a ≠ 60 → fn a = fm a := fun a ha => funext fun c => hm a c (fun q => ha q.1)
  refine ⟨⟨?_, ?_, ?_⟩, fun i hi => ?_, fun k hk => ?_, fun v hv => ?_, fun k hk => ?_, hcp⟩
  · rw [h37, hm 60 22 (by omega)]
    exact hS.2.2.2.1.1
  · rw [h37]
    exact hS.2.2.2.1.2.1
  · rw [h37]
    exact hS.2.2.2.1.2.2.1
  · rw [h37] at hi
    obtain ⟨o1, o2, o3, o4, o5⟩ := hS.2.2.2.1.2.2.2.2 i hi
    obtain ⟨k, hk⟩ : ∃ k : Nat, fc 14 i = k := ⟨(fc 14 i).toNat, by omega⟩
    rw [hk, Int.toNat_natCast] at o4
    exact ⟨k, by omega, by rw [hr 14 (by omega) (by omega) (by omega)]; exact hk, by rw [M 75 (by omega), ← o1]; exact hk, by rw [hr _ (by omega) (by omega) (by omega)]; exact o4⟩
  · obtain ⟨o1, o2, o3⟩ := hS.2.2.2.1.2.2.2.1 k hk
    rw [hr (28 + k) (by omega) (by omega) (by omega), M 76 (by omega)]
    refine ⟨o1, o2, fun ht => ?_⟩
    have hn := hA.kn hS hk ht
    obtain ⟨q1, q2, q3, q4, q5, q6, q7, q8⟩ := hD.kno hk hn
    obtain ⟨-, si, h6, h6t, h8, h8t, h7, h7t⟩ := hS.2.2.2.2.1.1 k hk ht
    obtain ⟨i1, i2, i3, i4, i5⟩ := si
    have hit := hS.it hk ht
    obtain ⟨w1, w2, w3⟩ := hD.2.2.2 k hk ht
    have r6 := rj_of hS h6t
    have ok : okS fc k := by
      have := hok (fm 78 k).toNat (by have := o3 ht; omega)
      have e : ord fc (fm 78 k).toNat = k := by
        unfold ord
        rw [(o3 ht).2.2]
        exact Int.toNat_natCast k
      rw [e] at this
      exact this
    obtain ⟨k1, k2⟩ := ok
    obtain ⟨-, -, -, -, g5, g6, g7⟩ := r6
    unfold secL
    rw [hr (28 + k) (by omega) (by omega) (by omega), hr 9 (by omega) (by omega) (by omega), hr 10 (by omega) (by omega) (by omega), M 86 (by omega), M 87 (by omega), M 88 (by omega), M 83 (by omega), M 84 (by omega), M 85 (by omega), M 89 (by omega)]
    refine ⟨⟨q2, q3, q4, h7, h7t⟩, ⟨by omega, q7, by omega⟩, ⟨fun e7 => ?_, q6⟩, ⟨i1, i2, i3, i4, hit.2.1⟩, fun j c1 c2 => ?_⟩
    · rcases h8t with e8 | e8
      · have := w3 hn e8 e7
        omega
      · have r8 := rj_of hS e8.1
        obtain ⟨x1, -, -, -, x5, x6, x7⟩ := r8
        rcases k2 with z | z
        · omega
        · omega
    · have it := hit.2.2.1 j c1 c2
      refine ⟨it, fun e0 => ?_⟩
      unfold itemok at it
      rw [hr (16 + _) (by omega) (by omega) (by omega)]
      exact w2 hn j c1 c2 e0 (by omega)
  · obtain ⟨o1, o2, o3, o4⟩ := hS.2.2.2.2.2.1 v hv
    rw [hr (36 + v) (by omega) (by omega) (by omega), M 90 (by omega), M 95 (by omega)]
    refine ⟨o1, o2, fun ht => ?_⟩
    rcases hD.2.1 v hv with q | q
    · exact absurd q.1 (hA.2 v hv ht)
    · exact ⟨q.2.1, ab_bnd q.2.2⟩
  · rw [hr (16 + k) (by omega) (by omega) (by omega), M 64 (by omega)]
    obtain ⟨q1, q2⟩ := hD.2.2.1 k hk
    refine ⟨q1, ?_⟩
    unfold ab at q2
    exact q2
theorem RR.row0 {j : Nat} {v : Int} (h : RR 8 18 fc fm) : RR 8 18 (ma_up fc 0 j v) fm := by
  obtain ⟨r1, r2, r3, r4, r5, r6, r7⟩ := h
  have rc : ∀ a, a ≠ 0 → ma_up fc 0 j v a = fc a := fun a ha => ma_up_ne ha
  refine ⟨r1.crow (by omega), r2.ext (fun a _ _ => rc a (by omega)) (fun a _ _ => rfl), r3.ext (fun a _ _ => rc a (by omega)) (fun a _ _ => rfl), ?_, ?_, ?_, ?_⟩
  · exact r4.ext (by rw [rc 8 (by omega)]) (rc 9 (by omega)) (rc 10 (by omega)) (by rw [rc 54 (by omega)]; exact Int.le_refl _) rfl rfl (fun a _ _ c => by rw [rc a (by omega)]; exact c) (fun a _ _ c d => by rw [rc a (by omega)]; exact ⟨c, d⟩)
  · exact r5.ext (by rw [rc 3 (by omega)]) (rc 14 (by omega)) (fun a _ _ => by rw [rc a (by omega)]; exact ⟨rfl, rfl, rfl, rfl, fun _ => rfl⟩) rfl (fun a _ _ => rfl)
  · exact r6.ext (fun k _ _ => rc _ (by omega)) (fun k _ _ => ⟨rfl, rfl, rfl, rfl, rfl, rfl, rfl⟩) (by rw [rc 8 (by omega)]; exact Int.le_refl _) (by rw [rc 11 (by omega)]; exact Int.le_refl _) (fun j _ => by rw [rc 12 (by omega)]) (fun a _ _ c => by rw [rc a (by omega)]; exact c)
  · exact r7.full (fun v _ => rc _ (by omega)) (fun v _ => ⟨rfl, rfl, rfl⟩) rfl rfl (by rw [rc 11 (by omega)]; exact Int.le_refl _) (fun j _ => by rw [rc 12 (by omega)])
/-- what a call of lay leaves alone -/
def QC (fc fd : q_F) : Prop := ∀ a k, (a = 1 ∨ a = 2 ∨ a = 59 ∨ 60 ≤ a ∨ (16 ≤ a ∧ a < 24 ∧ k ≤ 2)) → fd a k = fc a k
def QM (fm fn : q_F) : Prop := ∀ a k, (a < 60 ∨ (61 ≤ a ∧ a ≤ 63) ∨ a = 66 ∨ 96 ≤ a ∨ (a = 60 ∧ k = 6)) → fn a k = fm a k
theorem gIn.ext {fd fn : q_F} (h : gIn fc fm) (hc : QC fc fd) (hm : QM fm fn) : gIn fd fn := fun k hk => by
  rw [hc (16 + k) 0 (by omega), hc (16 + k) 1 (by omega), hc (16 + k) 2 (by omega), hm 61 k (by omega), hm 62 k (by omega), hm 63 k (by omega)]
  exact h k hk
theorem PC.q {f1 : q_F} (h : PC (ma_up fc 0 6 0) f1) : QC fc f1 := fun a k c => by
  rw [h a k (by omega), ma_up_ne (by omega)]
theorem PM.q {n1 : q_F} (h : PM (ma_up (ma_up fm 60 0 0) 60 45 0) n1) : QM fm n1 := fun a k c => by
  rw [h a k (by omega), ma_up_ne2 (by omega), ma_up_ne2 (by omega)]
theorem QC.r {f1 f2 : q_F} (h : QC fc f1) (h2 : ∀ a k, (a = 1 ∨ a = 2 ∨ a = 59 ∨ 60 ≤ a ∨ (16 ≤ a ∧ a < 24 ∧ k ≤ 2)) → f2 a k = f1 a k) : QC fc f2 := fun a k c => (h2 a k c).trans (h a k c)
theorem lay_pair (ht : gText (fc 2) (fc 1 1) (fm 66) (fm 60 6)) (hi : gIn fc fm) : ∃ b fd fn gn, p_Desk_lay fc g = some (b, fd, g) ∧ p_Mod_lay fm g = some (b, fn, gn) ∧ (∀ c, c ≠ 72 → gn c = g c) ∧ QC fc fd ∧ QM fm fn ∧ fd 0 7 = fn 60 10 ∧ (-1 ≤ fd 0 7 ∧ fd 0 7 ≤ 160) ∧ (0 ≤ b ∧ b ≤ 5) ∧ ((b = 0 ∧ fd 0 6 = 1 ∧ fn 60 45 = 1 ∧ LD fd fn) ∨ (b ≠ 0 ∧ fd 0 6 = 0 ∧ fn 60 45 = 0)) := by
  have u1 : ∀ a, a ≠ 0 → ma_up fc 0 6 0 a = fc a := fun a ha => ma_up_ne ha
  have v1 : ∀ a, a ≠ 60 → ma_up (ma_up fm 60 0 0) 60 45 0 a = fm a := fun a ha => (ma_up_ne ha).trans (ma_up_ne ha)
  have v6 : ma_up (ma_up fm 60 0 0) 60 45 0 60 6 = fm 60 6 := by rw [ma_up_at (by omega), ma_up_at (by omega)]
  obtain ⟨b, f1, n1, e1, e2, e3, e4, e5, e6⟩ := read_pair (g := g) (fc := ma_up fc 0 6 0) (fm := ma_up (ma_up fm 60 0 0) 60 45 0) (by rw [u1 2 (by omega), u1 1 (by omega), v1 66 (by omega), v6]; exact ht)
  have qc := e3.q
  have qm := e4.q
  have l06 : f1 0 6 = 0 := by rw [e3 0 6 (by omega), ma_up_self]
  have l45 : n1 60 45 = 0 := by rw [e4 60 45 (by omega), ma_up_self]
  have w07 : ma_up f1 0 7 b 0 7 = b := ma_up_self
  have w06 : ma_up f1 0 7 b 0 6 = 0 := by rw [ma_up_at (by omega)]; exact l06
  have wr : ∀ a, a ≠ 0 → ma_up f1 0 7 b a = f1 a := fun a ha => ma_up_ne ha
  have qc4 : QC fc (ma_up f1 0 7 b) := qc.r (fun a k c => by rw [wr a (by omega)])
  have eC : p_Desk_lay fc g = if q_sw b = q_sw (-1) then ((p_Reckoner_reckonAll (ma_up f1 0 7 b) g).bind fun x6 =>
    if q_sw x6.1 = 0 then
      some (2, x6.2.1, x6.2.2)
    else
      (p_Judge_overflows  x6.2.1 x6.2.2).bind fun x9 =>
      if q_sw x9.1 = 0 then
        (p_Judge_overlaps  x9.2.1 x9.2.2).bind fun x12 =>
        if q_sw x12.1 = 0 then
          (p_Plan_listCopies  x12.2.1 x12.2.2).bind fun x15 =>
          (p_Judge_copiesClash  x15.1 x15.2).bind fun x17 =>
          if q_sw x17.1 = 0 then
            q_let (ma_up x17.2.1 0 6 1) fun f20 =>
            some (0, f20, x17.2.2)
          else
            some (5, x17.2.1, x17.2.2)
        else
          some (4, x12.2.1, x12.2.2)
      else
        some (3, x9.2.1, x9.2.2)) else some (1, ma_up f1 0 7 b, g) := by
    unfold p_Desk_lay
    dsimp only [q_let]
    rw [e1, Option.bind_some]
    dsimp only
    rw [w07]
  have eM : p_Mod_lay fm g = if q_sw (n1 60 9) = 0 then ((p_Mod_reckonAll n1 g).bind fun x6 =>
    if q_sw x6.1 = 0 then
      some (2, x6.2.1, x6.2.2)
    else
      (p_Mod_fits  x6.2.1 x6.2.2).bind fun x9 =>
      if q_sw x9.1 = 0 then
        some (3, x9.2.1, x9.2.2)
      else
        (p_Mod_apart  x9.2.1 x9.2.2).bind fun x12 =>
        if q_sw x12.1 = 0 then
          some (4, x12.2.1, x12.2.2)
        else
          (p_Mod_copiesWell  x12.2.1 x12.2.2).bind fun x15 =>
          if q_sw x15.1 = 0 then
            some (5, x15.2.1, x15.2.2)
          else
            q_let (ma_up x15.2.1 60 45 1) fun f18 =>
            some (0, f18, x15.2.2)) else some (1, n1, g) := by
    unfold p_Mod_lay
    dsimp only [q_let]
    rw [e2, Option.bind_some]
  rcases e6 with ⟨q1, q2, q3⟩ | ⟨q1, q2, q3⟩
  · rw [if_pos (by rw [q1])] at eC
    rw [if_pos (sw0 q2)] at eM
    have hX : CTX (ma_up f1 0 7 b) n1 := ⟨q3.row0, hi.ext qc4 qm⟩
    obtain ⟨b2, f2, n2, g2, a1, a2, a3, a4, a5, a6⟩ := reck_pair (g := g) (g' := g) hX
    rw [a1, Option.bind_some] at eC
    rw [a2, Option.bind_some] at eM
    have f207 : f2 0 7 = b := by rw [a4 0 7 (by unfold dynC; omega)]; exact w07
    have f206 : f2 0 6 = 0 := by rw [a4 0 6 (by unfold dynC; omega)]; exact w06
    have n210 : n2 60 10 = b := by rw [a5 60 10 (by unfold dynM; omega)]; exact e5
    have n245 : n2 60 45 = 0 := by rw [a5 60 45 (by unfold dynM; omega)]; exact l45
    have qc2 : QC fc f2 := qc4.r (fun a k c => a4 a k (by unfold dynC; omega))
    have qm2 : QM fm n2 := fun a k c => (a5 a k (by unfold dynM; omega)).trans (qm a k c)
    rcases a6 with ⟨z1, z2, z3⟩ | z1
    · rw [if_neg (sw1 z1)] at eC eM
      dsimp only at eC eM
      have hS := hX.ss z2.1 z2.2.1
      have hJ := JJ_of hS z2.2.2.2 z3
      obtain ⟨b3, c1, c2, c3⟩ := fits_pair (g := g) (g' := g2) hJ
      rw [c1, Option.bind_some] at eC
      rw [c2, Option.bind_some] at eM
      dsimp only at eC eM
      rcases c3 with ⟨d1, d2⟩ | d1
      · rw [if_pos (sw0 d1)] at eC
        rw [if_neg (sw1 (show 1 - b3 = 1 by omega))] at eM
        obtain ⟨b4, p1, p2, p3⟩ := over_pair (g := g) (g' := g2) hJ
        rw [p1, Option.bind_some] at eC
        rw [p2, Option.bind_some] at eM
        dsimp only at eC eM
        rcases p3 with p3 | p3
        · rw [if_pos (sw0 p3)] at eC
          rw [if_neg (sw1 (show 1 - b4 = 1 by omega))] at eM
          obtain ⟨b5, f5, r1, r2, r3, r4, r5, r6, r7⟩ := copy_pair (g := g) (g' := g2) hJ
          rw [r1, Option.bind_some] at eC
          dsimp only at eC
          rw [r2, Option.bind_some] at eC
          rw [r3, Option.bind_some] at eM
          dsimp only [q_let] at eC eM
          have qc5 : QC fc f5 := qc2.r (fun a k c => by rw [r5 a (by omega) (by omega)])
          rcases r4 with r4 | r4
          · rw [if_pos (sw0 r4)] at eC
            rw [if_neg (sw1 (show 1 - b5 = 1 by omega))] at eM
            refine ⟨0, _, _, g2, eC, eM, a3, qc5.r (fun a k c => by rw [ma_up_ne (by omega)]), fun a k c => ?_, ?_, ?_, by omega, Or.inl ⟨rfl, ma_up_self, ma_up_self, ?_⟩⟩
            · rw [ma_up_ne2 (by omega)]
              exact qm2 a k c
            · rw [ma_up_at (by omega), ma_up_at (by omega), r5 0 (by omega) (by omega), f207, n210]
            · rw [ma_up_at (by omega), r5 0 (by omega) (by omega), f207]
              omega
            · refine LD_of hS z2.2.2.2 z3 d2 (fun a h0 h3 h15 => by rw [ma_up_ne h0]; exact r5 a h3 h15) (by rw [ma_up_ne (by omega)]; exact r6) ?_ (fun a k c => ma_up_ne2 c)
              unfold CPs at *
              have er : rl (ma_up f5 0 6 1) (ma_up f5 0 6 1 3 7).toNat 0 = rl f5 (f5 3 7).toNat 0 := by
                rw [show ma_up f5 0 6 1 3 = f5 3 from ma_up_ne (by omega)]
                refine rl_ext (ma_up_ne (by omega)) (fun k hk => ma_up_ne (by omega)) (fun i hi2 => ?_) _ _ (by have := hJ.2.1; omega)
                rw [r6] at hi2
                have := (hJ.at hi2).1
                unfold ord at *
                rw [r5 14 (by omega) (by omega)]
                exact this
              rw [er, show ma_up f5 0 6 1 3 = f5 3 from ma_up_ne (by omega), show ma_up f5 0 6 1 15 = f5 15 from ma_up_ne (by omega)]
              exact r7
          · rw [if_neg (sw1 r4)] at eC
            rw [if_pos (sw0 (show 1 - b5 = 0 by omega))] at eM
            exact ⟨5, f5, n2, g2, eC, eM, a3, qc5, qm2, by rw [r5 0 (by omega) (by omega), f207, n210], by rw [r5 0 (by omega) (by omega), f207]; omega, by omega, Or.inr ⟨by omega, by rw [r5 0 (by omega) (by omega)]; exact f206, n245⟩⟩
        · rw [if_neg (sw1 p3)] at eC
          rw [if_pos (sw0 (show 1 - b4 = 0 by omega))] at eM
          exact ⟨4, f2, n2, g2, eC, eM, a3, qc2, qm2, by rw [f207, n210], by rw [f207]; omega, by omega, Or.inr ⟨by omega, f206, n245⟩⟩
      · rw [if_neg (sw1 d1)] at eC
        rw [if_pos (sw0 (show 1 - b3 = 0 by omega))] at eM
        exact ⟨3, f2, n2, g2, eC, eM, a3, qc2, qm2, by rw [f207, n210], by rw [f207]; omega, by omega, Or.inr ⟨by omega, f206, n245⟩⟩
    · rw [if_pos (sw0 z1)] at eC eM
      exact ⟨2, f2, n2, g2, eC, eM, a3, qc2, qm2, by rw [f207, n210], by rw [f207]; omega, by omega, Or.inr ⟨by omega, f206, n245⟩⟩
  · rw [if_neg (show ¬ q_sw b = q_sw (-1) by rw [q_swn (by omega), q_swn (by omega)]; omega)] at eC
    rw [if_neg (sw1 q3)] at eM
    exact ⟨1, _, n1, g, eC, eM, fun _ _ => rfl, qc4, qm, by rw [w07, e5], by rw [w07]; omega, by omega, Or.inr ⟨by omega, w06, l45⟩⟩
end LA
