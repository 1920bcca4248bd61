theorem b10 (K t : Nat) (mm : Int32) (ht : t < 10) : Sy K t mm 0 0 1 0 0 := by
  refine ⟨fun x => x + nI t, [10], Nat.le_refl _, fun x σ c d f hV hc hd hf => ?_, fun x σ c f hV hc hf => ?_⟩
  · obtain ⟨f, rfl⟩ : ∃ n, f = n + 1 := ⟨f - 1, by omega⟩
    obtain ⟨σ1, e1, e2⟩ := xsay (f := f) (x := x) (d := d) (k := 0) (a := 0) (by decide) (by decide) hV (by omega) (by omega)
    have e1' : Ap 81 1 82 σ1 σ c [10] := e1
    have w1 : VX K t mm σ1 (c + 1) := hV.keep e1'
    refine ⟨σ1, ?_, e1'⟩
    have hb : xb (f_X8_says f) (mka (hdt 0 0)) (mbod (4 * hdt 0 0 + 0)) x (nI d) σ1 = some (x + σ1 81 3, σ1) := rfl
    rw [e2, hb]
    rw [w1.2.1]
  · obtain ⟨f, rfl⟩ : ∃ n, f = n + 1 := ⟨f - 1, by omega⟩
    obtain ⟨σ1, e1, e2⟩ := mran (B := 10) hV (by omega)
    have w1 : VM K t mm σ1 (c + 1) := hV.keep e1
    refine ⟨σ1, ?_, e1⟩
    show f_X12_sinks (f + 1) (nI 0) x σ = _
    rw [f_X12_sinks_s]
    unfold b_X12_sinks
    rw [if_pos (show nI 0 = (0 : Int32) from rfl), e2, Option.bind_some]
    rw [w1.1]
theorem b12 (K t : Nat) (mm : Int32) (ht : t < 10) : Sy K t mm 0 2 1 0 0 := by
  refine ⟨fun x => x - mm, [12], Nat.le_refl _, fun x σ c d f hV hc hd hf => ?_, fun x σ c f hV hc hf => ?_⟩
  · obtain ⟨f, rfl⟩ : ∃ n, f = n + 1 := ⟨f - 1, by omega⟩
    obtain ⟨σ1, e1, e2⟩ := xsay (f := f) (x := x) (d := d) (k := 0) (a := 2) (by decide) (by decide) hV (by omega) (by omega)
    have e1' : Ap 81 1 82 σ1 σ c [12] := e1
    have w1 : VX K t mm σ1 (c + 1) := hV.keep e1'
    refine ⟨σ1, ?_, e1'⟩
    have hb : xb (f_X8_says f) (mka (hdt 0 2)) (mbod (4 * hdt 0 2 + 2)) x (nI d) σ1 = some (x - σ1 81 4, σ1) := rfl
    rw [e2, hb]
    rw [w1.2.2.1]
  · obtain ⟨f, rfl⟩ : ∃ n, f = n + 1 := ⟨f - 1, by omega⟩
    obtain ⟨σ1, e1, e2⟩ := mran (B := 12) hV (by omega)
    have w1 : VM K t mm σ1 (c + 1) := hV.keep e1
    refine ⟨σ1, ?_, e1⟩
    show f_X12_waitsFor (f + 1) (nI 0) x σ = _
    rw [f_X12_waitsFor_s]
    unfold b_X12_waitsFor
    rw [if_pos (show nI 0 = (0 : Int32) from rfl), e2, Option.bind_some]
    have i1 : (46 : Int32) + (6 : Int32) * nI t + 1 = nI (46 + 6 * t + 1) := ixT t 1
    rw [w1.1, i1, gdI (by omega) (by omega), clI (by omega), w1.2.2.2]
theorem b30 (K t : Nat) (mm : Int32) (ht : t < 10) {l1 H1 g1 : Nat} (h1 : Sy K t mm 0 0 l1 H1 g1) : Sy K t mm 2 0 (1 + l1) (H1 + 1) (g1 + 1) := by
  obtain ⟨v1, ns1, len1, vx1, vm1⟩ := h1
  refine ⟨fun x => v1 x * 3, [30] ++ ns1, by simp only [List.length_append, List.length_cons, List.length_nil]; omega, fun x σ c d f hV hc hd hf => ?_, fun x σ c f hV hc hf => ?_⟩
  · obtain ⟨f, rfl⟩ : ∃ n, f = n + 1 := ⟨f - 1, by omega⟩
    obtain ⟨σ1, e1, e2⟩ := xsay (f := f) (x := x) (d := d) (k := 2) (a := 0) (by decide) (by decide) hV (by omega) (by omega)
    have e1' : Ap 81 1 82 σ1 σ c [30] := e1
    have w1 : VX K t mm σ1 (c + 1) := hV.keep e1'
    obtain ⟨σ2, p1, p2⟩ := vx1 (x) σ1 (c + 1) (d + 1) f w1 (by omega) (by omega) (by omega)
    have hb : xb (f_X8_says f) (mka (hdt 2 0)) (mbod (4 * hdt 2 0 + 0)) x (nI d) σ1 = ((f_X8_says f (nI 0) (nI 0) (x) (nI d + 1) σ1).bind fun q => some (q.1 * 3, q.2)) := rfl
    refine ⟨σ2, ?_, e1'.trans p2⟩
    rw [e2, hb, nIp1]
    rw [p1, Option.bind_some]
  · obtain ⟨f, rfl⟩ : ∃ n, f = n + 1 := ⟨f - 1, by omega⟩
    obtain ⟨σ1, e1, e2⟩ := mran (B := 30) hV (by omega)
    have w1 : VM K t mm σ1 (c + 1) := hV.keep e1
    obtain ⟨σ2, p1, p2⟩ := vm1 (x) σ1 (c + 1) f w1 (by omega) (by omega)
    have p1' : f_X12_sinks f (nI 0) (x) σ1 = some (v1 (x), σ2) := p1
    have w2 := w1.keep p2
    refine ⟨σ2, ?_, e1.trans p2⟩
    show f_X12_sinks (f + 1) (nI 2) x σ = _
    rw [f_X12_sinks_s]
    unfold b_X12_sinks
    rw [if_neg (by decide), if_pos (show nI 2 = (2 : Int32) from rfl), e2, Option.bind_some]
    have ab1 : f_X12_above (2 : Int32) σ1 = some (nI 0) := rfl
    rw [ab1, Option.bind_some]
    rw [p1', Option.bind_some]
theorem b70 (K t : Nat) (mm : Int32) (ht : t < 10) {l1 H1 g1 : Nat} (h1 : Sy K t mm 2 0 l1 H1 g1) : Sy K t mm 6 0 (1 + l1) (H1 + 1) (g1 + 1) := by
  obtain ⟨v1, ns1, len1, vx1, vm1⟩ := h1
  refine ⟨fun x => v1 x ^^^ nI t, [70] ++ ns1, by simp only [List.length_append, List.length_cons, List.length_nil]; omega, fun x σ c d f hV hc hd hf => ?_, fun x σ c f hV hc hf => ?_⟩
  · obtain ⟨f, rfl⟩ : ∃ n, f = n + 1 := ⟨f - 1, by omega⟩
    obtain ⟨σ1, e1, e2⟩ := xsay (f := f) (x := x) (d := d) (k := 6) (a := 0) (by decide) (by decide) hV (by omega) (by omega)
    have e1' : Ap 81 1 82 σ1 σ c [70] := e1
    have w1 : VX K t mm σ1 (c + 1) := hV.keep e1'
    obtain ⟨σ2, p1, p2⟩ := vx1 (x) σ1 (c + 1) (d + 1) f w1 (by omega) (by omega) (by omega)
    have hb : xb (f_X8_says f) (mka (hdt 6 0)) (mbod (4 * hdt 6 0 + 0)) x (nI d) σ1 = ((f_X8_says f (nI 2) (nI 0) (x) (nI d + 1) σ1).bind fun q => some (q.1 ^^^ (q.2 81 3), q.2)) := rfl
    refine ⟨σ2, ?_, e1'.trans p2⟩
    rw [e2, hb, nIp1]
    rw [p1, Option.bind_some]
    have w2 := w1.keep p2
    dsimp only
    rw [w2.2.1]
  · obtain ⟨f, rfl⟩ : ∃ n, f = n + 1 := ⟨f - 1, by omega⟩
    obtain ⟨σ1, e1, e2⟩ := mran (B := 70) hV (by omega)
    have w1 : VM K t mm σ1 (c + 1) := hV.keep e1
    obtain ⟨σ2, p1, p2⟩ := vm1 (x) σ1 (c + 1) f w1 (by omega) (by omega)
    have p1' : f_X12_sinks f (nI 2) (x) σ1 = some (v1 (x), σ2) := p1
    have w2 := w1.keep p2
    refine ⟨σ2, ?_, e1.trans p2⟩
    show f_X12_sinks (f + 1) (nI 6) x σ = _
    rw [f_X12_sinks_s]
    unfold b_X12_sinks
    rw [if_neg (by decide), if_neg (by decide), if_pos (show nI 6 = (6 : Int32) from rfl), e2, Option.bind_some]
    have ab1 : f_X12_above (6 : Int32) σ1 = some (nI 2) := rfl
    rw [ab1, Option.bind_some]
    rw [p1', Option.bind_some]
    dsimp only
    rw [w2.1]
theorem b40 (K t : Nat) (mm : Int32) (ht : t < 10) {l1 H1 g1 : Nat} (h1 : Sy K t mm 0 2 l1 H1 g1) : Sy K t mm 3 2 (1 + l1) (H1 + 1) (g1 + 1) := by
  obtain ⟨v1, ns1, len1, vx1, vm1⟩ := h1
  refine ⟨fun x => -v1 x, [40] ++ ns1, by simp only [List.length_append, List.length_cons, List.length_nil]; omega, fun x σ c d f hV hc hd hf => ?_, fun x σ c f hV hc hf => ?_⟩
  · obtain ⟨f, rfl⟩ : ∃ n, f = n + 1 := ⟨f - 1, by omega⟩
    obtain ⟨σ1, e1, e2⟩ := xsay (f := f) (x := x) (d := d) (k := 3) (a := 2) (by decide) (by decide) hV (by omega) (by omega)
    have e1' : Ap 81 1 82 σ1 σ c [40] := e1
    have w1 : VX K t mm σ1 (c + 1) := hV.keep e1'
    obtain ⟨σ2, p1, p2⟩ := vx1 (x) σ1 (c + 1) (d + 1) f w1 (by omega) (by omega) (by omega)
    have hb : xb (f_X8_says f) (mka (hdt 3 2)) (mbod (4 * hdt 3 2 + 2)) x (nI d) σ1 = ((f_X8_says f (nI 0) (nI 2) (x) (nI d + 1) σ1).bind fun q => some (-q.1, q.2)) := rfl
    refine ⟨σ2, ?_, e1'.trans p2⟩
    rw [e2, hb, nIp1]
    rw [p1, Option.bind_some]
  · obtain ⟨f, rfl⟩ : ∃ n, f = n + 1 := ⟨f - 1, by omega⟩
    obtain ⟨σ1, e1, e2⟩ := mran (B := 40) hV (by omega)
    have w1 : VM K t mm σ1 (c + 1) := hV.keep e1
    obtain ⟨σ2, p1, p2⟩ := vm1 (x) σ1 (c + 1) f w1 (by omega) (by omega)
    have p1' : f_X12_waitsFor f (nI 0) (x) σ1 = some (v1 (x), σ2) := p1
    have w2 := w1.keep p2
    refine ⟨σ2, ?_, e1.trans p2⟩
    show f_X12_waitsFor (f + 1) (nI 3) x σ = _
    rw [f_X12_waitsFor_s]
    unfold b_X12_waitsFor
    rw [if_neg (by decide), if_pos (show nI 3 = (3 : Int32) from rfl), e2, Option.bind_some]
    have ab1 : f_X12_above (3 : Int32) σ1 = some (nI 0) := rfl
    rw [ab1, Option.bind_some]
    rw [p1', Option.bind_some]
theorem b11 (K t : Nat) (mm : Int32) (ht : t < 10) {l1 H1 g1 : Nat} (h1 : Sy K t mm K 0 l1 H1 g1) (hg1 : g1 < 64) : Sy K t mm 0 1 (1 + l1) (H1 + 1) 0 := by
  obtain ⟨v1, ns1, len1, vx1, vm1⟩ := h1
  refine ⟨fun x => v1 x * 2, [11] ++ ns1, by simp only [List.length_append, List.length_cons, List.length_nil]; omega, fun x σ c d f hV hc hd hf => ?_, fun x σ c f hV hc hf => ?_⟩
  · obtain ⟨f, rfl⟩ : ∃ n, f = n + 1 := ⟨f - 1, by omega⟩
    obtain ⟨σ1, e1, e2⟩ := xsay (f := f) (x := x) (d := d) (k := 0) (a := 1) (by decide) (by decide) hV (by omega) (by omega)
    have e1' : Ap 81 1 82 σ1 σ c [11] := e1
    have w1 : VX K t mm σ1 (c + 1) := hV.keep e1'
    obtain ⟨σ2, p1, p2⟩ := vx1 (x) σ1 (c + 1) (d + 1) f w1 (by omega) (by omega) (by omega)
    have hb : xb (f_X8_says f) (mka (hdt 0 1)) (mbod (4 * hdt 0 1 + 1)) x (nI d) σ1 = ((f_X8_says f (σ1 81 2) (nI 0) (x) (nI d + 1) σ1).bind fun q => some (q.1 * 2, q.2)) := rfl
    refine ⟨σ2, ?_, e1'.trans p2⟩
    rw [e2, hb, nIp1]
    rw [w1.1]
    rw [p1, Option.bind_some]
  · obtain ⟨f, rfl⟩ : ∃ n, f = n + 1 := ⟨f - 1, by omega⟩
    obtain ⟨σ1, e1, e2⟩ := mran (B := 11) hV (by omega)
    have w1 : VM K t mm σ1 (c + 1) := hV.keep e1
    obtain ⟨σ2, p1, p2⟩ := vm1 (x) σ1 (c + 1) 64 w1 (by omega) (by omega)
    have p1' : f_X12_sinks 64 (nI K) (x) σ1 = some (v1 (x), σ2) := p1
    have w2 := w1.keep p2
    refine ⟨σ2, ?_, e1.trans p2⟩
    show f_X12_goes (f + 1) (nI 0) x σ = _
    rw [f_X12_goes_s]
    unfold b_X12_goes
    rw [if_pos (show nI 0 = (0 : Int32) from rfl), e2, Option.bind_some]
    rw [itsK w1 ht, Option.bind_some]
    rw [p1', Option.bind_some]
theorem b20 (K t : Nat) (mm : Int32) (ht : t < 10) {l1 H1 g1 l2 H2 g2 : Nat} (h1 : Sy K t mm 0 1 l1 H1 g1) (h2 : Sy K t mm K 2 l2 H2 g2) (hg2 : g2 < 64) : Sy K t mm 1 1 (1 + l1 + l2) (H1 + H2 + 1) (g1 + 1) := by
  obtain ⟨v1, ns1, len1, vx1, vm1⟩ := h1
  obtain ⟨v2, ns2, len2, vx2, vm2⟩ := h2
  refine ⟨fun x => v1 x - v2 1, [20] ++ (ns1 ++ ns2), by simp only [List.length_append, List.length_cons, List.length_nil]; omega, fun x σ c d f hV hc hd hf => ?_, fun x σ c f hV hc hf => ?_⟩
  · obtain ⟨f, rfl⟩ : ∃ n, f = n + 1 := ⟨f - 1, by omega⟩
    obtain ⟨σ1, e1, e2⟩ := xsay (f := f) (x := x) (d := d) (k := 1) (a := 1) (by decide) (by decide) hV (by omega) (by omega)
    have e1' : Ap 81 1 82 σ1 σ c [20] := e1
    have w1 : VX K t mm σ1 (c + 1) := hV.keep e1'
    obtain ⟨σ2, p1, p2⟩ := vx1 (x) σ1 (c + 1) (d + 1) f w1 (by omega) (by omega) (by omega)
    have w2 := w1.keep p2
    obtain ⟨σ3, p3, p4⟩ := vx2 ((1 : Int32)) σ2 _ (d + 1) f w2 (by omega) (by omega) (by omega)
    have hb : xb (f_X8_says f) (mka (hdt 1 1)) (mbod (4 * hdt 1 1 + 1)) x (nI d) σ1 = ((f_X8_says f (nI 0) (nI 1) (x) (nI d + 1) σ1).bind fun q => ((f_X8_says f (q.2 81 2) (nI 2) ((1 : Int32)) (nI d + 1) q.2).bind fun r => some (q.1 - r.1, r.2))) := rfl
    refine ⟨σ3, ?_, e1'.trans (p2.trans p4)⟩
    rw [e2, hb, nIp1]
    rw [p1, Option.bind_some]
    dsimp only
    rw [w2.1]
    rw [p3, Option.bind_some]
  · obtain ⟨f, rfl⟩ : ∃ n, f = n + 1 := ⟨f - 1, by omega⟩
    obtain ⟨σ1, e1, e2⟩ := mran (B := 20) hV (by omega)
    have w1 : VM K t mm σ1 (c + 1) := hV.keep e1
    obtain ⟨σ2, p1, p2⟩ := vm1 (x) σ1 (c + 1) f w1 (by omega) (by omega)
    have p1' : f_X12_goes f (nI 0) (x) σ1 = some (v1 (x), σ2) := p1
    have w2 := w1.keep p2
    obtain ⟨σ3, p3, p4⟩ := vm2 ((1 : Int32)) σ2 _ 64 w2 (by omega) (by omega)
    have p3' : f_X12_waitsFor 64 (nI K) ((1 : Int32)) σ2 = some (v2 ((1 : Int32)), σ3) := p3
    refine ⟨σ3, ?_, e1.trans (p2.trans p4)⟩
    show f_X12_goes (f + 1) (nI 1) x σ = _
    rw [f_X12_goes_s]
    unfold b_X12_goes
    rw [if_neg (by decide), if_pos (show nI 1 = (1 : Int32) from rfl), e2, Option.bind_some]
    have ab1 : f_X12_above (1 : Int32) σ1 = some (nI 0) := rfl
    rw [ab1, Option.bind_some]
    rw [p1', Option.bind_some]
    dsimp only
    rw [itsK w2 ht, Option.bind_some]
    rw [p3', Option.bind_some]
theorem b50 (K t : Nat) (mm : Int32) (ht : t < 10) {l1 H1 g1 : Nat} (h1 : Sy K t mm 1 1 l1 H1 g1) : Sy K t mm 4 1 (1 + l1) (H1 + 1) (g1 + 1) := by
  obtain ⟨v1, ns1, len1, vx1, vm1⟩ := h1
  refine ⟨fun x => v1 (x + 1), [50] ++ ns1, by simp only [List.length_append, List.length_cons, List.length_nil]; omega, fun x σ c d f hV hc hd hf => ?_, fun x σ c f hV hc hf => ?_⟩
  · obtain ⟨f, rfl⟩ : ∃ n, f = n + 1 := ⟨f - 1, by omega⟩
    obtain ⟨σ1, e1, e2⟩ := xsay (f := f) (x := x) (d := d) (k := 4) (a := 1) (by decide) (by decide) hV (by omega) (by omega)
    have e1' : Ap 81 1 82 σ1 σ c [50] := e1
    have w1 : VX K t mm σ1 (c + 1) := hV.keep e1'
    obtain ⟨σ2, p1, p2⟩ := vx1 (x + 1) σ1 (c + 1) (d + 1) f w1 (by omega) (by omega) (by omega)
    have hb : xb (f_X8_says f) (mka (hdt 4 1)) (mbod (4 * hdt 4 1 + 1)) x (nI d) σ1 = ((f_X8_says f (nI 1) (nI 1) (x + 1) (nI d + 1) σ1).bind fun q => some (q.1, q.2)) := rfl
    refine ⟨σ2, ?_, e1'.trans p2⟩
    rw [e2, hb, nIp1]
    rw [p1, Option.bind_some]
  · obtain ⟨f, rfl⟩ : ∃ n, f = n + 1 := ⟨f - 1, by omega⟩
    obtain ⟨σ1, e1, e2⟩ := mran (B := 50) hV (by omega)
    have w1 : VM K t mm σ1 (c + 1) := hV.keep e1
    obtain ⟨σ2, p1, p2⟩ := vm1 (x + 1) σ1 (c + 1) f w1 (by omega) (by omega)
    have p1' : f_X12_goes f (nI 1) (x + 1) σ1 = some (v1 (x + 1), σ2) := p1
    have w2 := w1.keep p2
    refine ⟨σ2, ?_, e1.trans p2⟩
    show f_X12_goes (f + 1) (nI 4) x σ = _
    rw [f_X12_goes_s]
    unfold b_X12_goes
    rw [if_neg (by decide), if_neg (by decide), if_neg (by decide), if_neg (by decide), if_pos (show nI 4 = (4 : Int32) from rfl), e2, Option.bind_some]
    have ab1 : f_X12_above (4 : Int32) σ1 = some (nI 1) := rfl
    rw [ab1, Option.bind_some]
    rw [p1', Option.bind_some]
theorem b13 (K t : Nat) (mm : Int32) (ht : t < 10) {l1 H1 g1 l2 H2 g2 : Nat} (h1 : Sy K t mm K 1 l1 H1 g1) (h2 : Sy K t mm K 2 l2 H2 g2) (hg1 : g1 < 64) (hg2 : g2 < 64) : Sy K t mm 0 3 (1 + l1 + l2) (H1 + H2 + 1) 0 := by
  obtain ⟨v1, ns1, len1, vx1, vm1⟩ := h1
  obtain ⟨v2, ns2, len2, vx2, vm2⟩ := h2
  refine ⟨fun x => v1 x ^^^ v2 x, [13] ++ (ns1 ++ ns2), by simp only [List.length_append, List.length_cons, List.length_nil]; omega, fun x σ c d f hV hc hd hf => ?_, fun x σ c f hV hc hf => ?_⟩
  · obtain ⟨f, rfl⟩ : ∃ n, f = n + 1 := ⟨f - 1, by omega⟩
    obtain ⟨σ1, e1, e2⟩ := xsay (f := f) (x := x) (d := d) (k := 0) (a := 3) (by decide) (by decide) hV (by omega) (by omega)
    have e1' : Ap 81 1 82 σ1 σ c [13] := e1
    have w1 : VX K t mm σ1 (c + 1) := hV.keep e1'
    obtain ⟨σ2, p1, p2⟩ := vx1 (x) σ1 (c + 1) (d + 1) f w1 (by omega) (by omega) (by omega)
    have w2 := w1.keep p2
    obtain ⟨σ3, p3, p4⟩ := vx2 (x) σ2 _ (d + 1) f w2 (by omega) (by omega) (by omega)
    have hb : xb (f_X8_says f) (mka (hdt 0 3)) (mbod (4 * hdt 0 3 + 3)) x (nI d) σ1 = ((f_X8_says f (σ1 81 2) (nI 1) (x) (nI d + 1) σ1).bind fun q => ((f_X8_says f (q.2 81 2) (nI 2) (x) (nI d + 1) q.2).bind fun r => some (q.1 ^^^ r.1, r.2))) := rfl
    refine ⟨σ3, ?_, e1'.trans (p2.trans p4)⟩
    rw [e2, hb, nIp1]
    rw [w1.1]
    rw [p1, Option.bind_some]
    dsimp only
    rw [w2.1]
    rw [p3, Option.bind_some]
  · obtain ⟨f, rfl⟩ : ∃ n, f = n + 1 := ⟨f - 1, by omega⟩
    obtain ⟨σ1, e1, e2⟩ := mran (B := 13) hV (by omega)
    have w1 : VM K t mm σ1 (c + 1) := hV.keep e1
    obtain ⟨σ2, p1, p2⟩ := vm1 (x) σ1 (c + 1) 64 w1 (by omega) (by omega)
    have p1' : f_X12_goes 64 (nI K) (x) σ1 = some (v1 (x), σ2) := p1
    have w2 := w1.keep p2
    obtain ⟨σ3, p3, p4⟩ := vm2 (x) σ2 _ 64 w2 (by omega) (by omega)
    have p3' : f_X12_waitsFor 64 (nI K) (x) σ2 = some (v2 (x), σ3) := p3
    refine ⟨σ3, ?_, e1.trans (p2.trans p4)⟩
    show f_X12_tells (f + 1) (nI 0) x σ = _
    rw [f_X12_tells_s]
    unfold b_X12_tells
    rw [if_pos (show nI 0 = (0 : Int32) from rfl), e2, Option.bind_some]
    rw [itsK w1 ht, Option.bind_some]
    rw [p1', Option.bind_some]
    dsimp only
    rw [itsK w2 ht, Option.bind_some]
    rw [p3', Option.bind_some]
theorem b60 (K t : Nat) (mm : Int32) (ht : t < 10) {l1 H1 g1 l2 H2 g2 : Nat} (h1 : Sy K t mm 0 3 l1 H1 g1) (h2 : Sy K t mm K 0 l2 H2 g2) (hg2 : g2 < 64) : Sy K t mm 5 3 (1 + l1 + l2) (H1 + H2 + 1) (g1 + 1) := by
  obtain ⟨v1, ns1, len1, vx1, vm1⟩ := h1
  obtain ⟨v2, ns2, len2, vx2, vm2⟩ := h2
  refine ⟨fun x => v1 x - v2 2, [60] ++ (ns1 ++ ns2), by simp only [List.length_append, List.length_cons, List.length_nil]; omega, fun x σ c d f hV hc hd hf => ?_, fun x σ c f hV hc hf => ?_⟩
  · obtain ⟨f, rfl⟩ : ∃ n, f = n + 1 := ⟨f - 1, by omega⟩
    obtain ⟨σ1, e1, e2⟩ := xsay (f := f) (x := x) (d := d) (k := 5) (a := 3) (by decide) (by decide) hV (by omega) (by omega)
    have e1' : Ap 81 1 82 σ1 σ c [60] := e1
    have w1 : VX K t mm σ1 (c + 1) := hV.keep e1'
    obtain ⟨σ2, p1, p2⟩ := vx1 (x) σ1 (c + 1) (d + 1) f w1 (by omega) (by omega) (by omega)
    have w2 := w1.keep p2
    obtain ⟨σ3, p3, p4⟩ := vx2 ((2 : Int32)) σ2 _ (d + 1) f w2 (by omega) (by omega) (by omega)
    have hb : xb (f_X8_says f) (mka (hdt 5 3)) (mbod (4 * hdt 5 3 + 3)) x (nI d) σ1 = ((f_X8_says f (nI 0) (nI 3) (x) (nI d + 1) σ1).bind fun q => ((f_X8_says f (q.2 81 2) (nI 0) ((2 : Int32)) (nI d + 1) q.2).bind fun r => some (q.1 - r.1, r.2))) := rfl
    refine ⟨σ3, ?_, e1'.trans (p2.trans p4)⟩
    rw [e2, hb, nIp1]
    rw [p1, Option.bind_some]
    dsimp only
    rw [w2.1]
    rw [p3, Option.bind_some]
  · obtain ⟨f, rfl⟩ : ∃ n, f = n + 1 := ⟨f - 1, by omega⟩
    obtain ⟨σ1, e1, e2⟩ := mran (B := 60) hV (by omega)
    have w1 : VM K t mm σ1 (c + 1) := hV.keep e1
    obtain ⟨σ2, p1, p2⟩ := vm1 (x) σ1 (c + 1) f w1 (by omega) (by omega)
    have p1' : f_X12_tells f (nI 0) (x) σ1 = some (v1 (x), σ2) := p1
    have w2 := w1.keep p2
    obtain ⟨σ3, p3, p4⟩ := vm2 ((2 : Int32)) σ2 _ 64 w2 (by omega) (by omega)
    have p3' : f_X12_sinks 64 (nI K) ((2 : Int32)) σ2 = some (v2 ((2 : Int32)), σ3) := p3
    refine ⟨σ3, ?_, e1.trans (p2.trans p4)⟩
    show f_X12_tells (f + 1) (nI 5) x σ = _
    rw [f_X12_tells_s]
    unfold b_X12_tells
    rw [if_neg (by decide), if_pos (show nI 5 = (5 : Int32) from rfl), e2, Option.bind_some]
    have ab1 : f_X12_above (5 : Int32) σ1 = some (nI 0) := rfl
    rw [ab1, Option.bind_some]
    rw [p1', Option.bind_some]
    dsimp only
    rw [itsK w2 ht, Option.bind_some]
    rw [p3', Option.bind_some]
theorem b71 (K t : Nat) (mm : Int32) (ht : t < 10) {l1 H1 g1 l2 H2 g2 : Nat} (h1 : Sy K t mm K 1 l1 H1 g1) (h2 : Sy K t mm 2 3 l2 H2 g2) (hg1 : g1 < 64) : Sy K t mm 6 3 (1 + l1 + l2) (H1 + H2 + 1) (g2 + 1) := by
  obtain ⟨v1, ns1, len1, vx1, vm1⟩ := h1
  obtain ⟨v2, ns2, len2, vx2, vm2⟩ := h2
  refine ⟨fun x => v1 x - v2 x, [71] ++ (ns1 ++ ns2), by simp only [List.length_append, List.length_cons, List.length_nil]; omega, fun x σ c d f hV hc hd hf => ?_, fun x σ c f hV hc hf => ?_⟩
  · obtain ⟨f, rfl⟩ : ∃ n, f = n + 1 := ⟨f - 1, by omega⟩
    obtain ⟨σ1, e1, e2⟩ := xsay (f := f) (x := x) (d := d) (k := 6) (a := 3) (by decide) (by decide) hV (by omega) (by omega)
    have e1' : Ap 81 1 82 σ1 σ c [71] := e1
    have w1 : VX K t mm σ1 (c + 1) := hV.keep e1'
    obtain ⟨σ2, p1, p2⟩ := vx1 (x) σ1 (c + 1) (d + 1) f w1 (by omega) (by omega) (by omega)
    have w2 := w1.keep p2
    obtain ⟨σ3, p3, p4⟩ := vx2 (x) σ2 _ (d + 1) f w2 (by omega) (by omega) (by omega)
    have hb : xb (f_X8_says f) (mka (hdt 6 3)) (mbod (4 * hdt 6 3 + 3)) x (nI d) σ1 = ((f_X8_says f (σ1 81 2) (nI 1) (x) (nI d + 1) σ1).bind fun q => ((f_X8_says f (nI 2) (nI 3) (x) (nI d + 1) q.2).bind fun r => some (q.1 - r.1, r.2))) := rfl
    refine ⟨σ3, ?_, e1'.trans (p2.trans p4)⟩
    rw [e2, hb, nIp1]
    rw [w1.1]
    rw [p1, Option.bind_some]
    dsimp only
    rw [p3, Option.bind_some]
  · obtain ⟨f, rfl⟩ : ∃ n, f = n + 1 := ⟨f - 1, by omega⟩
    obtain ⟨σ1, e1, e2⟩ := mran (B := 71) hV (by omega)
    have w1 : VM K t mm σ1 (c + 1) := hV.keep e1
    obtain ⟨σ2, p1, p2⟩ := vm1 (x) σ1 (c + 1) 64 w1 (by omega) (by omega)
    have p1' : f_X12_goes 64 (nI K) (x) σ1 = some (v1 (x), σ2) := p1
    have w2 := w1.keep p2
    obtain ⟨σ3, p3, p4⟩ := vm2 (x) σ2 _ f w2 (by omega) (by omega)
    have p3' : f_X12_tells f (nI 2) (x) σ2 = some (v2 (x), σ3) := p3
    refine ⟨σ3, ?_, e1.trans (p2.trans p4)⟩
    show f_X12_tells (f + 1) (nI 6) x σ = _
    rw [f_X12_tells_s]
    unfold b_X12_tells
    rw [if_neg (by decide), if_neg (by decide), if_pos (show nI 6 = (6 : Int32) from rfl), e2, Option.bind_some]
    rw [itsK w1 ht, Option.bind_some]
    rw [p1', Option.bind_some]
    dsimp only
    have ab2 : f_X12_above (6 : Int32) σ2 = some (nI 2) := rfl
    rw [ab2, Option.bind_some]
    rw [p3', Option.bind_some]
