theorem plT_at {h : mH} {T : tS} {s : scS} {k t hts : Nat → Nat} {m rr : Nat → Int32} (p : plT h T s k t hts m rr) : plAt h := ⟨p.1, ⟨_, p.2.1⟩, ⟨_, p.2.2.1⟩, p.2.2.2.1, p.2.2.2.2.1, ⟨_, p.2.2.2.2.2.1⟩, ⟨_, p.2.2.2.2.2.2.1⟩⟩
theorem cAt_plan {h h' : mH} {C : cS} (k : cAt h C) (p : plAt h') (f : fr 79 86 h h') : cAt h' C := by
  obtain ⟨k0, k1, k2, k3, k4, k5, k6, k7, k8, k9, k10, k11, k12⟩ := k
  obtain ⟨r1, r2, r3, r4, r5, hr⟩ := k3
  obtain ⟨g, hg, hg0, hg1⟩ := k7
  obtain ⟨m0, m1, m2, m3⟩ := k10
  exact ⟨by rw [f.at (by omega)]; exact k0, k1, by rw [f.at (by omega)]; exact k2, ⟨r1, r2, r3, r4, r5, by rw [f.at (by omega)]; exact hr⟩, k4.fr f (by rcases k1 with q | q <;> omega), k5.fr f (by rcases k1 with q | q <;> omega), k6.fr f (by omega), ⟨g, by rw [f.at (by omega)]; exact hg, hg0, hg1⟩, by rw [f.at (by omega)]; exact k8, k9.fr f (by omega), ⟨p, by rw [f.at (by omega)]; exact m1, by rw [f.at (by omega)]; exact m2, by rw [f.at (by omega)]; exact m3⟩, k11.fr f (by omega), k12.fr f (by omega)⟩
