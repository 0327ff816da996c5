/-! the rows are the methods' own: decided by the kernel -/
theorem ab_fnd_mem {t : List (Nat × List ab_Row)} {pc : Nat} {rows : List ab_Row} (h : ab_fnd t pc = some rows) : (pc, rows) ∈ t := by
  induction t with
  | nil => cases h
  | cons a r ih =>
    unfold ab_fnd at h
    split at h
    · rename_i e
      cases h
      subst e
      exact List.mem_cons_self
    · exact List.mem_cons_of_mem _ (ih h)
def ab_vt (z : ab_Mi) (t : List (Nat × List ab_Row)) : Bool := t.all (fun a => ab_vq ab_pg z.1 z.2.1 ((ab_by z.2.1).drop a.1) a.1 a.2)
def ab_vm (z : ab_Mi) (q1 q2 : Nat) : Bool := plainName z.1.cls && decide (z.1.cls ≠ "java/lang/invoke/MethodHandle") && decide (z.1.cls ≠ "java/lang/invoke/VarHandle") && decide (z.2.2.1 ≤ 40) && ab_w q1 (ab_cw z) && goodWord (ab_cw z) && ab_w q2 (.initialized z.1.cls)
theorem ab_vm_ok {i : Nat} {z : ab_Mi} {t : List (Nat × List ab_Row)} {q1 q2 : Nat} (ht : kt_all[i]? = some t) (h1 : ab_vm z q1 q2 = true) (h2 : ab_vt z t = true) (h3 : ab_hok z.1 z.2.2.2.2.1 z.2.2.2.2.2) : ab_mok ab_pg i z := by
  unfold ab_vm at h1
  simp only [Bool.and_eq_true, decide_eq_true_eq] at h1
  obtain ⟨⟨⟨⟨⟨⟨a1, a2⟩, a3⟩, a4⟩, a5⟩, a6⟩, a7⟩ := h1
  refine ⟨⟨a1, a2, a3⟩, a4, fun _ => ab_w_G a5 a6, fun _ => ab_w_G a7 rfl, h3, fun pc rows h => ?_⟩
  have h9 : ab_fnd t pc = some rows := by
    have e : ab_pg.2 i pc = ab_fnd t pc := by show (kt_all[i]?).bind _ = _; rw [ht]; rfl
    rw [← e]; exact h
  exact ab_vq_ok rows _ pc rfl (List.all_eq_true.mp h2 _ (ab_fnd_mem h9))
set_option maxRecDepth 100000 in
theorem kv_0_0 : ab_vq ab_pg km_0.1 km_0.2.1 ((ab_by km_0.2.1).drop 0) 0 kb_0_0 = true := by decide +kernel
set_option maxRecDepth 100000 in
theorem kv_0_23 : ab_vq ab_pg km_0.1 km_0.2.1 ((ab_by km_0.2.1).drop 23) 23 kb_0_23 = true := by decide +kernel
set_option maxRecDepth 100000 in
theorem kv_0_240 : ab_vq ab_pg km_0.1 km_0.2.1 ((ab_by km_0.2.1).drop 240) 240 kb_0_240 = true := by decide +kernel
set_option maxRecDepth 100000 in
theorem kv_0_313 : ab_vq ab_pg km_0.1 km_0.2.1 ((ab_by km_0.2.1).drop 313) 313 kb_0_313 = true := by decide +kernel
set_option maxRecDepth 100000 in
theorem kv_0_349 : ab_vq ab_pg km_0.1 km_0.2.1 ((ab_by km_0.2.1).drop 349) 349 kb_0_349 = true := by decide +kernel
set_option maxRecDepth 100000 in
theorem kv_0_366 : ab_vq ab_pg km_0.1 km_0.2.1 ((ab_by km_0.2.1).drop 366) 366 kb_0_366 = true := by decide +kernel
set_option maxRecDepth 100000 in
theorem kv_0_369 : ab_vq ab_pg km_0.1 km_0.2.1 ((ab_by km_0.2.1).drop 369) 369 kb_0_369 = true := by decide +kernel
set_option maxRecDepth 100000 in
theorem kv_0_405 : ab_vq ab_pg km_0.1 km_0.2.1 ((ab_by km_0.2.1).drop 405) 405 kb_0_405 = true := by decide +kernel
set_option maxRecDepth 100000 in
theorem kv_0_422 : ab_vq ab_pg km_0.1 km_0.2.1 ((ab_by km_0.2.1).drop 422) 422 kb_0_422 = true := by decide +kernel
set_option maxRecDepth 100000 in
theorem kv_0_425 : ab_vq ab_pg km_0.1 km_0.2.1 ((ab_by km_0.2.1).drop 425) 425 kb_0_425 = true := by decide +kernel
set_option maxRecDepth 100000 in
theorem kv_0_461 : ab_vq ab_pg km_0.1 km_0.2.1 ((ab_by km_0.2.1).drop 461) 461 kb_0_461 = true := by decide +kernel
set_option maxRecDepth 100000 in
theorem kv_0_478 : ab_vq ab_pg km_0.1 km_0.2.1 ((ab_by km_0.2.1).drop 478) 478 kb_0_478 = true := by decide +kernel
set_option maxRecDepth 100000 in
theorem kv_0_481 : ab_vq ab_pg km_0.1 km_0.2.1 ((ab_by km_0.2.1).drop 481) 481 kb_0_481 = true := by decide +kernel
set_option maxRecDepth 100000 in
theorem kv_0_517 : ab_vq ab_pg km_0.1 km_0.2.1 ((ab_by km_0.2.1).drop 517) 517 kb_0_517 = true := by decide +kernel
set_option maxRecDepth 100000 in
theorem kv_0_534 : ab_vq ab_pg km_0.1 km_0.2.1 ((ab_by km_0.2.1).drop 534) 534 kb_0_534 = true := by decide +kernel
set_option maxRecDepth 100000 in
theorem kv_0_537 : ab_vq ab_pg km_0.1 km_0.2.1 ((ab_by km_0.2.1).drop 537) 537 kb_0_537 = true := by decide +kernel
set_option maxRecDepth 100000 in
theorem kv_0_550 : ab_vq ab_pg km_0.1 km_0.2.1 ((ab_by km_0.2.1).drop 550) 550 kb_0_550 = true := by decide +kernel
set_option maxRecDepth 100000 in
theorem kv_0_563 : ab_vq ab_pg km_0.1 km_0.2.1 ((ab_by km_0.2.1).drop 563) 563 kb_0_563 = true := by decide +kernel
set_option maxRecDepth 100000 in
theorem kv_0_599 : ab_vq ab_pg km_0.1 km_0.2.1 ((ab_by km_0.2.1).drop 599) 599 kb_0_599 = true := by decide +kernel
set_option maxRecDepth 100000 in
theorem kv_0_616 : ab_vq ab_pg km_0.1 km_0.2.1 ((ab_by km_0.2.1).drop 616) 616 kb_0_616 = true := by decide +kernel
set_option maxRecDepth 100000 in
theorem kv_0_619 : ab_vq ab_pg km_0.1 km_0.2.1 ((ab_by km_0.2.1).drop 619) 619 kb_0_619 = true := by decide +kernel
set_option maxRecDepth 100000 in
theorem kv_0_667 : ab_vq ab_pg km_0.1 km_0.2.1 ((ab_by km_0.2.1).drop 667) 667 kb_0_667 = true := by decide +kernel
set_option maxRecDepth 100000 in
theorem kv_0_684 : ab_vq ab_pg km_0.1 km_0.2.1 ((ab_by km_0.2.1).drop 684) 684 kb_0_684 = true := by decide +kernel
set_option maxRecDepth 100000 in
theorem kv_0_687 : ab_vq ab_pg km_0.1 km_0.2.1 ((ab_by km_0.2.1).drop 687) 687 kb_0_687 = true := by decide +kernel
set_option maxRecDepth 100000 in
theorem kv_0_735 : ab_vq ab_pg km_0.1 km_0.2.1 ((ab_by km_0.2.1).drop 735) 735 kb_0_735 = true := by decide +kernel
set_option maxRecDepth 100000 in
theorem kv_0_752 : ab_vq ab_pg km_0.1 km_0.2.1 ((ab_by km_0.2.1).drop 752) 752 kb_0_752 = true := by decide +kernel
set_option maxRecDepth 100000 in
theorem kv_0_755 : ab_vq ab_pg km_0.1 km_0.2.1 ((ab_by km_0.2.1).drop 755) 755 kb_0_755 = true := by decide +kernel
set_option maxRecDepth 100000 in
theorem kv_0_803 : ab_vq ab_pg km_0.1 km_0.2.1 ((ab_by km_0.2.1).drop 803) 803 kb_0_803 = true := by decide +kernel
set_option maxRecDepth 100000 in
theorem kv_0_820 : ab_vq ab_pg km_0.1 km_0.2.1 ((ab_by km_0.2.1).drop 820) 820 kb_0_820 = true := by decide +kernel
set_option maxRecDepth 100000 in
theorem kv_0_823 : ab_vq ab_pg km_0.1 km_0.2.1 ((ab_by km_0.2.1).drop 823) 823 kb_0_823 = true := by decide +kernel
set_option maxRecDepth 100000 in
theorem kv_0_859 : ab_vq ab_pg km_0.1 km_0.2.1 ((ab_by km_0.2.1).drop 859) 859 kb_0_859 = true := by decide +kernel
set_option maxRecDepth 100000 in
theorem kv_0_876 : ab_vq ab_pg km_0.1 km_0.2.1 ((ab_by km_0.2.1).drop 876) 876 kb_0_876 = true := by decide +kernel
set_option maxRecDepth 100000 in
theorem kv_0_879 : ab_vq ab_pg km_0.1 km_0.2.1 ((ab_by km_0.2.1).drop 879) 879 kb_0_879 = true := by decide +kernel
set_option maxRecDepth 100000 in
theorem kv_0_927 : ab_vq ab_pg km_0.1 km_0.2.1 ((ab_by km_0.2.1).drop 927) 927 kb_0_927 = true := by decide +kernel
set_option maxRecDepth 100000 in
theorem kv_0_944 : ab_vq ab_pg km_0.1 km_0.2.1 ((ab_by km_0.2.1).drop 944) 944 kb_0_944 = true := by decide +kernel
set_option maxRecDepth 100000 in
theorem kv_0_947 : ab_vq ab_pg km_0.1 km_0.2.1 ((ab_by km_0.2.1).drop 947) 947 kb_0_947 = true := by decide +kernel
set_option maxRecDepth 100000 in
theorem kv_0_983 : ab_vq ab_pg km_0.1 km_0.2.1 ((ab_by km_0.2.1).drop 983) 983 kb_0_983 = true := by decide +kernel
set_option maxRecDepth 100000 in
theorem kv_0_1000 : ab_vq ab_pg km_0.1 km_0.2.1 ((ab_by km_0.2.1).drop 1000) 1000 kb_0_1000 = true := by decide +kernel
set_option maxRecDepth 100000 in
theorem kv_0_1003 : ab_vq ab_pg km_0.1 km_0.2.1 ((ab_by km_0.2.1).drop 1003) 1003 kb_0_1003 = true := by decide +kernel
set_option maxRecDepth 100000 in
theorem kv_0_1087 : ab_vq ab_pg km_0.1 km_0.2.1 ((ab_by km_0.2.1).drop 1087) 1087 kb_0_1087 = true := by decide +kernel
set_option maxRecDepth 100000 in
theorem kv_0_1104 : ab_vq ab_pg km_0.1 km_0.2.1 ((ab_by km_0.2.1).drop 1104) 1104 kb_0_1104 = true := by decide +kernel
set_option maxRecDepth 100000 in
theorem kv_0_1107 : ab_vq ab_pg km_0.1 km_0.2.1 ((ab_by km_0.2.1).drop 1107) 1107 kb_0_1107 = true := by decide +kernel
set_option maxRecDepth 100000 in
theorem kv_0_1121 : ab_vq ab_pg km_0.1 km_0.2.1 ((ab_by km_0.2.1).drop 1121) 1121 kb_0_1121 = true := by decide +kernel
set_option maxRecDepth 100000 in
theorem kv_0_1181 : ab_vq ab_pg km_0.1 km_0.2.1 ((ab_by km_0.2.1).drop 1181) 1181 kb_0_1181 = true := by decide +kernel
set_option maxRecDepth 100000 in
theorem kv_0_1197 : ab_vq ab_pg km_0.1 km_0.2.1 ((ab_by km_0.2.1).drop 1197) 1197 kb_0_1197 = true := by decide +kernel
set_option maxRecDepth 100000 in
theorem kv_0_1200 : ab_vq ab_pg km_0.1 km_0.2.1 ((ab_by km_0.2.1).drop 1200) 1200 kb_0_1200 = true := by decide +kernel
set_option maxRecDepth 100000 in
theorem kv_0_1248 : ab_vq ab_pg km_0.1 km_0.2.1 ((ab_by km_0.2.1).drop 1248) 1248 kb_0_1248 = true := by decide +kernel
set_option maxRecDepth 100000 in
theorem kv_0_1265 : ab_vq ab_pg km_0.1 km_0.2.1 ((ab_by km_0.2.1).drop 1265) 1265 kb_0_1265 = true := by decide +kernel
set_option maxRecDepth 100000 in
theorem kv_0_1268 : ab_vq ab_pg km_0.1 km_0.2.1 ((ab_by km_0.2.1).drop 1268) 1268 kb_0_1268 = true := by decide +kernel
set_option maxRecDepth 100000 in
theorem kv_0_1304 : ab_vq ab_pg km_0.1 km_0.2.1 ((ab_by km_0.2.1).drop 1304) 1304 kb_0_1304 = true := by decide +kernel
set_option maxRecDepth 100000 in
theorem kv_0_1321 : ab_vq ab_pg km_0.1 km_0.2.1 ((ab_by km_0.2.1).drop 1321) 1321 kb_0_1321 = true := by decide +kernel
set_option maxRecDepth 100000 in
theorem kv_0_1324 : ab_vq ab_pg km_0.1 km_0.2.1 ((ab_by km_0.2.1).drop 1324) 1324 kb_0_1324 = true := by decide +kernel
set_option maxRecDepth 100000 in
theorem kv_0_1360 : ab_vq ab_pg km_0.1 km_0.2.1 ((ab_by km_0.2.1).drop 1360) 1360 kb_0_1360 = true := by decide +kernel
set_option maxRecDepth 100000 in
theorem kv_0_1377 : ab_vq ab_pg km_0.1 km_0.2.1 ((ab_by km_0.2.1).drop 1377) 1377 kb_0_1377 = true := by decide +kernel
set_option maxRecDepth 100000 in
theorem kv_0_1380 : ab_vq ab_pg km_0.1 km_0.2.1 ((ab_by km_0.2.1).drop 1380) 1380 kb_0_1380 = true := by decide +kernel
set_option maxRecDepth 100000 in
theorem kv_0_1405 : ab_vq ab_pg km_0.1 km_0.2.1 ((ab_by km_0.2.1).drop 1405) 1405 kb_0_1405 = true := by decide +kernel
set_option maxRecDepth 100000 in
theorem kv_0_1418 : ab_vq ab_pg km_0.1 km_0.2.1 ((ab_by km_0.2.1).drop 1418) 1418 kb_0_1418 = true := by decide +kernel
set_option maxRecDepth 100000 in
theorem kv_0_1454 : ab_vq ab_pg km_0.1 km_0.2.1 ((ab_by km_0.2.1).drop 1454) 1454 kb_0_1454 = true := by decide +kernel
set_option maxRecDepth 100000 in
theorem kv_0_1471 : ab_vq ab_pg km_0.1 km_0.2.1 ((ab_by km_0.2.1).drop 1471) 1471 kb_0_1471 = true := by decide +kernel
set_option maxRecDepth 100000 in
theorem kv_0_1474 : ab_vq ab_pg km_0.1 km_0.2.1 ((ab_by km_0.2.1).drop 1474) 1474 kb_0_1474 = true := by decide +kernel
set_option maxRecDepth 100000 in
theorem kv_0_1510 : ab_vq ab_pg km_0.1 km_0.2.1 ((ab_by km_0.2.1).drop 1510) 1510 kb_0_1510 = true := by decide +kernel
set_option maxRecDepth 100000 in
theorem kv_0_1526 : ab_vq ab_pg km_0.1 km_0.2.1 ((ab_by km_0.2.1).drop 1526) 1526 kb_0_1526 = true := by decide +kernel
set_option maxRecDepth 100000 in
theorem kv_0_1529 : ab_vq ab_pg km_0.1 km_0.2.1 ((ab_by km_0.2.1).drop 1529) 1529 kb_0_1529 = true := by decide +kernel
set_option maxRecDepth 100000 in
theorem kv_0_1542 : ab_vq ab_pg km_0.1 km_0.2.1 ((ab_by km_0.2.1).drop 1542) 1542 kb_0_1542 = true := by decide +kernel
set_option maxRecDepth 100000 in
theorem kv_0_1590 : ab_vq ab_pg km_0.1 km_0.2.1 ((ab_by km_0.2.1).drop 1590) 1590 kb_0_1590 = true := by decide +kernel
set_option maxRecDepth 100000 in
theorem kv_0_1607 : ab_vq ab_pg km_0.1 km_0.2.1 ((ab_by km_0.2.1).drop 1607) 1607 kb_0_1607 = true := by decide +kernel
set_option maxRecDepth 100000 in
theorem kv_0_1610 : ab_vq ab_pg km_0.1 km_0.2.1 ((ab_by km_0.2.1).drop 1610) 1610 kb_0_1610 = true := by decide +kernel
set_option maxRecDepth 100000 in
theorem kv_0_1623 : ab_vq ab_pg km_0.1 km_0.2.1 ((ab_by km_0.2.1).drop 1623) 1623 kb_0_1623 = true := by decide +kernel
set_option maxRecDepth 100000 in
theorem kv_0_1659 : ab_vq ab_pg km_0.1 km_0.2.1 ((ab_by km_0.2.1).drop 1659) 1659 kb_0_1659 = true := by decide +kernel
set_option maxRecDepth 100000 in
theorem kv_0_1676 : ab_vq ab_pg km_0.1 km_0.2.1 ((ab_by km_0.2.1).drop 1676) 1676 kb_0_1676 = true := by decide +kernel
set_option maxRecDepth 100000 in
theorem kv_0_1679 : ab_vq ab_pg km_0.1 km_0.2.1 ((ab_by km_0.2.1).drop 1679) 1679 kb_0_1679 = true := by decide +kernel
set_option maxRecDepth 100000 in
theorem kv_0_1715 : ab_vq ab_pg km_0.1 km_0.2.1 ((ab_by km_0.2.1).drop 1715) 1715 kb_0_1715 = true := by decide +kernel
set_option maxRecDepth 100000 in
theorem kv_0_1732 : ab_vq ab_pg km_0.1 km_0.2.1 ((ab_by km_0.2.1).drop 1732) 1732 kb_0_1732 = true := by decide +kernel
set_option maxRecDepth 100000 in
theorem kv_0_1735 : ab_vq ab_pg km_0.1 km_0.2.1 ((ab_by km_0.2.1).drop 1735) 1735 kb_0_1735 = true := by decide +kernel
set_option maxRecDepth 100000 in
theorem kv_0_1760 : ab_vq ab_pg km_0.1 km_0.2.1 ((ab_by km_0.2.1).drop 1760) 1760 kb_0_1760 = true := by decide +kernel
set_option maxRecDepth 100000 in
theorem kv_0_1832 : ab_vq ab_pg km_0.1 km_0.2.1 ((ab_by km_0.2.1).drop 1832) 1832 kb_0_1832 = true := by decide +kernel
set_option maxRecDepth 100000 in
theorem kv_0_1849 : ab_vq ab_pg km_0.1 km_0.2.1 ((ab_by km_0.2.1).drop 1849) 1849 kb_0_1849 = true := by decide +kernel
set_option maxRecDepth 100000 in
theorem kv_0_1852 : ab_vq ab_pg km_0.1 km_0.2.1 ((ab_by km_0.2.1).drop 1852) 1852 kb_0_1852 = true := by decide +kernel
set_option maxRecDepth 100000 in
theorem kv_0_1888 : ab_vq ab_pg km_0.1 km_0.2.1 ((ab_by km_0.2.1).drop 1888) 1888 kb_0_1888 = true := by decide +kernel
set_option maxRecDepth 100000 in
theorem kv_0_1905 : ab_vq ab_pg km_0.1 km_0.2.1 ((ab_by km_0.2.1).drop 1905) 1905 kb_0_1905 = true := by decide +kernel
set_option maxRecDepth 100000 in
theorem kv_0_1908 : ab_vq ab_pg km_0.1 km_0.2.1 ((ab_by km_0.2.1).drop 1908) 1908 kb_0_1908 = true := by decide +kernel
set_option maxRecDepth 100000 in
theorem kv_0_1944 : ab_vq ab_pg km_0.1 km_0.2.1 ((ab_by km_0.2.1).drop 1944) 1944 kb_0_1944 = true := by decide +kernel
set_option maxRecDepth 100000 in
theorem kv_0_1961 : ab_vq ab_pg km_0.1 km_0.2.1 ((ab_by km_0.2.1).drop 1961) 1961 kb_0_1961 = true := by decide +kernel
set_option maxRecDepth 100000 in
theorem kv_0_1964 : ab_vq ab_pg km_0.1 km_0.2.1 ((ab_by km_0.2.1).drop 1964) 1964 kb_0_1964 = true := by decide +kernel
set_option maxRecDepth 100000 in
theorem kv_0_2000 : ab_vq ab_pg km_0.1 km_0.2.1 ((ab_by km_0.2.1).drop 2000) 2000 kb_0_2000 = true := by decide +kernel
set_option maxRecDepth 100000 in
theorem kv_0_2017 : ab_vq ab_pg km_0.1 km_0.2.1 ((ab_by km_0.2.1).drop 2017) 2017 kb_0_2017 = true := by decide +kernel
set_option maxRecDepth 100000 in
theorem kv_0_2020 : ab_vq ab_pg km_0.1 km_0.2.1 ((ab_by km_0.2.1).drop 2020) 2020 kb_0_2020 = true := by decide +kernel
set_option maxRecDepth 100000 in
theorem kv_0_2068 : ab_vq ab_pg km_0.1 km_0.2.1 ((ab_by km_0.2.1).drop 2068) 2068 kb_0_2068 = true := by decide +kernel
set_option maxRecDepth 100000 in
theorem kv_0_2085 : ab_vq ab_pg km_0.1 km_0.2.1 ((ab_by km_0.2.1).drop 2085) 2085 kb_0_2085 = true := by decide +kernel
set_option maxRecDepth 100000 in
theorem kv_0_2088 : ab_vq ab_pg km_0.1 km_0.2.1 ((ab_by km_0.2.1).drop 2088) 2088 kb_0_2088 = true := by decide +kernel
set_option maxRecDepth 100000 in
theorem kv_0_2136 : ab_vq ab_pg km_0.1 km_0.2.1 ((ab_by km_0.2.1).drop 2136) 2136 kb_0_2136 = true := by decide +kernel
set_option maxRecDepth 100000 in
theorem kv_0_2153 : ab_vq ab_pg km_0.1 km_0.2.1 ((ab_by km_0.2.1).drop 2153) 2153 kb_0_2153 = true := by decide +kernel
set_option maxRecDepth 100000 in
theorem kv_0_2156 : ab_vq ab_pg km_0.1 km_0.2.1 ((ab_by km_0.2.1).drop 2156) 2156 kb_0_2156 = true := by decide +kernel
set_option maxRecDepth 100000 in
theorem kv_0_2204 : ab_vq ab_pg km_0.1 km_0.2.1 ((ab_by km_0.2.1).drop 2204) 2204 kb_0_2204 = true := by decide +kernel
set_option maxRecDepth 100000 in
theorem kv_0_2221 : ab_vq ab_pg km_0.1 km_0.2.1 ((ab_by km_0.2.1).drop 2221) 2221 kb_0_2221 = true := by decide +kernel
set_option maxRecDepth 100000 in
theorem kv_0_2224 : ab_vq ab_pg km_0.1 km_0.2.1 ((ab_by km_0.2.1).drop 2224) 2224 kb_0_2224 = true := by decide +kernel
set_option maxRecDepth 100000 in
theorem kv_0_2237 : ab_vq ab_pg km_0.1 km_0.2.1 ((ab_by km_0.2.1).drop 2237) 2237 kb_0_2237 = true := by decide +kernel
set_option maxRecDepth 100000 in
theorem kv_0_2273 : ab_vq ab_pg km_0.1 km_0.2.1 ((ab_by km_0.2.1).drop 2273) 2273 kb_0_2273 = true := by decide +kernel
set_option maxRecDepth 100000 in
theorem kv_0_2289 : ab_vq ab_pg km_0.1 km_0.2.1 ((ab_by km_0.2.1).drop 2289) 2289 kb_0_2289 = true := by decide +kernel
set_option maxRecDepth 100000 in
theorem kv_0_2292 : ab_vq ab_pg km_0.1 km_0.2.1 ((ab_by km_0.2.1).drop 2292) 2292 kb_0_2292 = true := by decide +kernel
set_option maxRecDepth 100000 in
theorem kv_0_2328 : ab_vq ab_pg km_0.1 km_0.2.1 ((ab_by km_0.2.1).drop 2328) 2328 kb_0_2328 = true := by decide +kernel
set_option maxRecDepth 100000 in
theorem kv_0_2345 : ab_vq ab_pg km_0.1 km_0.2.1 ((ab_by km_0.2.1).drop 2345) 2345 kb_0_2345 = true := by decide +kernel
set_option maxRecDepth 100000 in
theorem kv_0_2348 : ab_vq ab_pg km_0.1 km_0.2.1 ((ab_by km_0.2.1).drop 2348) 2348 kb_0_2348 = true := by decide +kernel
set_option maxRecDepth 100000 in
theorem kv_0_2432 : ab_vq ab_pg km_0.1 km_0.2.1 ((ab_by km_0.2.1).drop 2432) 2432 kb_0_2432 = true := by decide +kernel
set_option maxRecDepth 100000 in
theorem kv_0_2449 : ab_vq ab_pg km_0.1 km_0.2.1 ((ab_by km_0.2.1).drop 2449) 2449 kb_0_2449 = true := by decide +kernel
set_option maxRecDepth 100000 in
theorem kv_0_2452 : ab_vq ab_pg km_0.1 km_0.2.1 ((ab_by km_0.2.1).drop 2452) 2452 kb_0_2452 = true := by decide +kernel
set_option maxRecDepth 100000 in
theorem kv_0_2564 : ab_vq ab_pg km_0.1 km_0.2.1 ((ab_by km_0.2.1).drop 2564) 2564 kb_0_2564 = true := by decide +kernel
set_option maxRecDepth 100000 in
theorem kv_0_2581 : ab_vq ab_pg km_0.1 km_0.2.1 ((ab_by km_0.2.1).drop 2581) 2581 kb_0_2581 = true := by decide +kernel
set_option maxRecDepth 100000 in
theorem kv_0_2584 : ab_vq ab_pg km_0.1 km_0.2.1 ((ab_by km_0.2.1).drop 2584) 2584 kb_0_2584 = true := by decide +kernel
set_option maxRecDepth 100000 in
theorem kv_0_2597 : ab_vq ab_pg km_0.1 km_0.2.1 ((ab_by km_0.2.1).drop 2597) 2597 kb_0_2597 = true := by decide +kernel
set_option maxRecDepth 100000 in
theorem kv_0_2610 : ab_vq ab_pg km_0.1 km_0.2.1 ((ab_by km_0.2.1).drop 2610) 2610 kb_0_2610 = true := by decide +kernel
set_option maxRecDepth 100000 in
theorem kv_0_2635 : ab_vq ab_pg km_0.1 km_0.2.1 ((ab_by km_0.2.1).drop 2635) 2635 kb_0_2635 = true := by decide +kernel
set_option maxRecDepth 100000 in
theorem kv_0_2660 : ab_vq ab_pg km_0.1 km_0.2.1 ((ab_by km_0.2.1).drop 2660) 2660 kb_0_2660 = true := by decide +kernel
set_option maxRecDepth 100000 in
theorem kv_0_2666 : ab_vq ab_pg km_0.1 km_0.2.1 ((ab_by km_0.2.1).drop 2666) 2666 kb_0_2666 = true := by decide +kernel
theorem ab_vc {p : Nat × List ab_Row → Bool} {a : Nat × List ab_Row} {l : List (Nat × List ab_Row)} (h : p a = true) (h2 : l.all p = true) : (a :: l).all p = true := by rw [List.all_cons, h, h2]; rfl
theorem kv_0 : ab_vt km_0 kt_0 = true := ab_vc kv_0_0 (ab_vc kv_0_23 (ab_vc kv_0_240 (ab_vc kv_0_313 (ab_vc kv_0_349 (ab_vc kv_0_366 (ab_vc kv_0_369 (ab_vc kv_0_405 (ab_vc kv_0_422 (ab_vc kv_0_425 (ab_vc kv_0_461 (ab_vc kv_0_478 (ab_vc kv_0_481 (ab_vc kv_0_517 (ab_vc kv_0_534 (ab_vc kv_0_537 (ab_vc kv_0_550 (ab_vc kv_0_563 (ab_vc kv_0_599 (ab_vc kv_0_616 (ab_vc kv_0_619 (ab_vc kv_0_667 (ab_vc kv_0_684 (ab_vc kv_0_687 (ab_vc kv_0_735 (ab_vc kv_0_752 (ab_vc kv_0_755 (ab_vc kv_0_803 (ab_vc kv_0_820 (ab_vc kv_0_823 (ab_vc kv_0_859 (ab_vc kv_0_876 (ab_vc kv_0_879 (ab_vc kv_0_927 (ab_vc kv_0_944 (ab_vc kv_0_947 (ab_vc kv_0_983 (ab_vc kv_0_1000 (ab_vc kv_0_1003 (ab_vc kv_0_1087 (ab_vc kv_0_1104 (ab_vc kv_0_1107 (ab_vc kv_0_1121 (ab_vc kv_0_1181 (ab_vc kv_0_1197 (ab_vc kv_0_1200 (ab_vc kv_0_1248 (ab_vc kv_0_1265 (ab_vc kv_0_1268 (ab_vc kv_0_1304 (ab_vc kv_0_1321 (ab_vc kv_0_1324 (ab_vc kv_0_1360 (ab_vc kv_0_1377 (ab_vc kv_0_1380 (ab_vc kv_0_1405 (ab_vc kv_0_1418 (ab_vc kv_0_1454 (ab_vc kv_0_1471 (ab_vc kv_0_1474 (ab_vc kv_0_1510 (ab_vc kv_0_1526 (ab_vc kv_0_1529 (ab_vc kv_0_1542 (ab_vc kv_0_1590 (ab_vc kv_0_1607 (ab_vc kv_0_1610 (ab_vc kv_0_1623 (ab_vc kv_0_1659 (ab_vc kv_0_1676 (ab_vc kv_0_1679 (ab_vc kv_0_1715 (ab_vc kv_0_1732 (ab_vc kv_0_1735 (ab_vc kv_0_1760 (ab_vc kv_0_1832 (ab_vc kv_0_1849 (ab_vc kv_0_1852 (ab_vc kv_0_1888 (ab_vc kv_0_1905 (ab_vc kv_0_1908 (ab_vc kv_0_1944 (ab_vc kv_0_1961 (ab_vc kv_0_1964 (ab_vc kv_0_2000 (ab_vc kv_0_2017 (ab_vc kv_0_2020 (ab_vc kv_0_2068 (ab_vc kv_0_2085 (ab_vc kv_0_2088 (ab_vc kv_0_2136 (ab_vc kv_0_2153 (ab_vc kv_0_2156 (ab_vc kv_0_2204 (ab_vc kv_0_2221 (ab_vc kv_0_2224 (ab_vc kv_0_2237 (ab_vc kv_0_2273 (ab_vc kv_0_2289 (ab_vc kv_0_2292 (ab_vc kv_0_2328 (ab_vc kv_0_2345 (ab_vc kv_0_2348 (ab_vc kv_0_2432 (ab_vc kv_0_2449 (ab_vc kv_0_2452 (ab_vc kv_0_2564 (ab_vc kv_0_2581 (ab_vc kv_0_2584 (ab_vc kv_0_2597 (ab_vc kv_0_2610 (ab_vc kv_0_2635 (ab_vc kv_0_2660 (ab_vc kv_0_2666 (rfl))))))))))))))))))))))))))))))))))))))))))))))))))))))))))))))))))))))))))))))))))))))))))))))))))))))))))))))))))
theorem kk_0 : ab_mok ab_pg 0 km_0 := ⟨⟨by decide +kernel, by decide +kernel, by decide +kernel⟩, by decide +kernel, fun h => absurd rfl h, fun h => absurd rfl h, trivial, fun pc rows h => ab_vq_ok rows _ pc rfl (List.all_eq_true.mp kv_0 _ (ab_fnd_mem (t := kt_0) h))⟩
set_option maxRecDepth 100000 in
theorem kv_1 : ab_vt km_1 kt_1 = true := by decide +kernel
set_option maxRecDepth 100000 in
theorem kw_1 : ab_vm km_1 138 103 = true := by decide +kernel
theorem kk_1 : ab_mok ab_pg 1 km_1 := ab_vm_ok (t := kt_1) rfl kw_1 kv_1 trivial
set_option maxRecDepth 100000 in
theorem kv_2 : ab_vt km_2 kt_2 = true := by decide +kernel
set_option maxRecDepth 100000 in
theorem kw_2 : ab_vm km_2 1814 116 = true := by decide +kernel
theorem kk_2 : ab_mok ab_pg 2 km_2 := ab_vm_ok (t := kt_2) rfl kw_2 kv_2 trivial
set_option maxRecDepth 100000 in
theorem kv_3 : ab_vt km_3 kt_3 = true := by decide +kernel
set_option maxRecDepth 100000 in
theorem kw_3 : ab_vm km_3 543 103 = true := by decide +kernel
theorem kk_3 : ab_mok ab_pg 3 km_3 := ab_vm_ok (t := kt_3) rfl kw_3 kv_3 trivial
set_option maxRecDepth 100000 in
theorem kv_4 : ab_vt km_4 kt_4 = true := by decide +kernel
set_option maxRecDepth 100000 in
theorem kw_4 : ab_vm km_4 1975 116 = true := by decide +kernel
theorem kk_4 : ab_mok ab_pg 4 km_4 := ab_vm_ok (t := kt_4) rfl kw_4 kv_4 trivial
set_option maxRecDepth 100000 in
theorem kv_5 : ab_vt km_5 kt_5 = true := by decide +kernel
set_option maxRecDepth 100000 in
theorem kw_5 : ab_vm km_5 1082 102 = true := by decide +kernel
set_option maxRecDepth 100000 in
theorem kh_5 : ab_hok km_5.1 km_5.2.2.2.2.1 km_5.2.2.2.2.2 := ⟨rfl, rfl, rfl, by decide, by decide, ab_G_in 1083 (by decide +kernel) rfl, trivial⟩
theorem kk_5 : ab_mok ab_pg 5 km_5 := ab_vm_ok (t := kt_5) rfl kw_5 kv_5 kh_5
set_option maxRecDepth 100000 in
theorem kv_6 : ab_vt km_6 kt_6 = true := by decide +kernel
set_option maxRecDepth 100000 in
theorem kw_6 : ab_vm km_6 1979 116 = true := by decide +kernel
theorem kk_6 : ab_mok ab_pg 6 km_6 := ab_vm_ok (t := kt_6) rfl kw_6 kv_6 trivial
set_option maxRecDepth 100000 in
theorem kv_7 : ab_vt km_7 kt_7 = true := by decide +kernel
set_option maxRecDepth 100000 in
theorem kw_7 : ab_vm km_7 1971 116 = true := by decide +kernel
theorem kk_7 : ab_mok ab_pg 7 km_7 := ab_vm_ok (t := kt_7) rfl kw_7 kv_7 trivial
set_option maxRecDepth 100000 in
theorem kv_8 : ab_vt km_8 kt_8 = true := by decide +kernel
set_option maxRecDepth 100000 in
theorem kw_8 : ab_vm km_8 1228 102 = true := by decide +kernel
set_option maxRecDepth 100000 in
theorem kh_8 : ab_hok km_8.1 km_8.2.2.2.2.1 km_8.2.2.2.2.2 := ⟨rfl, rfl, rfl, by decide, by decide, ab_G_in 1083 (by decide +kernel) rfl, trivial⟩
theorem kk_8 : ab_mok ab_pg 8 km_8 := ab_vm_ok (t := kt_8) rfl kw_8 kv_8 kh_8
set_option maxRecDepth 100000 in
theorem kv_9 : ab_vt km_9 kt_9 = true := by decide +kernel
set_option maxRecDepth 100000 in
theorem kw_9 : ab_vm km_9 2051 116 = true := by decide +kernel
theorem kk_9 : ab_mok ab_pg 9 km_9 := ab_vm_ok (t := kt_9) rfl kw_9 kv_9 trivial
set_option maxRecDepth 100000 in
theorem kv_10 : ab_vt km_10 kt_10 = true := by decide +kernel
set_option maxRecDepth 100000 in
theorem kw_10 : ab_vm km_10 1272 102 = true := by decide +kernel
set_option maxRecDepth 100000 in
theorem kh_10 : ab_hok km_10.1 km_10.2.2.2.2.1 km_10.2.2.2.2.2 := ⟨rfl, rfl, rfl, by decide, by decide, ab_G_in 1083 (by decide +kernel) rfl, trivial⟩
theorem kk_10 : ab_mok ab_pg 10 km_10 := ab_vm_ok (t := kt_10) rfl kw_10 kv_10 kh_10
set_option maxRecDepth 100000 in
theorem kv_11 : ab_vt km_11 kt_11 = true := by decide +kernel
set_option maxRecDepth 100000 in
theorem kw_11 : ab_vm km_11 2108 116 = true := by decide +kernel
theorem kk_11 : ab_mok ab_pg 11 km_11 := ab_vm_ok (t := kt_11) rfl kw_11 kv_11 trivial
set_option maxRecDepth 100000 in
theorem kv_12 : ab_vt km_12 kt_12 = true := by decide +kernel
set_option maxRecDepth 100000 in
theorem kw_12 : ab_vm km_12 1371 102 = true := by decide +kernel
set_option maxRecDepth 100000 in
theorem kh_12 : ab_hok km_12.1 km_12.2.2.2.2.1 km_12.2.2.2.2.2 := ⟨rfl, rfl, rfl, by decide, by decide, ab_G_in 1083 (by decide +kernel) rfl, trivial⟩
theorem kk_12 : ab_mok ab_pg 12 km_12 := ab_vm_ok (t := kt_12) rfl kw_12 kv_12 kh_12
set_option maxRecDepth 100000 in
theorem kv_13 : ab_vt km_13 kt_13 = true := by decide +kernel
set_option maxRecDepth 100000 in
theorem kw_13 : ab_vm km_13 2183 116 = true := by decide +kernel
theorem kk_13 : ab_mok ab_pg 13 km_13 := ab_vm_ok (t := kt_13) rfl kw_13 kv_13 trivial
set_option maxRecDepth 100000 in
theorem kv_14 : ab_vt km_14 kt_14 = true := by decide +kernel
set_option maxRecDepth 100000 in
theorem kw_14 : ab_vm km_14 555 103 = true := by decide +kernel
theorem kk_14 : ab_mok ab_pg 14 km_14 := ab_vm_ok (t := kt_14) rfl kw_14 kv_14 trivial
set_option maxRecDepth 100000 in
theorem kv_15 : ab_vt km_15 kt_15 = true := by decide +kernel
set_option maxRecDepth 100000 in
theorem kw_15 : ab_vm km_15 2187 116 = true := by decide +kernel
theorem kk_15 : ab_mok ab_pg 15 km_15 := ab_vm_ok (t := kt_15) rfl kw_15 kv_15 trivial
set_option maxRecDepth 100000 in
theorem kv_16 : ab_vt km_16 kt_16 = true := by decide +kernel
set_option maxRecDepth 100000 in
theorem kw_16 : ab_vm km_16 559 103 = true := by decide +kernel
theorem kk_16 : ab_mok ab_pg 16 km_16 := ab_vm_ok (t := kt_16) rfl kw_16 kv_16 trivial
set_option maxRecDepth 100000 in
theorem kv_17 : ab_vt km_17 kt_17 = true := by decide +kernel
set_option maxRecDepth 100000 in
theorem kw_17 : ab_vm km_17 2179 116 = true := by decide +kernel
theorem kk_17 : ab_mok ab_pg 17 km_17 := ab_vm_ok (t := kt_17) rfl kw_17 kv_17 trivial
set_option maxRecDepth 100000 in
theorem kv_18 : ab_vt km_18 kt_18 = true := by decide +kernel
set_option maxRecDepth 100000 in
theorem kw_18 : ab_vm km_18 1397 102 = true := by decide +kernel
set_option maxRecDepth 100000 in
theorem kh_18 : ab_hok km_18.1 km_18.2.2.2.2.1 km_18.2.2.2.2.2 := ⟨rfl, rfl, rfl, by decide, by decide, ab_G_in 1083 (by decide +kernel) rfl, trivial⟩
theorem kk_18 : ab_mok ab_pg 18 km_18 := ab_vm_ok (t := kt_18) rfl kw_18 kv_18 kh_18
set_option maxRecDepth 100000 in
theorem kv_19 : ab_vt km_19 kt_19 = true := by decide +kernel
set_option maxRecDepth 100000 in
theorem kw_19 : ab_vm km_19 2191 116 = true := by decide +kernel
theorem kk_19 : ab_mok ab_pg 19 km_19 := ab_vm_ok (t := kt_19) rfl kw_19 kv_19 trivial
set_option maxRecDepth 100000 in
theorem kv_20 : ab_vt km_20 kt_20 = true := by decide +kernel
set_option maxRecDepth 100000 in
theorem kw_20 : ab_vm km_20 1408 102 = true := by decide +kernel
set_option maxRecDepth 100000 in
theorem kh_20 : ab_hok km_20.1 km_20.2.2.2.2.1 km_20.2.2.2.2.2 := ⟨rfl, rfl, rfl, by decide, by decide, ab_G_in 1409 (by decide +kernel) rfl, ⟨rfl, rfl, rfl, by decide, by decide, ab_G_in 1083 (by decide +kernel) rfl, trivial⟩⟩
theorem kk_20 : ab_mok ab_pg 20 km_20 := ab_vm_ok (t := kt_20) rfl kw_20 kv_20 kh_20
set_option maxRecDepth 100000 in
theorem kv_21 : ab_vt km_21 kt_21 = true := by decide +kernel
set_option maxRecDepth 100000 in
theorem kw_21 : ab_vm km_21 2199 116 = true := by decide +kernel
theorem kk_21 : ab_mok ab_pg 21 km_21 := ab_vm_ok (t := kt_21) rfl kw_21 kv_21 trivial
set_option maxRecDepth 100000 in
theorem kv_22 : ab_vt km_22 kt_22 = true := by decide +kernel
set_option maxRecDepth 100000 in
theorem kw_22 : ab_vm km_22 1437 102 = true := by decide +kernel
set_option maxRecDepth 100000 in
theorem kh_22 : ab_hok km_22.1 km_22.2.2.2.2.1 km_22.2.2.2.2.2 := ⟨rfl, rfl, rfl, by decide, by decide, ab_G_in 1409 (by decide +kernel) rfl, ⟨rfl, rfl, rfl, by decide, by decide, ab_G_in 1083 (by decide +kernel) rfl, trivial⟩⟩
theorem kk_22 : ab_mok ab_pg 22 km_22 := ab_vm_ok (t := kt_22) rfl kw_22 kv_22 kh_22
set_option maxRecDepth 100000 in
theorem kv_23 : ab_vt km_23 kt_23 = true := by decide +kernel
set_option maxRecDepth 100000 in
theorem kw_23 : ab_vm km_23 2207 116 = true := by decide +kernel
theorem kk_23 : ab_mok ab_pg 23 km_23 := ab_vm_ok (t := kt_23) rfl kw_23 kv_23 trivial
set_option maxRecDepth 100000 in
theorem kv_24 : ab_vt km_24 kt_24 = true := by decide +kernel
set_option maxRecDepth 100000 in
theorem kw_24 : ab_vm km_24 1455 102 = true := by decide +kernel
set_option maxRecDepth 100000 in
theorem kh_24 : ab_hok km_24.1 km_24.2.2.2.2.1 km_24.2.2.2.2.2 := ⟨rfl, rfl, rfl, by decide, by decide, ab_G_in 1409 (by decide +kernel) rfl, ⟨rfl, rfl, rfl, by decide, by decide, ab_G_in 1083 (by decide +kernel) rfl, trivial⟩⟩
theorem kk_24 : ab_mok ab_pg 24 km_24 := ab_vm_ok (t := kt_24) rfl kw_24 kv_24 kh_24
set_option maxRecDepth 100000 in
theorem kv_25 : ab_vt km_25 kt_25 = true := by decide +kernel
set_option maxRecDepth 100000 in
theorem kw_25 : ab_vm km_25 2218 116 = true := by decide +kernel
theorem kk_25 : ab_mok ab_pg 25 km_25 := ab_vm_ok (t := kt_25) rfl kw_25 kv_25 trivial
set_option maxRecDepth 100000 in
theorem kv_26 : ab_vt km_26 kt_26 = true := by decide +kernel
set_option maxRecDepth 100000 in
theorem kw_26 : ab_vm km_26 1462 102 = true := by decide +kernel
set_option maxRecDepth 100000 in
theorem kh_26 : ab_hok km_26.1 km_26.2.2.2.2.1 km_26.2.2.2.2.2 := ⟨rfl, rfl, rfl, by decide, by decide, ab_G_in 1083 (by decide +kernel) rfl, trivial⟩
theorem kk_26 : ab_mok ab_pg 26 km_26 := ab_vm_ok (t := kt_26) rfl kw_26 kv_26 kh_26
set_option maxRecDepth 100000 in
theorem kv_27 : ab_vt km_27 kt_27 = true := by decide +kernel
set_option maxRecDepth 100000 in
theorem kw_27 : ab_vm km_27 2225 116 = true := by decide +kernel
theorem kk_27 : ab_mok ab_pg 27 km_27 := ab_vm_ok (t := kt_27) rfl kw_27 kv_27 trivial
set_option maxRecDepth 100000 in
theorem kv_28 : ab_vt km_28 kt_28 = true := by decide +kernel
set_option maxRecDepth 100000 in
theorem kw_28 : ab_vm km_28 1477 102 = true := by decide +kernel
set_option maxRecDepth 100000 in
theorem kh_28 : ab_hok km_28.1 km_28.2.2.2.2.1 km_28.2.2.2.2.2 := ⟨rfl, rfl, rfl, by decide, by decide, ab_G_in 1409 (by decide +kernel) rfl, trivial⟩
theorem kk_28 : ab_mok ab_pg 28 km_28 := ab_vm_ok (t := kt_28) rfl kw_28 kv_28 kh_28
set_option maxRecDepth 100000 in
theorem kv_29 : ab_vt km_29 kt_29 = true := by decide +kernel
set_option maxRecDepth 100000 in
theorem kw_29 : ab_vm km_29 2233 116 = true := by decide +kernel
theorem kk_29 : ab_mok ab_pg 29 km_29 := ab_vm_ok (t := kt_29) rfl kw_29 kv_29 trivial
set_option maxRecDepth 100000 in
theorem kv_30 : ab_vt km_30 kt_30 = true := by decide +kernel
set_option maxRecDepth 100000 in
theorem kw_30 : ab_vm km_30 1488 102 = true := by decide +kernel
set_option maxRecDepth 100000 in
theorem kh_30 : ab_hok km_30.1 km_30.2.2.2.2.1 km_30.2.2.2.2.2 := ⟨rfl, rfl, rfl, by decide, by decide, ab_G_in 1409 (by decide +kernel) rfl, trivial⟩
theorem kk_30 : ab_mok ab_pg 30 km_30 := ab_vm_ok (t := kt_30) rfl kw_30 kv_30 kh_30
set_option maxRecDepth 100000 in
theorem kv_31 : ab_vt km_31 kt_31 = true := by decide +kernel
set_option maxRecDepth 100000 in
theorem kw_31 : ab_vm km_31 2237 116 = true := by decide +kernel
theorem kk_31 : ab_mok ab_pg 31 km_31 := ab_vm_ok (t := kt_31) rfl kw_31 kv_31 trivial
set_option maxRecDepth 100000 in
theorem kv_32 : ab_vt km_32 kt_32 = true := by decide +kernel
set_option maxRecDepth 100000 in
theorem kw_32 : ab_vm km_32 1496 102 = true := by decide +kernel
set_option maxRecDepth 100000 in
theorem kh_32 : ab_hok km_32.1 km_32.2.2.2.2.1 km_32.2.2.2.2.2 := ⟨rfl, rfl, rfl, by decide, by decide, ab_G_in 1083 (by decide +kernel) rfl, trivial⟩
theorem kk_32 : ab_mok ab_pg 32 km_32 := ab_vm_ok (t := kt_32) rfl kw_32 kv_32 kh_32
set_option maxRecDepth 100000 in
theorem kv_33 : ab_vt km_33 kt_33 = true := by decide +kernel
set_option maxRecDepth 100000 in
theorem kw_33 : ab_vm km_33 2087 116 = true := by decide +kernel
theorem kk_33 : ab_mok ab_pg 33 km_33 := ab_vm_ok (t := kt_33) rfl kw_33 kv_33 trivial
set_option maxRecDepth 100000 in
theorem kv_34 : ab_vt km_34 kt_34 = true := by decide +kernel
set_option maxRecDepth 100000 in
theorem kw_34 : ab_vm km_34 575 103 = true := by decide +kernel
theorem kk_34 : ab_mok ab_pg 34 km_34 := ab_vm_ok (t := kt_34) rfl kw_34 kv_34 trivial
set_option maxRecDepth 100000 in
theorem kv_35 : ab_vt km_35 kt_35 = true := by decide +kernel
set_option maxRecDepth 100000 in
theorem kw_35 : ab_vm km_35 2241 116 = true := by decide +kernel
theorem kk_35 : ab_mok ab_pg 35 km_35 := ab_vm_ok (t := kt_35) rfl kw_35 kv_35 trivial
set_option maxRecDepth 100000 in
theorem kv_36 : ab_vt km_36 kt_36 = true := by decide +kernel
set_option maxRecDepth 100000 in
theorem kw_36 : ab_vm km_36 1510 102 = true := by decide +kernel
set_option maxRecDepth 100000 in
theorem kh_36 : ab_hok km_36.1 km_36.2.2.2.2.1 km_36.2.2.2.2.2 := ⟨rfl, rfl, rfl, by decide, by decide, ab_G_in 1409 (by decide +kernel) rfl, ⟨rfl, rfl, rfl, by decide, by decide, ab_G_in 1083 (by decide +kernel) rfl, trivial⟩⟩
theorem kk_36 : ab_mok ab_pg 36 km_36 := ab_vm_ok (t := kt_36) rfl kw_36 kv_36 kh_36
set_option maxRecDepth 100000 in
theorem kv_37 : ab_vt km_37 kt_37 = true := by decide +kernel
set_option maxRecDepth 100000 in
theorem kw_37 : ab_vm km_37 2249 116 = true := by decide +kernel
theorem kk_37 : ab_mok ab_pg 37 km_37 := ab_vm_ok (t := kt_37) rfl kw_37 kv_37 trivial
set_option maxRecDepth 100000 in
theorem kv_38 : ab_vt km_38 kt_38 = true := by decide +kernel
set_option maxRecDepth 100000 in
theorem kw_38 : ab_vm km_38 1518 102 = true := by decide +kernel
set_option maxRecDepth 100000 in
theorem kh_38 : ab_hok km_38.1 km_38.2.2.2.2.1 km_38.2.2.2.2.2 := ⟨rfl, rfl, rfl, by decide, by decide, ab_G_in 1409 (by decide +kernel) rfl, ⟨rfl, rfl, rfl, by decide, by decide, ab_G_in 1083 (by decide +kernel) rfl, trivial⟩⟩
theorem kk_38 : ab_mok ab_pg 38 km_38 := ab_vm_ok (t := kt_38) rfl kw_38 kv_38 kh_38
set_option maxRecDepth 100000 in
theorem kv_39 : ab_vt km_39 kt_39 = true := by decide +kernel
set_option maxRecDepth 100000 in
theorem kw_39 : ab_vm km_39 2257 116 = true := by decide +kernel
theorem kk_39 : ab_mok ab_pg 39 km_39 := ab_vm_ok (t := kt_39) rfl kw_39 kv_39 trivial
set_option maxRecDepth 100000 in
theorem kv_40 : ab_vt km_40 kt_40 = true := by decide +kernel
set_option maxRecDepth 100000 in
theorem kw_40 : ab_vm km_40 1545 102 = true := by decide +kernel
set_option maxRecDepth 100000 in
theorem kh_40 : ab_hok km_40.1 km_40.2.2.2.2.1 km_40.2.2.2.2.2 := ⟨rfl, rfl, rfl, by decide, by decide, ab_G_in 1409 (by decide +kernel) rfl, trivial⟩
theorem kk_40 : ab_mok ab_pg 40 km_40 := ab_vm_ok (t := kt_40) rfl kw_40 kv_40 kh_40
set_option maxRecDepth 100000 in
theorem kv_41 : ab_vt km_41 kt_41 = true := by decide +kernel
set_option maxRecDepth 100000 in
theorem kw_41 : ab_vm km_41 2265 116 = true := by decide +kernel
theorem kk_41 : ab_mok ab_pg 41 km_41 := ab_vm_ok (t := kt_41) rfl kw_41 kv_41 trivial
set_option maxRecDepth 100000 in
theorem kv_42 : ab_vt km_42 kt_42 = true := by decide +kernel
set_option maxRecDepth 100000 in
theorem kw_42 : ab_vm km_42 1556 102 = true := by decide +kernel
set_option maxRecDepth 100000 in
theorem kh_42 : ab_hok km_42.1 km_42.2.2.2.2.1 km_42.2.2.2.2.2 := ⟨rfl, rfl, rfl, by decide, by decide, ab_G_in 1083 (by decide +kernel) rfl, trivial⟩
theorem kk_42 : ab_mok ab_pg 42 km_42 := ab_vm_ok (t := kt_42) rfl kw_42 kv_42 kh_42
set_option maxRecDepth 100000 in
theorem kv_43 : ab_vt km_43 kt_43 = true := by decide +kernel
set_option maxRecDepth 100000 in
theorem kw_43 : ab_vm km_43 2273 116 = true := by decide +kernel
theorem kk_43 : ab_mok ab_pg 43 km_43 := ab_vm_ok (t := kt_43) rfl kw_43 kv_43 trivial
set_option maxRecDepth 100000 in
theorem kv_44 : ab_vt km_44 kt_44 = true := by decide +kernel
set_option maxRecDepth 100000 in
theorem kw_44 : ab_vm km_44 626 103 = true := by decide +kernel
theorem kk_44 : ab_mok ab_pg 44 km_44 := ab_vm_ok (t := kt_44) rfl kw_44 kv_44 trivial
set_option maxRecDepth 100000 in
theorem kv_45 : ab_vt km_45 kt_45 = true := by decide +kernel
set_option maxRecDepth 100000 in
theorem kw_45 : ab_vm km_45 2284 116 = true := by decide +kernel
theorem kk_45 : ab_mok ab_pg 45 km_45 := ab_vm_ok (t := kt_45) rfl kw_45 kv_45 trivial
set_option maxRecDepth 100000 in
theorem kv_46 : ab_vt km_46 kt_46 = true := by decide +kernel
set_option maxRecDepth 100000 in
theorem kw_46 : ab_vm km_46 663 103 = true := by decide +kernel
theorem kk_46 : ab_mok ab_pg 46 km_46 := ab_vm_ok (t := kt_46) rfl kw_46 kv_46 trivial
set_option maxRecDepth 100000 in
theorem kv_47 : ab_vt km_47 kt_47 = true := by decide +kernel
set_option maxRecDepth 100000 in
theorem kw_47 : ab_vm km_47 2292 116 = true := by decide +kernel
theorem kk_47 : ab_mok ab_pg 47 km_47 := ab_vm_ok (t := kt_47) rfl kw_47 kv_47 trivial
set_option maxRecDepth 100000 in
theorem kv_48 : ab_vt km_48 kt_48 = true := by decide +kernel
set_option maxRecDepth 100000 in
theorem kw_48 : ab_vm km_48 1573 102 = true := by decide +kernel
set_option maxRecDepth 100000 in
theorem kh_48 : ab_hok km_48.1 km_48.2.2.2.2.1 km_48.2.2.2.2.2 := ⟨rfl, rfl, rfl, by decide, by decide, ab_G_in 1409 (by decide +kernel) rfl, trivial⟩
theorem kk_48 : ab_mok ab_pg 48 km_48 := ab_vm_ok (t := kt_48) rfl kw_48 kv_48 kh_48
set_option maxRecDepth 100000 in
theorem kv_49 : ab_vt km_49 kt_49 = true := by decide +kernel
set_option maxRecDepth 100000 in
theorem kw_49 : ab_vm km_49 2304 116 = true := by decide +kernel
theorem kk_49 : ab_mok ab_pg 49 km_49 := ab_vm_ok (t := kt_49) rfl kw_49 kv_49 trivial
set_option maxRecDepth 100000 in
theorem kv_50 : ab_vt km_50 kt_50 = true := by decide +kernel
set_option maxRecDepth 100000 in
theorem kw_50 : ab_vm km_50 1584 102 = true := by decide +kernel
set_option maxRecDepth 100000 in
theorem kh_50 : ab_hok km_50.1 km_50.2.2.2.2.1 km_50.2.2.2.2.2 := ⟨rfl, rfl, rfl, by decide, by decide, ab_G_in 1083 (by decide +kernel) rfl, ⟨rfl, rfl, rfl, by decide, by decide, ab_G_in 1585 (by decide +kernel) rfl, trivial⟩⟩
theorem kk_50 : ab_mok ab_pg 50 km_50 := ab_vm_ok (t := kt_50) rfl kw_50 kv_50 kh_50
set_option maxRecDepth 100000 in
theorem kv_51 : ab_vt km_51 kt_51 = true := by decide +kernel
set_option maxRecDepth 100000 in
theorem kw_51 : ab_vm km_51 2308 116 = true := by decide +kernel
theorem kk_51 : ab_mok ab_pg 51 km_51 := ab_vm_ok (t := kt_51) rfl kw_51 kv_51 trivial
set_option maxRecDepth 100000 in
theorem kv_52 : ab_vt km_52 kt_52 = true := by decide +kernel
set_option maxRecDepth 100000 in
theorem kw_52 : ab_vm km_52 1011 103 = true := by decide +kernel
theorem kk_52 : ab_mok ab_pg 52 km_52 := ab_vm_ok (t := kt_52) rfl kw_52 kv_52 trivial
set_option maxRecDepth 100000 in
theorem kv_53 : ab_vt km_53 kt_53 = true := by decide +kernel
set_option maxRecDepth 100000 in
theorem kw_53 : ab_vm km_53 2316 116 = true := by decide +kernel
theorem kk_53 : ab_mok ab_pg 53 km_53 := ab_vm_ok (t := kt_53) rfl kw_53 kv_53 trivial
set_option maxRecDepth 100000 in
theorem kv_54 : ab_vt km_54 kt_54 = true := by decide +kernel
set_option maxRecDepth 100000 in
theorem kw_54 : ab_vm km_54 1649 102 = true := by decide +kernel
set_option maxRecDepth 100000 in
theorem kh_54 : ab_hok km_54.1 km_54.2.2.2.2.1 km_54.2.2.2.2.2 := ⟨rfl, rfl, rfl, by decide, by decide, ab_G_in 1083 (by decide +kernel) rfl, trivial⟩
theorem kk_54 : ab_mok ab_pg 54 km_54 := ab_vm_ok (t := kt_54) rfl kw_54 kv_54 kh_54
set_option maxRecDepth 100000 in
theorem kv_55 : ab_vt km_55 kt_55 = true := by decide +kernel
set_option maxRecDepth 100000 in
theorem kw_55 : ab_vm km_55 2320 116 = true := by decide +kernel
theorem kk_55 : ab_mok ab_pg 55 km_55 := ab_vm_ok (t := kt_55) rfl kw_55 kv_55 trivial
set_option maxRecDepth 100000 in
theorem kv_56 : ab_vt km_56 kt_56 = true := by decide +kernel
set_option maxRecDepth 100000 in
theorem kw_56 : ab_vm km_56 1020 103 = true := by decide +kernel
theorem kk_56 : ab_mok ab_pg 56 km_56 := ab_vm_ok (t := kt_56) rfl kw_56 kv_56 trivial
set_option maxRecDepth 100000 in
theorem kv_57 : ab_vt km_57 kt_57 = true := by decide +kernel
set_option maxRecDepth 100000 in
theorem kw_57 : ab_vm km_57 2328 116 = true := by decide +kernel
theorem kk_57 : ab_mok ab_pg 57 km_57 := ab_vm_ok (t := kt_57) rfl kw_57 kv_57 trivial
set_option maxRecDepth 100000 in
theorem kv_58 : ab_vt km_58 kt_58 = true := by decide +kernel
set_option maxRecDepth 100000 in
theorem kw_58 : ab_vm km_58 1658 102 = true := by decide +kernel
set_option maxRecDepth 100000 in
theorem kh_58 : ab_hok km_58.1 km_58.2.2.2.2.1 km_58.2.2.2.2.2 := ⟨rfl, rfl, rfl, by decide, by decide, ab_G_in 1083 (by decide +kernel) rfl, trivial⟩
theorem kk_58 : ab_mok ab_pg 58 km_58 := ab_vm_ok (t := kt_58) rfl kw_58 kv_58 kh_58
set_option maxRecDepth 100000 in
theorem kv_59 : ab_vt km_59 kt_59 = true := by decide +kernel
set_option maxRecDepth 100000 in
theorem kw_59 : ab_vm km_59 2332 116 = true := by decide +kernel
theorem kk_59 : ab_mok ab_pg 59 km_59 := ab_vm_ok (t := kt_59) rfl kw_59 kv_59 trivial
set_option maxRecDepth 100000 in
theorem kv_60 : ab_vt km_60 kt_60 = true := by decide +kernel
set_option maxRecDepth 100000 in
theorem kw_60 : ab_vm km_60 1665 102 = true := by decide +kernel
set_option maxRecDepth 100000 in
theorem kh_60 : ab_hok km_60.1 km_60.2.2.2.2.1 km_60.2.2.2.2.2 := ⟨rfl, rfl, rfl, by decide, by decide, ab_G_in 1083 (by decide +kernel) rfl, trivial⟩
theorem kk_60 : ab_mok ab_pg 60 km_60 := ab_vm_ok (t := kt_60) rfl kw_60 kv_60 kh_60
set_option maxRecDepth 100000 in
theorem kv_61 : ab_vt km_61 kt_61 = true := by decide +kernel
set_option maxRecDepth 100000 in
theorem kw_61 : ab_vm km_61 2336 116 = true := by decide +kernel
theorem kk_61 : ab_mok ab_pg 61 km_61 := ab_vm_ok (t := kt_61) rfl kw_61 kv_61 trivial
set_option maxRecDepth 100000 in
theorem kv_62 : ab_vt km_62 kt_62 = true := by decide +kernel
set_option maxRecDepth 100000 in
theorem kw_62 : ab_vm km_62 1036 103 = true := by decide +kernel
theorem kk_62 : ab_mok ab_pg 62 km_62 := ab_vm_ok (t := kt_62) rfl kw_62 kv_62 trivial
set_option maxRecDepth 100000 in
theorem kv_63 : ab_vt km_63 kt_63 = true := by decide +kernel
set_option maxRecDepth 100000 in
theorem kw_63 : ab_vm km_63 2348 116 = true := by decide +kernel
theorem kk_63 : ab_mok ab_pg 63 km_63 := ab_vm_ok (t := kt_63) rfl kw_63 kv_63 trivial
set_option maxRecDepth 100000 in
theorem kv_64 : ab_vt km_64 kt_64 = true := by decide +kernel
set_option maxRecDepth 100000 in
theorem kw_64 : ab_vm km_64 1672 102 = true := by decide +kernel
set_option maxRecDepth 100000 in
theorem kh_64 : ab_hok km_64.1 km_64.2.2.2.2.1 km_64.2.2.2.2.2 := ⟨rfl, rfl, rfl, by decide, by decide, ab_G_in 1083 (by decide +kernel) rfl, trivial⟩
theorem kk_64 : ab_mok ab_pg 64 km_64 := ab_vm_ok (t := kt_64) rfl kw_64 kv_64 kh_64
set_option maxRecDepth 100000 in
theorem kv_65 : ab_vt km_65 kt_65 = true := by decide +kernel
set_option maxRecDepth 100000 in
theorem kw_65 : ab_vm km_65 2356 116 = true := by decide +kernel
theorem kk_65 : ab_mok ab_pg 65 km_65 := ab_vm_ok (t := kt_65) rfl kw_65 kv_65 trivial
set_option maxRecDepth 100000 in
theorem kv_66 : ab_vt km_66 kt_66 = true := by decide +kernel
set_option maxRecDepth 100000 in
theorem kw_66 : ab_vm km_66 1679 102 = true := by decide +kernel
set_option maxRecDepth 100000 in
theorem kh_66 : ab_hok km_66.1 km_66.2.2.2.2.1 km_66.2.2.2.2.2 := ⟨rfl, rfl, rfl, by decide, by decide, ab_G_in 1083 (by decide +kernel) rfl, trivial⟩
theorem kk_66 : ab_mok ab_pg 66 km_66 := ab_vm_ok (t := kt_66) rfl kw_66 kv_66 kh_66
set_option maxRecDepth 100000 in
theorem kv_67 : ab_vt km_67 kt_67 = true := by decide +kernel
set_option maxRecDepth 100000 in
theorem kw_67 : ab_vm km_67 2360 116 = true := by decide +kernel
theorem kk_67 : ab_mok ab_pg 67 km_67 := ab_vm_ok (t := kt_67) rfl kw_67 kv_67 trivial
set_option maxRecDepth 100000 in
theorem kv_68 : ab_vt km_68 kt_68 = true := by decide +kernel
set_option maxRecDepth 100000 in
theorem kw_68 : ab_vm km_68 1691 102 = true := by decide +kernel
set_option maxRecDepth 100000 in
theorem kh_68 : ab_hok km_68.1 km_68.2.2.2.2.1 km_68.2.2.2.2.2 := ⟨rfl, rfl, rfl, by decide, by decide, ab_G_in 1083 (by decide +kernel) rfl, trivial⟩
theorem kk_68 : ab_mok ab_pg 68 km_68 := ab_vm_ok (t := kt_68) rfl kw_68 kv_68 kh_68
set_option maxRecDepth 100000 in
theorem kv_69 : ab_vt km_69 kt_69 = true := by decide +kernel
set_option maxRecDepth 100000 in
theorem kw_69 : ab_vm km_69 2368 116 = true := by decide +kernel
theorem kk_69 : ab_mok ab_pg 69 km_69 := ab_vm_ok (t := kt_69) rfl kw_69 kv_69 trivial
set_option maxRecDepth 100000 in
theorem kv_70 : ab_vt km_70 kt_70 = true := by decide +kernel
set_option maxRecDepth 100000 in
theorem kw_70 : ab_vm km_70 1706 102 = true := by decide +kernel
set_option maxRecDepth 100000 in
theorem kh_70 : ab_hok km_70.1 km_70.2.2.2.2.1 km_70.2.2.2.2.2 := ⟨rfl, rfl, rfl, by decide, by decide, ab_G_in 1409 (by decide +kernel) rfl, trivial⟩
theorem kk_70 : ab_mok ab_pg 70 km_70 := ab_vm_ok (t := kt_70) rfl kw_70 kv_70 kh_70
set_option maxRecDepth 100000 in
theorem kv_71 : ab_vt km_71 kt_71 = true := by decide +kernel
set_option maxRecDepth 100000 in
theorem kw_71 : ab_vm km_71 2372 116 = true := by decide +kernel
theorem kk_71 : ab_mok ab_pg 71 km_71 := ab_vm_ok (t := kt_71) rfl kw_71 kv_71 trivial
set_option maxRecDepth 100000 in
theorem kv_72 : ab_vt km_72 kt_72 = true := by decide +kernel
set_option maxRecDepth 100000 in
theorem kw_72 : ab_vm km_72 1717 102 = true := by decide +kernel
set_option maxRecDepth 100000 in
theorem kh_72 : ab_hok km_72.1 km_72.2.2.2.2.1 km_72.2.2.2.2.2 := ⟨rfl, rfl, rfl, by decide, by decide, ab_G_in 1409 (by decide +kernel) rfl, ⟨rfl, rfl, rfl, by decide, by decide, ab_G_in 1083 (by decide +kernel) rfl, trivial⟩⟩
theorem kk_72 : ab_mok ab_pg 72 km_72 := ab_vm_ok (t := kt_72) rfl kw_72 kv_72 kh_72
set_option maxRecDepth 100000 in
theorem kv_73 : ab_vt km_73 kt_73 = true := by decide +kernel
set_option maxRecDepth 100000 in
theorem kw_73 : ab_vm km_73 2253 116 = true := by decide +kernel
theorem kk_73 : ab_mok ab_pg 73 km_73 := ab_vm_ok (t := kt_73) rfl kw_73 kv_73 trivial
set_option maxRecDepth 100000 in
theorem kv_74 : ab_vt km_74 kt_74 = true := by decide +kernel
set_option maxRecDepth 100000 in
theorem kw_74 : ab_vm km_74 1724 102 = true := by decide +kernel
set_option maxRecDepth 100000 in
theorem kh_74 : ab_hok km_74.1 km_74.2.2.2.2.1 km_74.2.2.2.2.2 := ⟨rfl, rfl, rfl, by decide, by decide, ab_G_in 1409 (by decide +kernel) rfl, ⟨rfl, rfl, rfl, by decide, by decide, ab_G_in 1083 (by decide +kernel) rfl, trivial⟩⟩
theorem kk_74 : ab_mok ab_pg 74 km_74 := ab_vm_ok (t := kt_74) rfl kw_74 kv_74 kh_74
set_option maxRecDepth 100000 in
theorem kv_75 : ab_vt km_75 kt_75 = true := by decide +kernel
set_option maxRecDepth 100000 in
theorem kw_75 : ab_vm km_75 2269 116 = true := by decide +kernel
theorem kk_75 : ab_mok ab_pg 75 km_75 := ab_vm_ok (t := kt_75) rfl kw_75 kv_75 trivial
set_option maxRecDepth 100000 in
theorem kv_76 : ab_vt km_76 kt_76 = true := by decide +kernel
set_option maxRecDepth 100000 in
theorem kw_76 : ab_vm km_76 1735 102 = true := by decide +kernel
set_option maxRecDepth 100000 in
theorem kh_76 : ab_hok km_76.1 km_76.2.2.2.2.1 km_76.2.2.2.2.2 := ⟨rfl, rfl, rfl, by decide, by decide, ab_G_in 1409 (by decide +kernel) rfl, ⟨rfl, rfl, rfl, by decide, by decide, ab_G_in 1083 (by decide +kernel) rfl, trivial⟩⟩
theorem kk_76 : ab_mok ab_pg 76 km_76 := ab_vm_ok (t := kt_76) rfl kw_76 kv_76 kh_76
set_option maxRecDepth 100000 in
theorem kv_77 : ab_vt km_77 kt_77 = true := by decide +kernel
set_option maxRecDepth 100000 in
theorem kw_77 : ab_vm km_77 2352 116 = true := by decide +kernel
theorem kk_77 : ab_mok ab_pg 77 km_77 := ab_vm_ok (t := kt_77) rfl kw_77 kv_77 trivial
set_option maxRecDepth 100000 in
theorem kv_78 : ab_vt km_78 kt_78 = true := by decide +kernel
set_option maxRecDepth 100000 in
theorem kw_78 : ab_vm km_78 1050 103 = true := by decide +kernel
theorem kk_78 : ab_mok ab_pg 78 km_78 := ab_vm_ok (t := kt_78) rfl kw_78 kv_78 trivial
set_option maxRecDepth 100000 in
theorem kv_79 : ab_vt km_79 kt_79 = true := by decide +kernel
set_option maxRecDepth 100000 in
theorem kw_79 : ab_vm km_79 2288 116 = true := by decide +kernel
theorem kk_79 : ab_mok ab_pg 79 km_79 := ab_vm_ok (t := kt_79) rfl kw_79 kv_79 trivial
set_option maxRecDepth 100000 in
theorem kv_80 : ab_vt km_80 kt_80 = true := by decide +kernel
set_option maxRecDepth 100000 in
theorem kw_80 : ab_vm km_80 1744 102 = true := by decide +kernel
set_option maxRecDepth 100000 in
theorem kh_80 : ab_hok km_80.1 km_80.2.2.2.2.1 km_80.2.2.2.2.2 := ⟨rfl, rfl, rfl, by decide, by decide, ab_G_in 1083 (by decide +kernel) rfl, trivial⟩
theorem kk_80 : ab_mok ab_pg 80 km_80 := ab_vm_ok (t := kt_80) rfl kw_80 kv_80 kh_80
set_option maxRecDepth 100000 in
theorem kv_81 : ab_vt km_81 kt_81 = true := by decide +kernel
set_option maxRecDepth 100000 in
theorem kw_81 : ab_vm km_81 2376 116 = true := by decide +kernel
theorem kk_81 : ab_mok ab_pg 81 km_81 := ab_vm_ok (t := kt_81) rfl kw_81 kv_81 trivial
set_option maxRecDepth 100000 in
theorem kv_82 : ab_vt km_82 kt_82 = true := by decide +kernel
set_option maxRecDepth 100000 in
theorem kw_82 : ab_vm km_82 1755 102 = true := by decide +kernel
set_option maxRecDepth 100000 in
theorem kh_82 : ab_hok km_82.1 km_82.2.2.2.2.1 km_82.2.2.2.2.2 := ⟨rfl, rfl, rfl, by decide, by decide, ab_G_in 1409 (by decide +kernel) rfl, trivial⟩
theorem kk_82 : ab_mok ab_pg 82 km_82 := ab_vm_ok (t := kt_82) rfl kw_82 kv_82 kh_82
set_option maxRecDepth 100000 in
theorem kv_83 : ab_vt km_83 kt_83 = true := by decide +kernel
set_option maxRecDepth 100000 in
theorem kw_83 : ab_vm km_83 2380 116 = true := by decide +kernel
theorem kk_83 : ab_mok ab_pg 83 km_83 := ab_vm_ok (t := kt_83) rfl kw_83 kv_83 trivial
set_option maxRecDepth 100000 in
theorem kv_84 : ab_vt km_84 kt_84 = true := by decide +kernel
set_option maxRecDepth 100000 in
theorem kw_84 : ab_vm km_84 1762 102 = true := by decide +kernel
set_option maxRecDepth 100000 in
theorem kh_84 : ab_hok km_84.1 km_84.2.2.2.2.1 km_84.2.2.2.2.2 := ⟨rfl, rfl, rfl, by decide, by decide, ab_G_in 1083 (by decide +kernel) rfl, trivial⟩
theorem kk_84 : ab_mok ab_pg 84 km_84 := ab_vm_ok (t := kt_84) rfl kw_84 kv_84 kh_84
set_option maxRecDepth 100000 in
theorem kv_85 : ab_vt km_85 kt_85 = true := by decide +kernel
set_option maxRecDepth 100000 in
theorem kw_85 : ab_vm km_85 2384 116 = true := by decide +kernel
theorem kk_85 : ab_mok ab_pg 85 km_85 := ab_vm_ok (t := kt_85) rfl kw_85 kv_85 trivial
set_option maxRecDepth 100000 in
theorem kv_86 : ab_vt km_86 kt_86 = true := by decide +kernel
set_option maxRecDepth 100000 in
theorem kw_86 : ab_vm km_86 1803 102 = true := by decide +kernel
set_option maxRecDepth 100000 in
theorem kh_86 : ab_hok km_86.1 km_86.2.2.2.2.1 km_86.2.2.2.2.2 := ⟨rfl, rfl, rfl, by decide, by decide, ab_G_in 1083 (by decide +kernel) rfl, trivial⟩
theorem kk_86 : ab_mok ab_pg 86 km_86 := ab_vm_ok (t := kt_86) rfl kw_86 kv_86 kh_86
set_option maxRecDepth 100000 in
theorem kv_87 : ab_vt km_87 kt_87 = true := by decide +kernel
set_option maxRecDepth 100000 in
theorem kw_87 : ab_vm km_87 2401 116 = true := by decide +kernel
theorem kk_87 : ab_mok ab_pg 87 km_87 := ab_vm_ok (t := kt_87) rfl kw_87 kv_87 trivial
set_option maxRecDepth 100000 in
theorem kv_88 : ab_vt km_88 kt_88 = true := by decide +kernel
set_option maxRecDepth 100000 in
theorem kw_88 : ab_vm km_88 1055 103 = true := by decide +kernel
theorem kk_88 : ab_mok ab_pg 88 km_88 := ab_vm_ok (t := kt_88) rfl kw_88 kv_88 trivial
set_option maxRecDepth 100000 in
theorem kv_89 : ab_vt km_89 kt_89 = true := by decide +kernel
set_option maxRecDepth 100000 in
theorem kw_89 : ab_vm km_89 2405 116 = true := by decide +kernel
theorem kk_89 : ab_mok ab_pg 89 km_89 := ab_vm_ok (t := kt_89) rfl kw_89 kv_89 trivial
set_option maxRecDepth 100000 in
theorem kv_90 : ab_vt km_90 kt_90 = true := by decide +kernel
set_option maxRecDepth 100000 in
theorem kw_90 : ab_vm km_90 1067 103 = true := by decide +kernel
theorem kk_90 : ab_mok ab_pg 90 km_90 := ab_vm_ok (t := kt_90) rfl kw_90 kv_90 trivial
set_option maxRecDepth 100000 in
theorem kv_91 : ab_vt km_91 kt_91 = true := by decide +kernel
set_option maxRecDepth 100000 in
theorem kw_91 : ab_vm km_91 2417 116 = true := by decide +kernel
theorem kk_91 : ab_mok ab_pg 91 km_91 := ab_vm_ok (t := kt_91) rfl kw_91 kv_91 trivial
set_option maxRecDepth 100000 in
theorem kv_92 : ab_vt km_92 kt_92 = true := by decide +kernel
set_option maxRecDepth 100000 in
theorem kw_92 : ab_vm km_92 1075 103 = true := by decide +kernel
theorem kk_92 : ab_mok ab_pg 92 km_92 := ab_vm_ok (t := kt_92) rfl kw_92 kv_92 trivial
set_option maxRecDepth 100000 in
theorem kv_93 : ab_vt km_93 kt_93 = true := by decide +kernel
set_option maxRecDepth 100000 in
theorem kw_93 : ab_vm km_93 2421 116 = true := by decide +kernel
theorem kk_93 : ab_mok ab_pg 93 km_93 := ab_vm_ok (t := kt_93) rfl kw_93 kv_93 trivial
set_option maxRecDepth 100000 in
theorem kv_94 : ab_vt km_94 kt_94 = true := by decide +kernel
set_option maxRecDepth 100000 in
theorem kw_94 : ab_vm km_94 1079 103 = true := by decide +kernel
theorem kk_94 : ab_mok ab_pg 94 km_94 := ab_vm_ok (t := kt_94) rfl kw_94 kv_94 trivial
set_option maxRecDepth 100000 in
theorem kv_95 : ab_vt km_95 kt_95 = true := by decide +kernel
set_option maxRecDepth 100000 in
theorem kw_95 : ab_vm km_95 2425 116 = true := by decide +kernel
theorem kk_95 : ab_mok ab_pg 95 km_95 := ab_vm_ok (t := kt_95) rfl kw_95 kv_95 trivial
set_option maxRecDepth 100000 in
theorem kv_96 : ab_vt km_96 kt_96 = true := by decide +kernel
set_option maxRecDepth 100000 in
theorem kw_96 : ab_vm km_96 146 104 = true := by decide +kernel
theorem kk_96 : ab_mok ab_pg 96 km_96 := ab_vm_ok (t := kt_96) rfl kw_96 kv_96 trivial
set_option maxRecDepth 100000 in
theorem kv_97 : ab_vt km_97 kt_97 = true := by decide +kernel
set_option maxRecDepth 100000 in
theorem kw_97 : ab_vm km_97 183 105 = true := by decide +kernel
theorem kk_97 : ab_mok ab_pg 97 km_97 := ab_vm_ok (t := kt_97) rfl kw_97 kv_97 trivial
set_option maxRecDepth 100000 in
theorem kv_98 : ab_vt km_98 kt_98 = true := by decide +kernel
set_option maxRecDepth 100000 in
theorem kw_98 : ab_vm km_98 225 106 = true := by decide +kernel
theorem kk_98 : ab_mok ab_pg 98 km_98 := ab_vm_ok (t := kt_98) rfl kw_98 kv_98 trivial
set_option maxRecDepth 100000 in
theorem kv_99 : ab_vt km_99 kt_99 = true := by decide +kernel
set_option maxRecDepth 100000 in
theorem kw_99 : ab_vm km_99 246 108 = true := by decide +kernel
theorem kk_99 : ab_mok ab_pg 99 km_99 := ab_vm_ok (t := kt_99) rfl kw_99 kv_99 trivial
