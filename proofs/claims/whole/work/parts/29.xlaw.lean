def L_law_J1396 (L : Nat) (xs : Nat → Int32) (x1 : Nat) (x2 : Nat) (x3 : Nat) (x4 : Int32) (M : Gm) : Option ((Int32 × Gm) ⊕ Gm ⊕ Gm ⊕ Gm ⊕ Gm ⊕ Gm ⊕ Gm ⊕ Gm ⊕ Gm ⊕ Gm ⊕ Gm ⊕ Gm ⊕ Gm ⊕ Gm ⊕ Gm ⊕ Gm ⊕ Gm ⊕ Gm ⊕ Gm ⊕ Gm ⊕ Gm ⊕ Gm ⊕ Gm ⊕ Gm ⊕ Gm ⊕ Gm ⊕ Gm ⊕ Gm ⊕ Gm ⊕ Gm ⊕ Gm ⊕ Gm ⊕ Gm ⊕ Gm ⊕ Gm ⊕ Gm ⊕ Gm ⊕ Gm) :=
  some (.inl (x4 + 6, M))
def L_law_J282 (L : Nat) (xs : Nat → Int32) (x1 : Nat) (x2 : Nat) (x3 : Nat) (x4 : Int32) (M : Gm) : Option ((Int32 × Gm) ⊕ Gm ⊕ Gm ⊕ Gm ⊕ Gm ⊕ Gm ⊕ Gm ⊕ Gm ⊕ Gm ⊕ Gm ⊕ Gm ⊕ Gm ⊕ Gm ⊕ Gm ⊕ Gm ⊕ Gm ⊕ Gm ⊕ Gm ⊕ Gm ⊕ Gm ⊕ Gm ⊕ Gm ⊕ Gm ⊕ Gm ⊕ Gm ⊕ Gm ⊕ Gm ⊕ Gm ⊕ Gm ⊕ Gm ⊕ Gm ⊕ Gm ⊕ Gm ⊕ Gm ⊕ Gm ⊕ Gm ⊕ Gm ⊕ Gm) :=
  L_law_J1396 L xs x1 x2 x3 x4 M
def L_law_J351 (L : Nat) (xs : Nat → Int32) (x1 : Nat) (x2 : Nat) (x3 : Nat) (x4 : Int32) (M : Gm) : Option ((Int32 × Gm) ⊕ Gm ⊕ Gm ⊕ Gm ⊕ Gm ⊕ Gm ⊕ Gm ⊕ Gm ⊕ Gm ⊕ Gm ⊕ Gm ⊕ Gm ⊕ Gm ⊕ Gm ⊕ Gm ⊕ Gm ⊕ Gm ⊕ Gm ⊕ Gm ⊕ Gm ⊕ Gm ⊕ Gm ⊕ Gm ⊕ Gm ⊕ Gm ⊕ Gm ⊕ Gm ⊕ Gm ⊕ Gm ⊕ Gm ⊕ Gm ⊕ Gm ⊕ Gm ⊕ Gm ⊕ Gm ⊕ Gm ⊕ Gm ⊕ Gm) :=
  L_law_J1396 L xs x1 x2 x3 x4 M
def L_law_J419 (L : Nat) (xs : Nat → Int32) (x1 : Nat) (x2 : Nat) (x3 : Nat) (x4 : Int32) (M : Gm) : Option ((Int32 × Gm) ⊕ Gm ⊕ Gm ⊕ Gm ⊕ Gm ⊕ Gm ⊕ Gm ⊕ Gm ⊕ Gm ⊕ Gm ⊕ Gm ⊕ Gm ⊕ Gm ⊕ Gm ⊕ Gm ⊕ Gm ⊕ Gm ⊕ Gm ⊕ Gm ⊕ Gm ⊕ Gm ⊕ Gm ⊕ Gm ⊕ Gm ⊕ Gm ⊕ Gm ⊕ Gm ⊕ Gm ⊕ Gm ⊕ Gm ⊕ Gm ⊕ Gm ⊕ Gm ⊕ Gm ⊕ Gm ⊕ Gm ⊕ Gm ⊕ Gm) :=
  L_law_J1396 L xs x1 x2 x3 x4 M
def L_law_J487 (L : Nat) (xs : Nat → Int32) (x1 : Nat) (x2 : Nat) (x3 : Nat) (x4 : Int32) (M : Gm) : Option ((Int32 × Gm) ⊕ Gm ⊕ Gm ⊕ Gm ⊕ Gm ⊕ Gm ⊕ Gm ⊕ Gm ⊕ Gm ⊕ Gm ⊕ Gm ⊕ Gm ⊕ Gm ⊕ Gm ⊕ Gm ⊕ Gm ⊕ Gm ⊕ Gm ⊕ Gm ⊕ Gm ⊕ Gm ⊕ Gm ⊕ Gm ⊕ Gm ⊕ Gm ⊕ Gm ⊕ Gm ⊕ Gm ⊕ Gm ⊕ Gm ⊕ Gm ⊕ Gm ⊕ Gm ⊕ Gm ⊕ Gm ⊕ Gm ⊕ Gm ⊕ Gm) :=
  L_law_J1396 L xs x1 x2 x3 x4 M
def L_law_J555 (L : Nat) (xs : Nat → Int32) (x1 : Nat) (x2 : Nat) (x3 : Nat) (x4 : Int32) (M : Gm) : Option ((Int32 × Gm) ⊕ Gm ⊕ Gm ⊕ Gm ⊕ Gm ⊕ Gm ⊕ Gm ⊕ Gm ⊕ Gm ⊕ Gm ⊕ Gm ⊕ Gm ⊕ Gm ⊕ Gm ⊕ Gm ⊕ Gm ⊕ Gm ⊕ Gm ⊕ Gm ⊕ Gm ⊕ Gm ⊕ Gm ⊕ Gm ⊕ Gm ⊕ Gm ⊕ Gm ⊕ Gm ⊕ Gm ⊕ Gm ⊕ Gm ⊕ Gm ⊕ Gm ⊕ Gm ⊕ Gm ⊕ Gm ⊕ Gm ⊕ Gm ⊕ Gm) :=
  L_law_J1396 L xs x1 x2 x3 x4 M
def L_law_J635 (L : Nat) (xs : Nat → Int32) (x1 : Nat) (x2 : Nat) (x3 : Nat) (x4 : Int32) (M : Gm) : Option ((Int32 × Gm) ⊕ Gm ⊕ Gm ⊕ Gm ⊕ Gm ⊕ Gm ⊕ Gm ⊕ Gm ⊕ Gm ⊕ Gm ⊕ Gm ⊕ Gm ⊕ Gm ⊕ Gm ⊕ Gm ⊕ Gm ⊕ Gm ⊕ Gm ⊕ Gm ⊕ Gm ⊕ Gm ⊕ Gm ⊕ Gm ⊕ Gm ⊕ Gm ⊕ Gm ⊕ Gm ⊕ Gm ⊕ Gm ⊕ Gm ⊕ Gm ⊕ Gm ⊕ Gm ⊕ Gm ⊕ Gm ⊕ Gm ⊕ Gm ⊕ Gm) :=
  L_law_J1396 L xs x1 x2 x3 x4 M
def L_law_J703 (L : Nat) (xs : Nat → Int32) (x1 : Nat) (x2 : Nat) (x3 : Nat) (x4 : Int32) (M : Gm) : Option ((Int32 × Gm) ⊕ Gm ⊕ Gm ⊕ Gm ⊕ Gm ⊕ Gm ⊕ Gm ⊕ Gm ⊕ Gm ⊕ Gm ⊕ Gm ⊕ Gm ⊕ Gm ⊕ Gm ⊕ Gm ⊕ Gm ⊕ Gm ⊕ Gm ⊕ Gm ⊕ Gm ⊕ Gm ⊕ Gm ⊕ Gm ⊕ Gm ⊕ Gm ⊕ Gm ⊕ Gm ⊕ Gm ⊕ Gm ⊕ Gm ⊕ Gm ⊕ Gm ⊕ Gm ⊕ Gm ⊕ Gm ⊕ Gm ⊕ Gm ⊕ Gm) :=
  L_law_J1396 L xs x1 x2 x3 x4 M
def L_law_J783 (L : Nat) (xs : Nat → Int32) (x1 : Nat) (x2 : Nat) (x3 : Nat) (x4 : Int32) (M : Gm) : Option ((Int32 × Gm) ⊕ Gm ⊕ Gm ⊕ Gm ⊕ Gm ⊕ Gm ⊕ Gm ⊕ Gm ⊕ Gm ⊕ Gm ⊕ Gm ⊕ Gm ⊕ Gm ⊕ Gm ⊕ Gm ⊕ Gm ⊕ Gm ⊕ Gm ⊕ Gm ⊕ Gm ⊕ Gm ⊕ Gm ⊕ Gm ⊕ Gm ⊕ Gm ⊕ Gm ⊕ Gm ⊕ Gm ⊕ Gm ⊕ Gm ⊕ Gm ⊕ Gm ⊕ Gm ⊕ Gm ⊕ Gm ⊕ Gm ⊕ Gm ⊕ Gm) :=
  L_law_J1396 L xs x1 x2 x3 x4 M
def L_law_J863 (L : Nat) (xs : Nat → Int32) (x1 : Nat) (x2 : Nat) (x3 : Nat) (x4 : Int32) (M : Gm) : Option ((Int32 × Gm) ⊕ Gm ⊕ Gm ⊕ Gm ⊕ Gm ⊕ Gm ⊕ Gm ⊕ Gm ⊕ Gm ⊕ Gm ⊕ Gm ⊕ Gm ⊕ Gm ⊕ Gm ⊕ Gm ⊕ Gm ⊕ Gm ⊕ Gm ⊕ Gm ⊕ Gm ⊕ Gm ⊕ Gm ⊕ Gm ⊕ Gm ⊕ Gm ⊕ Gm ⊕ Gm ⊕ Gm ⊕ Gm ⊕ Gm ⊕ Gm ⊕ Gm ⊕ Gm ⊕ Gm ⊕ Gm ⊕ Gm ⊕ Gm ⊕ Gm) :=
  L_law_J1396 L xs x1 x2 x3 x4 M
def L_law_J931 (L : Nat) (xs : Nat → Int32) (x1 : Nat) (x2 : Nat) (x3 : Nat) (x4 : Int32) (M : Gm) : Option ((Int32 × Gm) ⊕ Gm ⊕ Gm ⊕ Gm ⊕ Gm ⊕ Gm ⊕ Gm ⊕ Gm ⊕ Gm ⊕ Gm ⊕ Gm ⊕ Gm ⊕ Gm ⊕ Gm ⊕ Gm ⊕ Gm ⊕ Gm ⊕ Gm ⊕ Gm ⊕ Gm ⊕ Gm ⊕ Gm ⊕ Gm ⊕ Gm ⊕ Gm ⊕ Gm ⊕ Gm ⊕ Gm ⊕ Gm ⊕ Gm ⊕ Gm ⊕ Gm ⊕ Gm ⊕ Gm ⊕ Gm ⊕ Gm ⊕ Gm ⊕ Gm) :=
  L_law_J1396 L xs x1 x2 x3 x4 M
def L_law_J1210 (L : Nat) (xs : Nat → Int32) (x1 : Nat) (x2 : Nat) (x3 : Nat) (x4 : Int32) (M : Gm) : Option ((Int32 × Gm) ⊕ Gm ⊕ Gm ⊕ Gm ⊕ Gm ⊕ Gm ⊕ Gm ⊕ Gm ⊕ Gm ⊕ Gm ⊕ Gm ⊕ Gm ⊕ Gm ⊕ Gm ⊕ Gm ⊕ Gm ⊕ Gm ⊕ Gm ⊕ Gm ⊕ Gm ⊕ Gm ⊕ Gm ⊕ Gm ⊕ Gm ⊕ Gm ⊕ Gm ⊕ Gm ⊕ Gm ⊕ Gm ⊕ Gm ⊕ Gm ⊕ Gm ⊕ Gm ⊕ Gm ⊕ Gm ⊕ Gm ⊕ Gm ⊕ Gm) :=
  L_law_J1396 L xs x1 x2 x3 x4 M
def L_law_J1278 (L : Nat) (xs : Nat → Int32) (x1 : Nat) (x2 : Nat) (x3 : Nat) (x4 : Int32) (M : Gm) : Option ((Int32 × Gm) ⊕ Gm ⊕ Gm ⊕ Gm ⊕ Gm ⊕ Gm ⊕ Gm ⊕ Gm ⊕ Gm ⊕ Gm ⊕ Gm ⊕ Gm ⊕ Gm ⊕ Gm ⊕ Gm ⊕ Gm ⊕ Gm ⊕ Gm ⊕ Gm ⊕ Gm ⊕ Gm ⊕ Gm ⊕ Gm ⊕ Gm ⊕ Gm ⊕ Gm ⊕ Gm ⊕ Gm ⊕ Gm ⊕ Gm ⊕ Gm ⊕ Gm ⊕ Gm ⊕ Gm ⊕ Gm ⊕ Gm ⊕ Gm ⊕ Gm) :=
  L_law_J1396 L xs x1 x2 x3 x4 M
def L_law_J1369 (L : Nat) (xs : Nat → Int32) (x1 : Nat) (x2 : Nat) (x3 : Nat) (x4 : Int32) (M : Gm) : Option ((Int32 × Gm) ⊕ Gm ⊕ Gm ⊕ Gm ⊕ Gm ⊕ Gm ⊕ Gm ⊕ Gm ⊕ Gm ⊕ Gm ⊕ Gm ⊕ Gm ⊕ Gm ⊕ Gm ⊕ Gm ⊕ Gm ⊕ Gm ⊕ Gm ⊕ Gm ⊕ Gm ⊕ Gm ⊕ Gm ⊕ Gm ⊕ Gm ⊕ Gm ⊕ Gm ⊕ Gm ⊕ Gm ⊕ Gm ⊕ Gm ⊕ Gm ⊕ Gm ⊕ Gm ⊕ Gm ⊕ Gm ⊕ Gm ⊕ Gm ⊕ Gm) :=
  L_law_J1396 L xs x1 x2 x3 x4 M
def L_law_B23 (L : Nat) (xs : Nat → Int32) (x1 : Nat) (x2 : Nat) (x3 : Nat) (q : Int32 × Gm) : Option ((Int32 × Gm) ⊕ Gm ⊕ Gm ⊕ Gm ⊕ Gm ⊕ Gm ⊕ Gm ⊕ Gm ⊕ Gm ⊕ Gm ⊕ Gm ⊕ Gm ⊕ Gm ⊕ Gm ⊕ Gm ⊕ Gm ⊕ Gm ⊕ Gm ⊕ Gm ⊕ Gm ⊕ Gm ⊕ Gm ⊕ Gm ⊕ Gm ⊕ Gm ⊕ Gm ⊕ Gm ⊕ Gm ⊕ Gm ⊕ Gm ⊕ Gm ⊕ Gm ⊕ Gm ⊕ Gm ⊕ Gm ⊕ Gm ⊕ Gm ⊕ Gm) :=
  if ((Int32.ofNat L) - 6) < q.1 then
    some (.inr (.inl q.2))
  else
    (scA L xs q.1).bind fun v1 =>
    if (v1 &&& 31) = 0 then
      (scA L xs (q.1 + 1)).bind fun v3 =>
      (scA L xs (q.1 + 2)).bind fun v5 =>
      (scA L xs (q.1 + 3)).bind fun v7 =>
      (scA L xs (q.1 + 4)).bind fun v9 =>
      (scA L xs (q.1 + 5)).bind fun v11 =>
      (sh_X11_feed x1 v3 v5 v7 v9 v11 q.2).bind fun q13 =>
      (scA L xs (q.1 + 1)).bind fun v15 =>
      (scA L xs (q.1 + 2)).bind fun v17 =>
      (scA L xs (q.1 + 3)).bind fun v19 =>
      (scA L xs (q.1 + 4)).bind fun v21 =>
      (scA L xs (q.1 + 5)).bind fun v23 =>
      (sh_X12_feed x2 v15 v17 v19 v21 v23 q13.2).bind fun q25 =>
      if q13.1 = q25.1 then
        L_law_J1396 L xs x1 x2 x3 q.1 q25.2
      else
        some (.inr (.inr (.inl q25.2)))
    else if (v1 &&& 31) = 1 then
      (scA L xs (q.1 + 1)).bind fun v27 =>
      (sh_L_plan x1 v27 x3 q.2).bind fun q29 =>
      (scA L xs (q.1 + 1)).bind fun v31 =>
      (sh_X12_plan x2 v31 q29.2).bind fun q33 =>
      (sh_X12_thrown x2 q33.2).bind fun q35 =>
      if q35 = q29.1 then
        if q29.1 = 0 then
          (ldA q33.2 3 x3 0).bind fun v37 =>
          if v37 = q33.1 then
            L_law_J282 L xs x1 x2 x3 q.1 q33.2
          else
            some (.inr (.inr (.inr (.inr (.inl q33.2)))))
        else
          L_law_J282 L xs x1 x2 x3 q.1 q33.2
      else
        some (.inr (.inr (.inr (.inl q33.2))))
    else if (v1 &&& 31) = 2 then
      (sh_X11_fault x1 q.2).bind fun q39 =>
      (sh_X12_fault x2 q.2).bind fun q41 =>
      if q39 = q41.1 then
        L_law_J1396 L xs x1 x2 x3 q.1 q41.2
      else
        some (.inr (.inr (.inr (.inr (.inr (.inl q41.2))))))
    else if (v1 &&& 31) = 3 then
      (scA L xs (q.1 + 1)).bind fun v43 =>
      (sh_L_count x1 v43 x3 q.2).bind fun q45 =>
      (scA L xs (q.1 + 1)).bind fun v47 =>
      (sh_X12_count x2 v47 q45.2).bind fun q49 =>
      (sh_X12_thrown x2 q49.2).bind fun q51 =>
      if q51 = q45.1 then
        if q45.1 = 0 then
          (ldA q49.2 3 x3 0).bind fun v53 =>
          if v53 = q49.1 then
            L_law_J351 L xs x1 x2 x3 q.1 q49.2
          else
            some (.inr (.inr (.inr (.inr (.inr (.inr (.inr (.inl q49.2))))))))
        else
          L_law_J351 L xs x1 x2 x3 q.1 q49.2
      else
        some (.inr (.inr (.inr (.inr (.inr (.inr (.inl q49.2)))))))
    else if (v1 &&& 31) = 4 then
      (scA L xs (q.1 + 1)).bind fun v55 =>
      (scA L xs (q.1 + 2)).bind fun v57 =>
      (sh_L_zone x1 v55 v57 x3 q.2).bind fun q59 =>
      (scA L xs (q.1 + 1)).bind fun v61 =>
      (scA L xs (q.1 + 2)).bind fun v63 =>
      (sh_X12_zone x2 v61 v63 q59.2).bind fun q65 =>
      (sh_X12_thrown x2 q65.2).bind fun q67 =>
      if q67 = q59.1 then
        if q59.1 = 0 then
          (ldA q65.2 3 x3 0).bind fun v69 =>
          if v69 = q65.1 then
            L_law_J419 L xs x1 x2 x3 q.1 q65.2
          else
            some (.inr (.inr (.inr (.inr (.inr (.inr (.inr (.inr (.inr (.inl q65.2))))))))))
        else
          L_law_J419 L xs x1 x2 x3 q.1 q65.2
      else
        some (.inr (.inr (.inr (.inr (.inr (.inr (.inr (.inr (.inl q65.2)))))))))
    else if (v1 &&& 31) = 5 then
      (scA L xs (q.1 + 1)).bind fun v71 =>
      (scA L xs (q.1 + 2)).bind fun v73 =>
      (sh_L_trip x1 v71 v73 x3 q.2).bind fun q75 =>
      (scA L xs (q.1 + 1)).bind fun v77 =>
      (scA L xs (q.1 + 2)).bind fun v79 =>
      (sh_X12_trip x2 v77 v79 q75.2).bind fun q81 =>
      (sh_X12_thrown x2 q81.2).bind fun q83 =>
      if q83 = q75.1 then
        if q75.1 = 0 then
          (ldA q81.2 3 x3 0).bind fun v85 =>
          if v85 = q81.1 then
            L_law_J487 L xs x1 x2 x3 q.1 q81.2
          else
            some (.inr (.inr (.inr (.inr (.inr (.inr (.inr (.inr (.inr (.inr (.inr (.inl q81.2))))))))))))
        else
          L_law_J487 L xs x1 x2 x3 q.1 q81.2
      else
        some (.inr (.inr (.inr (.inr (.inr (.inr (.inr (.inr (.inr (.inr (.inl q81.2)))))))))))
    else if (v1 &&& 31) = 6 then
      (scA L xs (q.1 + 1)).bind fun v87 =>
      (scA L xs (q.1 + 2)).bind fun v89 =>
      (sh_L_device x1 v87 v89 x3 q.2).bind fun q91 =>
      (scA L xs (q.1 + 1)).bind fun v93 =>
      (scA L xs (q.1 + 2)).bind fun v95 =>
      (sh_X12_device x2 v93 v95 q91.2).bind fun q97 =>
      (sh_X12_thrown x2 q97.2).bind fun q99 =>
      if q99 = q91.1 then
        if q91.1 = 0 then
          (ldA q97.2 3 x3 0).bind fun v101 =>
          if v101 = q97.1 then
            L_law_J555 L xs x1 x2 x3 q.1 q97.2
          else
            some (.inr (.inr (.inr (.inr (.inr (.inr (.inr (.inr (.inr (.inr (.inr (.inr (.inr (.inl q97.2))))))))))))))
        else
          L_law_J555 L xs x1 x2 x3 q.1 q97.2
      else
        some (.inr (.inr (.inr (.inr (.inr (.inr (.inr (.inr (.inr (.inr (.inr (.inr (.inl q97.2)))))))))))))
    else if (v1 &&& 31) = 7 then
      (scA L xs (q.1 + 1)).bind fun v103 =>
      (scA L xs (q.1 + 2)).bind fun v105 =>
      (scA L xs (q.1 + 3)).bind fun v107 =>
      (sh_L_bind x1 v103 v105 v107 x3 q.2).bind fun q109 =>
      (scA L xs (q.1 + 1)).bind fun v111 =>
      (scA L xs (q.1 + 2)).bind fun v113 =>
      (scA L xs (q.1 + 3)).bind fun v115 =>
      (sh_X12_bind x2 v111 v113 v115 q109.2).bind fun q117 =>
      (sh_X12_thrown x2 q117.2).bind fun q119 =>
      if q119 = q109.1 then
        if q109.1 = 0 then
          (ldA q117.2 3 x3 0).bind fun v121 =>
          if v121 = q117.1 then
            L_law_J635 L xs x1 x2 x3 q.1 q117.2
          else
            some (.inr (.inr (.inr (.inr (.inr (.inr (.inr (.inr (.inr (.inr (.inr (.inr (.inr (.inr (.inr (.inl q117.2))))))))))))))))
        else
          L_law_J635 L xs x1 x2 x3 q.1 q117.2
      else
        some (.inr (.inr (.inr (.inr (.inr (.inr (.inr (.inr (.inr (.inr (.inr (.inr (.inr (.inr (.inl q117.2)))))))))))))))
    else if (v1 &&& 31) = 8 then
      (scA L xs (q.1 + 1)).bind fun v123 =>
      (scA L xs (q.1 + 2)).bind fun v125 =>
      (sh_L_log x1 v123 v125 x3 q.2).bind fun q127 =>
      (scA L xs (q.1 + 1)).bind fun v129 =>
      (scA L xs (q.1 + 2)).bind fun v131 =>
      (sh_X12_log x2 v129 v131 q127.2).bind fun q133 =>
      (sh_X12_thrown x2 q133.2).bind fun q135 =>
      if q135 = q127.1 then
        if q127.1 = 0 then
          (ldA q133.2 3 x3 0).bind fun v137 =>
          if v137 = q133.1 then
            L_law_J703 L xs x1 x2 x3 q.1 q133.2
          else
            some (.inr (.inr (.inr (.inr (.inr (.inr (.inr (.inr (.inr (.inr (.inr (.inr (.inr (.inr (.inr (.inr (.inr (.inl q133.2))))))))))))))))))
        else
          L_law_J703 L xs x1 x2 x3 q.1 q133.2
      else
        some (.inr (.inr (.inr (.inr (.inr (.inr (.inr (.inr (.inr (.inr (.inr (.inr (.inr (.inr (.inr (.inr (.inl q133.2)))))))))))))))))
    else if (v1 &&& 31) = 9 then
      (scA L xs (q.1 + 1)).bind fun v139 =>
      (scA L xs (q.1 + 2)).bind fun v141 =>
      (scA L xs (q.1 + 3)).bind fun v143 =>
      (sh_L_ahead x1 v139 v141 v143 x3 q.2).bind fun q145 =>
      (scA L xs (q.1 + 1)).bind fun v147 =>
      (scA L xs (q.1 + 2)).bind fun v149 =>
      (scA L xs (q.1 + 3)).bind fun v151 =>
      (sh_X12_ahead x2 v147 v149 v151 q145.2).bind fun q153 =>
      (sh_X12_thrown x2 q153.2).bind fun q155 =>
      if q155 = q145.1 then
        if q145.1 = 0 then
          (ldA q153.2 3 x3 0).bind fun v157 =>
          if v157 = q153.1 then
            L_law_J783 L xs x1 x2 x3 q.1 q153.2
          else
            some (.inr (.inr (.inr (.inr (.inr (.inr (.inr (.inr (.inr (.inr (.inr (.inr (.inr (.inr (.inr (.inr (.inr (.inr (.inr (.inl q153.2))))))))))))))))))))
        else
          L_law_J783 L xs x1 x2 x3 q.1 q153.2
      else
        some (.inr (.inr (.inr (.inr (.inr (.inr (.inr (.inr (.inr (.inr (.inr (.inr (.inr (.inr (.inr (.inr (.inr (.inr (.inl q153.2)))))))))))))))))))
    else if (v1 &&& 31) = 10 then
      (scA L xs (q.1 + 1)).bind fun v159 =>
      (scA L xs (q.1 + 2)).bind fun v161 =>
      (scA L xs (q.1 + 3)).bind fun v163 =>
      (sh_L_bears x1 v159 v161 v163 x3 q.2).bind fun q165 =>
      (scA L xs (q.1 + 1)).bind fun v167 =>
      (scA L xs (q.1 + 2)).bind fun v169 =>
      (scA L xs (q.1 + 3)).bind fun v171 =>
      (sh_X12_bears x2 v167 v169 v171 q165.2).bind fun q173 =>
      (sh_X12_thrown x2 q173.2).bind fun q175 =>
      if q175 = q165.1 then
        if q165.1 = 0 then
          (ldA q173.2 3 x3 0).bind fun v177 =>
          if v177 = q173.1 then
            L_law_J863 L xs x1 x2 x3 q.1 q173.2
          else
            some (.inr (.inr (.inr (.inr (.inr (.inr (.inr (.inr (.inr (.inr (.inr (.inr (.inr (.inr (.inr (.inr (.inr (.inr (.inr (.inr (.inr (.inl q173.2))))))))))))))))))))))
        else
          L_law_J863 L xs x1 x2 x3 q.1 q173.2
      else
        some (.inr (.inr (.inr (.inr (.inr (.inr (.inr (.inr (.inr (.inr (.inr (.inr (.inr (.inr (.inr (.inr (.inr (.inr (.inr (.inr (.inl q173.2)))))))))))))))))))))
    else if (v1 &&& 31) = 11 then
      (scA L xs (q.1 + 1)).bind fun v179 =>
      (scA L xs (q.1 + 2)).bind fun v181 =>
      (sh_L_flips x1 v179 v181 x3 q.2).bind fun q183 =>
      (scA L xs (q.1 + 1)).bind fun v185 =>
      (scA L xs (q.1 + 2)).bind fun v187 =>
      (sh_X12_flips x2 v185 v187 q183.2).bind fun q189 =>
      (sh_X12_thrown x2 q189.2).bind fun q191 =>
      if q191 = q183.1 then
        if q183.1 = 0 then
          (ldA q189.2 3 x3 0).bind fun v193 =>
          if v193 = q189.1 then
            L_law_J931 L xs x1 x2 x3 q.1 q189.2
          else
            some (.inr (.inr (.inr (.inr (.inr (.inr (.inr (.inr (.inr (.inr (.inr (.inr (.inr (.inr (.inr (.inr (.inr (.inr (.inr (.inr (.inr (.inr (.inr (.inl q189.2))))))))))))))))))))))))
        else
          L_law_J931 L xs x1 x2 x3 q.1 q189.2
      else
        some (.inr (.inr (.inr (.inr (.inr (.inr (.inr (.inr (.inr (.inr (.inr (.inr (.inr (.inr (.inr (.inr (.inr (.inr (.inr (.inr (.inr (.inr (.inl q189.2)))))))))))))))))))))))
    else if (v1 &&& 31) = 12 then
      (scA L xs (q.1 + 1)).bind fun v195 =>
      (sh_X11_minutes x1 v195 q.2).bind fun q197 =>
      (scA L xs (q.1 + 1)).bind fun v199 =>
      (sh_X12_minutes x2 v199 q197.2).bind fun q201 =>
      if q197.1 = q201.1 then
        L_law_J1396 L xs x1 x2 x3 q.1 q201.2
      else
        some (.inr (.inr (.inr (.inr (.inr (.inr (.inr (.inr (.inr (.inr (.inr (.inr (.inr (.inr (.inr (.inr (.inr (.inr (.inr (.inr (.inr (.inr (.inr (.inr (.inl q201.2)))))))))))))))))))))))))
    else if (v1 &&& 31) = 13 then
      (scA L xs (q.1 + 1)).bind fun v203 =>
      (scA L xs (q.1 + 2)).bind fun v205 =>
      (sh_X11_load x1 v203 v205 q.2).bind fun q207 =>
      (scA L xs (q.1 + 1)).bind fun v209 =>
      (scA L xs (q.1 + 2)).bind fun v211 =>
      (sh_X12_load x2 v209 v211 q207.2).bind fun q213 =>
      if q207.1 = q213.1 then
        L_law_J1396 L xs x1 x2 x3 q.1 q213.2
      else
        some (.inr (.inr (.inr (.inr (.inr (.inr (.inr (.inr (.inr (.inr (.inr (.inr (.inr (.inr (.inr (.inr (.inr (.inr (.inr (.inr (.inr (.inr (.inr (.inr (.inr (.inl q213.2))))))))))))))))))))))))))
    else if (v1 &&& 31) = 14 then
      (scA L xs (q.1 + 1)).bind fun v215 =>
      (scA L xs (q.1 + 2)).bind fun v217 =>
      (sh_X11_hold x1 v215 v217 q.2).bind fun q219 =>
      (scA L xs (q.1 + 1)).bind fun v221 =>
      (scA L xs (q.1 + 2)).bind fun v223 =>
      (sh_X12_hold x2 v221 v223 q219.2).bind fun q225 =>
      if q219.1 = q225.1 then
        L_law_J1396 L xs x1 x2 x3 q.1 q225.2
      else
        some (.inr (.inr (.inr (.inr (.inr (.inr (.inr (.inr (.inr (.inr (.inr (.inr (.inr (.inr (.inr (.inr (.inr (.inr (.inr (.inr (.inr (.inr (.inr (.inr (.inr (.inr (.inl q225.2)))))))))))))))))))))))))))
    else if (v1 &&& 31) = 15 then
      (scA L xs (q.1 + 1)).bind fun v227 =>
      (sh_X11_start x1 v227 q.2).bind fun q229 =>
      (scA L xs (q.1 + 1)).bind fun v231 =>
      (sh_X12_start x2 v231 q229.2).bind fun q233 =>
      if q229.1 = q233.1 then
        L_law_J1396 L xs x1 x2 x3 q.1 q233.2
      else
        some (.inr (.inr (.inr (.inr (.inr (.inr (.inr (.inr (.inr (.inr (.inr (.inr (.inr (.inr (.inr (.inr (.inr (.inr (.inr (.inr (.inr (.inr (.inr (.inr (.inr (.inr (.inr (.inl q233.2))))))))))))))))))))))))))))
    else if (v1 &&& 31) = 16 then
      (scA L xs (q.1 + 1)).bind fun v235 =>
      (sh_X11_foresee x1 v235 q.2).bind fun q237 =>
      (scA L xs (q.1 + 1)).bind fun v239 =>
      (sh_X12_foresee x2 v239 q237.2).bind fun q241 =>
      if q237.1 = q241.1 then
        L_law_J1396 L xs x1 x2 x3 q.1 q241.2
      else
        some (.inr (.inr (.inr (.inr (.inr (.inr (.inr (.inr (.inr (.inr (.inr (.inr (.inr (.inr (.inr (.inr (.inr (.inr (.inr (.inr (.inr (.inr (.inr (.inr (.inr (.inr (.inr (.inr (.inl q241.2)))))))))))))))))))))))))))))
    else if (v1 &&& 31) = 17 then
      (sh_X11_undo x1 q.2).bind fun q243 =>
      (sh_X12_undo x2 q243.2).bind fun q245 =>
      if q243.1 = q245.1 then
        L_law_J1396 L xs x1 x2 x3 q.1 q245.2
      else
        some (.inr (.inr (.inr (.inr (.inr (.inr (.inr (.inr (.inr (.inr (.inr (.inr (.inr (.inr (.inr (.inr (.inr (.inr (.inr (.inr (.inr (.inr (.inr (.inr (.inr (.inr (.inr (.inr (.inr (.inl q245.2))))))))))))))))))))))))))))))
    else if (v1 &&& 31) = 18 then
      (scA L xs (q.1 + 1)).bind fun v247 =>
      (scA L xs (q.1 + 2)).bind fun v249 =>
      (scA L xs (q.1 + 3)).bind fun v251 =>
      (sh_X11_note x1 v247 v249 v251 q.2).bind fun q253 =>
      (scA L xs (q.1 + 1)).bind fun v255 =>
      (scA L xs (q.1 + 2)).bind fun v257 =>
      (scA L xs (q.1 + 3)).bind fun v259 =>
      (sh_X12_note x2 v255 v257 v259 q253.2).bind fun q261 =>
      if q253.1 = q261.1 then
        L_law_J1396 L xs x1 x2 x3 q.1 q261.2
      else
        some (.inr (.inr (.inr (.inr (.inr (.inr (.inr (.inr (.inr (.inr (.inr (.inr (.inr (.inr (.inr (.inr (.inr (.inr (.inr (.inr (.inr (.inr (.inr (.inr (.inr (.inr (.inr (.inr (.inr (.inr (.inl q261.2)))))))))))))))))))))))))))))))
    else if (v1 &&& 31) = 19 then
      (scA L xs (q.1 + 1)).bind fun v263 =>
      (scA L xs (q.1 + 2)).bind fun v265 =>
      (sh_L_fits x1 v263 v265 x3 q.2).bind fun q267 =>
      (scA L xs (q.1 + 1)).bind fun v269 =>
      (scA L xs (q.1 + 2)).bind fun v271 =>
      (sh_X12_fits x2 v269 v271 q267.2).bind fun q273 =>
      (sh_X12_thrown x2 q273.2).bind fun q275 =>
      if q275 = q267.1 then
        if q267.1 = 0 then
          (ldA q273.2 3 x3 0).bind fun v277 =>
          if v277 = q273.1 then
            L_law_J1210 L xs x1 x2 x3 q.1 q273.2
          else
            some (.inr (.inr (.inr (.inr (.inr (.inr (.inr (.inr (.inr (.inr (.inr (.inr (.inr (.inr (.inr (.inr (.inr (.inr (.inr (.inr (.inr (.inr (.inr (.inr (.inr (.inr (.inr (.inr (.inr (.inr (.inr (.inr (.inl q273.2)))))))))))))))))))))))))))))))))
        else
          L_law_J1210 L xs x1 x2 x3 q.1 q273.2
      else
        some (.inr (.inr (.inr (.inr (.inr (.inr (.inr (.inr (.inr (.inr (.inr (.inr (.inr (.inr (.inr (.inr (.inr (.inr (.inr (.inr (.inr (.inr (.inr (.inr (.inr (.inr (.inr (.inr (.inr (.inr (.inr (.inl q273.2))))))))))))))))))))))))))))))))
    else if (v1 &&& 31) = 20 then
      (scA L xs (q.1 + 1)).bind fun v279 =>
      (scA L xs (q.1 + 2)).bind fun v281 =>
      (sh_L_look x1 v279 v281 x3 q.2).bind fun q283 =>
      (scA L xs (q.1 + 1)).bind fun v285 =>
      (scA L xs (q.1 + 2)).bind fun v287 =>
      (sh_X12_look x2 v285 v287 q283.2).bind fun q289 =>
      (sh_X12_thrown x2 q289.2).bind fun q291 =>
      if q291 = q283.1 then
        if q283.1 = 0 then
          (ldA q289.2 3 x3 0).bind fun v293 =>
          if v293 = q289.1 then
            L_law_J1278 L xs x1 x2 x3 q.1 q289.2
          else
            some (.inr (.inr (.inr (.inr (.inr (.inr (.inr (.inr (.inr (.inr (.inr (.inr (.inr (.inr (.inr (.inr (.inr (.inr (.inr (.inr (.inr (.inr (.inr (.inr (.inr (.inr (.inr (.inr (.inr (.inr (.inr (.inr (.inr (.inr (.inl q289.2)))))))))))))))))))))))))))))))))))
        else
          L_law_J1278 L xs x1 x2 x3 q.1 q289.2
      else
        some (.inr (.inr (.inr (.inr (.inr (.inr (.inr (.inr (.inr (.inr (.inr (.inr (.inr (.inr (.inr (.inr (.inr (.inr (.inr (.inr (.inr (.inr (.inr (.inr (.inr (.inr (.inr (.inr (.inr (.inr (.inr (.inr (.inr (.inl q289.2))))))))))))))))))))))))))))))))))
    else if (v1 &&& 31) = 21 then
      (sh_X11_forget x1 q.2).bind fun q295 =>
      (sh_X12_forget x2 q295).bind fun q297 =>
      L_law_J1396 L xs x1 x2 x3 q.1 q297
    else if (v1 &&& 31) = 22 then
      (scA L xs (q.1 + 1)).bind fun v299 =>
      (scA L xs (q.1 + 2)).bind fun v301 =>
      (scA L xs (q.1 + 3)).bind fun v303 =>
      (sh_L_years x1 v299 v301 v303 x3 q.2).bind fun q305 =>
      (scA L xs (q.1 + 1)).bind fun v307 =>
      (scA L xs (q.1 + 2)).bind fun v309 =>
      (scA L xs (q.1 + 3)).bind fun v311 =>
      (sh_X12_years x2 v307 v309 v311 q305.2).bind fun q313 =>
      (sh_X12_thrown x2 q313.2).bind fun q315 =>
      if q315 = q305.1 then
        if q305.1 = 0 then
          (ldA q313.2 3 x3 0).bind fun v317 =>
          if v317 = q313.1 then
            L_law_J1369 L xs x1 x2 x3 q.1 q313.2
          else
            some (.inr (.inr (.inr (.inr (.inr (.inr (.inr (.inr (.inr (.inr (.inr (.inr (.inr (.inr (.inr (.inr (.inr (.inr (.inr (.inr (.inr (.inr (.inr (.inr (.inr (.inr (.inr (.inr (.inr (.inr (.inr (.inr (.inr (.inr (.inr (.inr (.inl q313.2)))))))))))))))))))))))))))))))))))))
        else
          L_law_J1369 L xs x1 x2 x3 q.1 q313.2
      else
        some (.inr (.inr (.inr (.inr (.inr (.inr (.inr (.inr (.inr (.inr (.inr (.inr (.inr (.inr (.inr (.inr (.inr (.inr (.inr (.inr (.inr (.inr (.inr (.inr (.inr (.inr (.inr (.inr (.inr (.inr (.inr (.inr (.inr (.inr (.inr (.inl q313.2))))))))))))))))))))))))))))))))))))
    else if (v1 &&& 31) = 23 then
      (sh_X11_image x1 q.2).bind fun q319 =>
      (sh_X12_image x2 q319).bind fun q321 =>
      L_law_J1396 L xs x1 x2 x3 q.1 q321
    else if (v1 &&& 31) = 24 then
      (sh_X11_restore x1 q.2).bind fun q323 =>
      (sh_X12_restore x2 q323.2).bind fun q325 =>
      if q323.1 = q325.1 then
        L_law_J1396 L xs x1 x2 x3 q.1 q325.2
      else
        some (.inr (.inr (.inr (.inr (.inr (.inr (.inr (.inr (.inr (.inr (.inr (.inr (.inr (.inr (.inr (.inr (.inr (.inr (.inr (.inr (.inr (.inr (.inr (.inr (.inr (.inr (.inr (.inr (.inr (.inr (.inr (.inr (.inr (.inr (.inr (.inr (.inr q325.2)))))))))))))))))))))))))))))))))))))
    else
      L_law_J1396 L xs x1 x2 x3 q.1 q.2
def L_law_F (L : Nat) (xs : Nat → Int32) (M : Gm) : Option (Int32 × Gm) :=
  (some (nwM M (11, 0))).bind fun M1 =>
  (sh_X11_init M.2.2.length M1).bind fun q2 =>
  (some (nwM q2 (12, 0))).bind fun M4 =>
  (sh_X12_init q2.2.2.length M4).bind fun q5 =>
  (mkA q5 3 1).bind fun M7 =>
  (lp (L_law_B23 L xs M.2.2.length q2.2.2.length q5.2.2.length) FU (0, M7)).bind fun r9 =>
  Sum.elim (fun u11 =>
    (zck 1).bind fun z12 =>
    some (z12, u11)) (fun u14 =>
    Sum.elim (fun u15 =>
      (zck 0).bind fun z16 =>
      some (z16, u15)) (fun u18 =>
      Sum.elim (fun u19 =>
        (zck 0).bind fun z20 =>
        some (z20, u19)) (fun u22 =>
        Sum.elim (fun u23 =>
          (zck 0).bind fun z24 =>
          some (z24, u23)) (fun u26 =>
          Sum.elim (fun u27 =>
            (zck 0).bind fun z28 =>
            some (z28, u27)) (fun u30 =>
            Sum.elim (fun u31 =>
              (zck 0).bind fun z32 =>
              some (z32, u31)) (fun u34 =>
              Sum.elim (fun u35 =>
                (zck 0).bind fun z36 =>
                some (z36, u35)) (fun u38 =>
                Sum.elim (fun u39 =>
                  (zck 0).bind fun z40 =>
                  some (z40, u39)) (fun u42 =>
                  Sum.elim (fun u43 =>
                    (zck 0).bind fun z44 =>
                    some (z44, u43)) (fun u46 =>
                    Sum.elim (fun u47 =>
                      (zck 0).bind fun z48 =>
                      some (z48, u47)) (fun u50 =>
                      Sum.elim (fun u51 =>
                        (zck 0).bind fun z52 =>
                        some (z52, u51)) (fun u54 =>
                        Sum.elim (fun u55 =>
                          (zck 0).bind fun z56 =>
                          some (z56, u55)) (fun u58 =>
                          Sum.elim (fun u59 =>
                            (zck 0).bind fun z60 =>
                            some (z60, u59)) (fun u62 =>
                            Sum.elim (fun u63 =>
                              (zck 0).bind fun z64 =>
                              some (z64, u63)) (fun u66 =>
                              Sum.elim (fun u67 =>
                                (zck 0).bind fun z68 =>
                                some (z68, u67)) (fun u70 =>
                                Sum.elim (fun u71 =>
                                  (zck 0).bind fun z72 =>
                                  some (z72, u71)) (fun u74 =>
                                  Sum.elim (fun u75 =>
                                    (zck 0).bind fun z76 =>
                                    some (z76, u75)) (fun u78 =>
                                    Sum.elim (fun u79 =>
                                      (zck 0).bind fun z80 =>
                                      some (z80, u79)) (fun u82 =>
                                      Sum.elim (fun u83 =>
                                        (zck 0).bind fun z84 =>
                                        some (z84, u83)) (fun u86 =>
                                        Sum.elim (fun u87 =>
                                          (zck 0).bind fun z88 =>
                                          some (z88, u87)) (fun u90 =>
                                          Sum.elim (fun u91 =>
                                            (zck 0).bind fun z92 =>
                                            some (z92, u91)) (fun u94 =>
                                            Sum.elim (fun u95 =>
                                              (zck 0).bind fun z96 =>
                                              some (z96, u95)) (fun u98 =>
                                              Sum.elim (fun u99 =>
                                                (zck 0).bind fun z100 =>
                                                some (z100, u99)) (fun u102 =>
                                                Sum.elim (fun u103 =>
                                                  (zck 0).bind fun z104 =>
                                                  some (z104, u103)) (fun u106 =>
                                                  Sum.elim (fun u107 =>
                                                    (zck 0).bind fun z108 =>
                                                    some (z108, u107)) (fun u110 =>
                                                    Sum.elim (fun u111 =>
                                                      (zck 0).bind fun z112 =>
                                                      some (z112, u111)) (fun u114 =>
                                                      Sum.elim (fun u115 =>
                                                        (zck 0).bind fun z116 =>
                                                        some (z116, u115)) (fun u118 =>
                                                        Sum.elim (fun u119 =>
                                                          (zck 0).bind fun z120 =>
                                                          some (z120, u119)) (fun u122 =>
                                                          Sum.elim (fun u123 =>
                                                            (zck 0).bind fun z124 =>
                                                            some (z124, u123)) (fun u126 =>
                                                            Sum.elim (fun u127 =>
                                                              (zck 0).bind fun z128 =>
                                                              some (z128, u127)) (fun u130 =>
                                                              Sum.elim (fun u131 =>
                                                                (zck 0).bind fun z132 =>
                                                                some (z132, u131)) (fun u134 =>
                                                                Sum.elim (fun u135 =>
                                                                  (zck 0).bind fun z136 =>
                                                                  some (z136, u135)) (fun u138 =>
                                                                  Sum.elim (fun u139 =>
                                                                    (zck 0).bind fun z140 =>
                                                                    some (z140, u139)) (fun u142 =>
                                                                    Sum.elim (fun u143 =>
                                                                      (zck 0).bind fun z144 =>
                                                                      some (z144, u143)) (fun u146 =>
                                                                      Sum.elim (fun u147 =>
                                                                        (zck 0).bind fun z148 =>
                                                                        some (z148, u147)) (fun u150 =>
                                                                        Sum.elim (fun u151 =>
                                                                          (zck 0).bind fun z152 =>
                                                                          some (z152, u151)) (fun u154 =>
                                                                          (zck 0).bind fun z155 =>
                                                                          some (z155, u154)) u150) u146) u142) u138) u134) u130) u126) u122) u118) u114) u110) u106) u102) u98) u94) u90) u86) u82) u78) u74) u70) u66) u62) u58) u54) u50) u46) u42) u38) u34) u30) u26) u22) u18) u14) r9
def sh_L_law (L : Nat) (xs : Nat → Int32) (M : Gm) : Option (Int32 × Gm) := L_law_F L xs M
theorem L_law_J1396_ok {w : Gw} {d : Nat} {L : Nat} {xs : Nat → Int32} {x1 : Nat} {x2 : Nat} {x3 : Nat} {x4 : Int32} {M : Gm} (hX : va_X (rho w 1) L xs w.1 w.1.heap) {o : Go} {M' : Gm} {out : (Int32 × Gm) ⊕ Gm ⊕ Gm ⊕ Gm ⊕ Gm ⊕ Gm ⊕ Gm ⊕ Gm ⊕ Gm ⊕ Gm ⊕ Gm ⊕ Gm ⊕ Gm ⊕ Gm ⊕ Gm ⊕ Gm ⊕ Gm ⊕ Gm ⊕ Gm ⊕ Gm ⊕ Gm ⊕ Gm ⊕ Gm ⊕ Gm ⊕ Gm ⊕ Gm ⊕ Gm ⊕ Gm ⊕ Gm ⊕ Gm ⊕ Gm ⊕ Gm ⊕ Gm ⊕ Gm ⊕ Gm ⊕ Gm ⊕ Gm ⊕ Gm} (h : L_law_J1396 L xs x1 x2 x3 x4 M = some out) (hc : ∀ t : Int32 × Gm, out = .inl t → Wp w mdL_law (d + 13) 23 [some (.inr 1), some (.inr x1), some (.inr x2), some (.inr x3), some (.inl t.1), none, none] [] t.2 o M') (he0 : ∀ t : Gm, out = .inr (.inl t) → Wp w mdL_law (d + 13) 1402 [none, none, none, none, none, none, none] [] t o M') (he1 : ∀ t : Gm, out = .inr (.inr (.inl t)) → Wp w mdL_law (d + 13) 227 [none, none, none, none, none, none, none] [] t o M') (he2 : ∀ t : Gm, out = .inr (.inr (.inr (.inl t))) → Wp w mdL_law (d + 13) 263 [none, none, none, none, none, none, none] [] t o M') (he3 : ∀ t : Gm, out = .inr (.inr (.inr (.inr (.inl t)))) → Wp w mdL_law (d + 13) 280 [none, none, none, none, none, none, none] [] t o M') (he4 : ∀ t : Gm, out = .inr (.inr (.inr (.inr (.inr (.inl t))))) → Wp w mdL_law (d + 13) 296 [none, none, none, none, none, none, none] [] t o M') (he5 : ∀ t : Gm, out = .inr (.inr (.inr (.inr (.inr (.inr (.inl t)))))) → Wp w mdL_law (d + 13) 332 [none, none, none, none, none, none, none] [] t o M') (he6 : ∀ t : Gm, out = .inr (.inr (.inr (.inr (.inr (.inr (.inr (.inl t))))))) → Wp w mdL_law (d + 13) 349 [none, none, none, none, none, none, none] [] t o M') (he7 : ∀ t : Gm, out = .inr (.inr (.inr (.inr (.inr (.inr (.inr (.inr (.inl t)))))))) → Wp w mdL_law (d + 13) 400 [none, none, none, none, none, none, none] [] t o M') (he8 : ∀ t : Gm, out = .inr (.inr (.inr (.inr (.inr (.inr (.inr (.inr (.inr (.inl t))))))))) → Wp w mdL_law (d + 13) 417 [none, none, none, none, none, none, none] [] t o M') (he9 : ∀ t : Gm, out = .inr (.inr (.inr (.inr (.inr (.inr (.inr (.inr (.inr (.inr (.inl t)))))))))) → Wp w mdL_law (d + 13) 468 [none, none, none, none, none, none, none] [] t o M') (he10 : ∀ t : Gm, out = .inr (.inr (.inr (.inr (.inr (.inr (.inr (.inr (.inr (.inr (.inr (.inl t))))))))))) → Wp w mdL_law (d + 13) 485 [none, none, none, none, none, none, none] [] t o M') (he11 : ∀ t : Gm, out = .inr (.inr (.inr (.inr (.inr (.inr (.inr (.inr (.inr (.inr (.inr (.inr (.inl t)))))))))))) → Wp w mdL_law (d + 13) 536 [none, none, none, none, none, none, none] [] t o M') (he12 : ∀ t : Gm, out = .inr (.inr (.inr (.inr (.inr (.inr (.inr (.inr (.inr (.inr (.inr (.inr (.inr (.inl t))))))))))))) → Wp w mdL_law (d + 13) 553 [none, none, none, none, none, none, none] [] t o M') (he13 : ∀ t : Gm, out = .inr (.inr (.inr (.inr (.inr (.inr (.inr (.inr (.inr (.inr (.inr (.inr (.inr (.inr (.inl t)))))))))))))) → Wp w mdL_law (d + 13) 616 [none, none, none, none, none, none, none] [] t o M') (he14 : ∀ t : Gm, out = .inr (.inr (.inr (.inr (.inr (.inr (.inr (.inr (.inr (.inr (.inr (.inr (.inr (.inr (.inr (.inl t))))))))))))))) → Wp w mdL_law (d + 13) 633 [none, none, none, none, none, none, none] [] t o M') (he15 : ∀ t : Gm, out = .inr (.inr (.inr (.inr (.inr (.inr (.inr (.inr (.inr (.inr (.inr (.inr (.inr (.inr (.inr (.inr (.inl t)))))))))))))))) → Wp w mdL_law (d + 13) 684 [none, none, none, none, none, none, none] [] t o M') (he16 : ∀ t : Gm, out = .inr (.inr (.inr (.inr (.inr (.inr (.inr (.inr (.inr (.inr (.inr (.inr (.inr (.inr (.inr (.inr (.inr (.inl t))))))))))))))))) → Wp w mdL_law (d + 13) 701 [none, none, none, none, none, none, none] [] t o M') (he17 : ∀ t : Gm, out = .inr (.inr (.inr (.inr (.inr (.inr (.inr (.inr (.inr (.inr (.inr (.inr (.inr (.inr (.inr (.inr (.inr (.inr (.inl t)))))))))))))))))) → Wp w mdL_law (d + 13) 764 [none, none, none, none, none, none, none] [] t o M') (he18 : ∀ t : Gm, out = .inr (.inr (.inr (.inr (.inr (.inr (.inr (.inr (.inr (.inr (.inr (.inr (.inr (.inr (.inr (.inr (.inr (.inr (.inr (.inl t))))))))))))))))))) → Wp w mdL_law (d + 13) 781 [none, none, none, none, none, none, none] [] t o M') (he19 : ∀ t : Gm, out = .inr (.inr (.inr (.inr (.inr (.inr (.inr (.inr (.inr (.inr (.inr (.inr (.inr (.inr (.inr (.inr (.inr (.inr (.inr (.inr (.inl t)))))))))))))))))))) → Wp w mdL_law (d + 13) 844 [none, none, none, none, none, none, none] [] t o M') (he20 : ∀ t : Gm, out = .inr (.inr (.inr (.inr (.inr (.inr (.inr (.inr (.inr (.inr (.inr (.inr (.inr (.inr (.inr (.inr (.inr (.inr (.inr (.inr (.inr (.inl t))))))))))))))))))))) → Wp w mdL_law (d + 13) 861 [none, none, none, none, none, none, none] [] t o M') (he21 : ∀ t : Gm, out = .inr (.inr (.inr (.inr (.inr (.inr (.inr (.inr (.inr (.inr (.inr (.inr (.inr (.inr (.inr (.inr (.inr (.inr (.inr (.inr (.inr (.inr (.inl t)))))))))))))))))))))) → Wp w mdL_law (d + 13) 912 [none, none, none, none, none, none, none] [] t o M') (he22 : ∀ t : Gm, out = .inr (.inr (.inr (.inr (.inr (.inr (.inr (.inr (.inr (.inr (.inr (.inr (.inr (.inr (.inr (.inr (.inr (.inr (.inr (.inr (.inr (.inr (.inr (.inl t))))))))))))))))))))))) → Wp w mdL_law (d + 13) 929 [none, none, none, none, none, none, none] [] t o M') (he23 : ∀ t : Gm, out = .inr (.inr (.inr (.inr (.inr (.inr (.inr (.inr (.inr (.inr (.inr (.inr (.inr (.inr (.inr (.inr (.inr (.inr (.inr (.inr (.inr (.inr (.inr (.inr (.inl t)))))))))))))))))))))))) → Wp w mdL_law (d + 13) 957 [none, none, none, none, none, none, none] [] t o M') (he24 : ∀ t : Gm, out = .inr (.inr (.inr (.inr (.inr (.inr (.inr (.inr (.inr (.inr (.inr (.inr (.inr (.inr (.inr (.inr (.inr (.inr (.inr (.inr (.inr (.inr (.inr (.inr (.inr (.inl t))))))))))))))))))))))))) → Wp w mdL_law (d + 13) 994 [none, none, none, none, none, none, none] [] t o M') (he25 : ∀ t : Gm, out = .inr (.inr (.inr (.inr (.inr (.inr (.inr (.inr (.inr (.inr (.inr (.inr (.inr (.inr (.inr (.inr (.inr (.inr (.inr (.inr (.inr (.inr (.inr (.inr (.inr (.inr (.inl t)))))))))))))))))))))))))) → Wp w mdL_law (d + 13) 1031 [none, none, none, none, none, none, none] [] t o M') (he26 : ∀ t : Gm, out = .inr (.inr (.inr (.inr (.inr (.inr (.inr (.inr (.inr (.inr (.inr (.inr (.inr (.inr (.inr (.inr (.inr (.inr (.inr (.inr (.inr (.inr (.inr (.inr (.inr (.inr (.inr (.inl t))))))))))))))))))))))))))) → Wp w mdL_law (d + 13) 1056 [none, none, none, none, none, none, none] [] t o M') (he27 : ∀ t : Gm, out = .inr (.inr (.inr (.inr (.inr (.inr (.inr (.inr (.inr (.inr (.inr (.inr (.inr (.inr (.inr (.inr (.inr (.inr (.inr (.inr (.inr (.inr (.inr (.inr (.inr (.inr (.inr (.inr (.inl t)))))))))))))))))))))))))))) → Wp w mdL_law (d + 13) 1081 [none, none, none, none, none, none, none] [] t o M') (he28 : ∀ t : Gm, out = .inr (.inr (.inr (.inr (.inr (.inr (.inr (.inr (.inr (.inr (.inr (.inr (.inr (.inr (.inr (.inr (.inr (.inr (.inr (.inr (.inr (.inr (.inr (.inr (.inr (.inr (.inr (.inr (.inr (.inl t))))))))))))))))))))))))))))) → Wp w mdL_law (d + 13) 1094 [none, none, none, none, none, none, none] [] t o M') (he29 : ∀ t : Gm, out = .inr (.inr (.inr (.inr (.inr (.inr (.inr (.inr (.inr (.inr (.inr (.inr (.inr (.inr (.inr (.inr (.inr (.inr (.inr (.inr (.inr (.inr (.inr (.inr (.inr (.inr (.inr (.inr (.inr (.inr (.inl t)))))))))))))))))))))))))))))) → Wp w mdL_law (d + 13) 1143 [none, none, none, none, none, none, none] [] t o M') (he30 : ∀ t : Gm, out = .inr (.inr (.inr (.inr (.inr (.inr (.inr (.inr (.inr (.inr (.inr (.inr (.inr (.inr (.inr (.inr (.inr (.inr (.inr (.inr (.inr (.inr (.inr (.inr (.inr (.inr (.inr (.inr (.inr (.inr (.inr (.inl t))))))))))))))))))))))))))))))) → Wp w mdL_law (d + 13) 1191 [none, none, none, none, none, none, none] [] t o M') (he31 : ∀ t : Gm, out = .inr (.inr (.inr (.inr (.inr (.inr (.inr (.inr (.inr (.inr (.inr (.inr (.inr (.inr (.inr (.inr (.inr (.inr (.inr (.inr (.inr (.inr (.inr (.inr (.inr (.inr (.inr (.inr (.inr (.inr (.inr (.inr (.inl t)))))))))))))))))))))))))))))))) → Wp w mdL_law (d + 13) 1208 [none, none, none, none, none, none, none] [] t o M') (he32 : ∀ t : Gm, out = .inr (.inr (.inr (.inr (.inr (.inr (.inr (.inr (.inr (.inr (.inr (.inr (.inr (.inr (.inr (.inr (.inr (.inr (.inr (.inr (.inr (.inr (.inr (.inr (.inr (.inr (.inr (.inr (.inr (.inr (.inr (.inr (.inr (.inl t))))))))))))))))))))))))))))))))) → Wp w mdL_law (d + 13) 1259 [none, none, none, none, none, none, none] [] t o M') (he33 : ∀ t : Gm, out = .inr (.inr (.inr (.inr (.inr (.inr (.inr (.inr (.inr (.inr (.inr (.inr (.inr (.inr (.inr (.inr (.inr (.inr (.inr (.inr (.inr (.inr (.inr (.inr (.inr (.inr (.inr (.inr (.inr (.inr (.inr (.inr (.inr (.inr (.inl t)))))))))))))))))))))))))))))))))) → Wp w mdL_law (d + 13) 1276 [none, none, none, none, none, none, none] [] t o M') (he34 : ∀ t : Gm, out = .inr (.inr (.inr (.inr (.inr (.inr (.inr (.inr (.inr (.inr (.inr (.inr (.inr (.inr (.inr (.inr (.inr (.inr (.inr (.inr (.inr (.inr (.inr (.inr (.inr (.inr (.inr (.inr (.inr (.inr (.inr (.inr (.inr (.inr (.inr (.inl t))))))))))))))))))))))))))))))))))) → Wp w mdL_law (d + 13) 1350 [none, none, none, none, none, none, none] [] t o M') (he35 : ∀ t : Gm, out = .inr (.inr (.inr (.inr (.inr (.inr (.inr (.inr (.inr (.inr (.inr (.inr (.inr (.inr (.inr (.inr (.inr (.inr (.inr (.inr (.inr (.inr (.inr (.inr (.inr (.inr (.inr (.inr (.inr (.inr (.inr (.inr (.inr (.inr (.inr (.inr (.inl t)))))))))))))))))))))))))))))))))))) → Wp w mdL_law (d + 13) 1367 [none, none, none, none, none, none, none] [] t o M') (he36 : ∀ t : Gm, out = .inr (.inr (.inr (.inr (.inr (.inr (.inr (.inr (.inr (.inr (.inr (.inr (.inr (.inr (.inr (.inr (.inr (.inr (.inr (.inr (.inr (.inr (.inr (.inr (.inr (.inr (.inr (.inr (.inr (.inr (.inr (.inr (.inr (.inr (.inr (.inr (.inr t)))))))))))))))))))))))))))))))))))) → Wp w mdL_law (d + 13) 1394 [none, none, none, none, none, none, none] [] t o M') : Wp w mdL_law (d + 13) 1396 [some (.inr 1), some (.inr x1), some (.inr x2), some (.inr x3), some (.inl x4), none, none] [] M o M' := by
  unfold L_law_J1396 at h
  refine wp_iinc (v := x4 + 6) dL_law_1396 rfl rfl ?_
  refine wp_goto (tgt := 23) dL_law_1399 (by decide) ?_
  cases h
  exact wp_ls (lsS (lsS (lsS (lsS (lsS (lsN (lsN lsZ))))))) (hc (x4 + 6, M) rfl)

theorem L_law_J282_ok {w : Gw} {d : Nat} {L : Nat} {xs : Nat → Int32} {x1 : Nat} {x2 : Nat} {x3 : Nat} {x4 : Int32} {M : Gm} (hX : va_X (rho w 1) L xs w.1 w.1.heap) {o : Go} {M' : Gm} {out : (Int32 × Gm) ⊕ Gm ⊕ Gm ⊕ Gm ⊕ Gm ⊕ Gm ⊕ Gm ⊕ Gm ⊕ Gm ⊕ Gm ⊕ Gm ⊕ Gm ⊕ Gm ⊕ Gm ⊕ Gm ⊕ Gm ⊕ Gm ⊕ Gm ⊕ Gm ⊕ Gm ⊕ Gm ⊕ Gm ⊕ Gm ⊕ Gm ⊕ Gm ⊕ Gm ⊕ Gm ⊕ Gm ⊕ Gm ⊕ Gm ⊕ Gm ⊕ Gm ⊕ Gm ⊕ Gm ⊕ Gm ⊕ Gm ⊕ Gm ⊕ Gm} (h : L_law_J282 L xs x1 x2 x3 x4 M = some out) (hc : ∀ t : Int32 × Gm, out = .inl t → Wp w mdL_law (d + 13) 23 [some (.inr 1), some (.inr x1), some (.inr x2), some (.inr x3), some (.inl t.1), none, none] [] t.2 o M') (he0 : ∀ t : Gm, out = .inr (.inl t) → Wp w mdL_law (d + 13) 1402 [none, none, none, none, none, none, none] [] t o M') (he1 : ∀ t : Gm, out = .inr (.inr (.inl t)) → Wp w mdL_law (d + 13) 227 [none, none, none, none, none, none, none] [] t o M') (he2 : ∀ t : Gm, out = .inr (.inr (.inr (.inl t))) → Wp w mdL_law (d + 13) 263 [none, none, none, none, none, none, none] [] t o M') (he3 : ∀ t : Gm, out = .inr (.inr (.inr (.inr (.inl t)))) → Wp w mdL_law (d + 13) 280 [none, none, none, none, none, none, none] [] t o M') (he4 : ∀ t : Gm, out = .inr (.inr (.inr (.inr (.inr (.inl t))))) → Wp w mdL_law (d + 13) 296 [none, none, none, none, none, none, none] [] t o M') (he5 : ∀ t : Gm, out = .inr (.inr (.inr (.inr (.inr (.inr (.inl t)))))) → Wp w mdL_law (d + 13) 332 [none, none, none, none, none, none, none] [] t o M') (he6 : ∀ t : Gm, out = .inr (.inr (.inr (.inr (.inr (.inr (.inr (.inl t))))))) → Wp w mdL_law (d + 13) 349 [none, none, none, none, none, none, none] [] t o M') (he7 : ∀ t : Gm, out = .inr (.inr (.inr (.inr (.inr (.inr (.inr (.inr (.inl t)))))))) → Wp w mdL_law (d + 13) 400 [none, none, none, none, none, none, none] [] t o M') (he8 : ∀ t : Gm, out = .inr (.inr (.inr (.inr (.inr (.inr (.inr (.inr (.inr (.inl t))))))))) → Wp w mdL_law (d + 13) 417 [none, none, none, none, none, none, none] [] t o M') (he9 : ∀ t : Gm, out = .inr (.inr (.inr (.inr (.inr (.inr (.inr (.inr (.inr (.inr (.inl t)))))))))) → Wp w mdL_law (d + 13) 468 [none, none, none, none, none, none, none] [] t o M') (he10 : ∀ t : Gm, out = .inr (.inr (.inr (.inr (.inr (.inr (.inr (.inr (.inr (.inr (.inr (.inl t))))))))))) → Wp w mdL_law (d + 13) 485 [none, none, none, none, none, none, none] [] t o M') (he11 : ∀ t : Gm, out = .inr (.inr (.inr (.inr (.inr (.inr (.inr (.inr (.inr (.inr (.inr (.inr (.inl t)))))))))))) → Wp w mdL_law (d + 13) 536 [none, none, none, none, none, none, none] [] t o M') (he12 : ∀ t : Gm, out = .inr (.inr (.inr (.inr (.inr (.inr (.inr (.inr (.inr (.inr (.inr (.inr (.inr (.inl t))))))))))))) → Wp w mdL_law (d + 13) 553 [none, none, none, none, none, none, none] [] t o M') (he13 : ∀ t : Gm, out = .inr (.inr (.inr (.inr (.inr (.inr (.inr (.inr (.inr (.inr (.inr (.inr (.inr (.inr (.inl t)))))))))))))) → Wp w mdL_law (d + 13) 616 [none, none, none, none, none, none, none] [] t o M') (he14 : ∀ t : Gm, out = .inr (.inr (.inr (.inr (.inr (.inr (.inr (.inr (.inr (.inr (.inr (.inr (.inr (.inr (.inr (.inl t))))))))))))))) → Wp w mdL_law (d + 13) 633 [none, none, none, none, none, none, none] [] t o M') (he15 : ∀ t : Gm, out = .inr (.inr (.inr (.inr (.inr (.inr (.inr (.inr (.inr (.inr (.inr (.inr (.inr (.inr (.inr (.inr (.inl t)))))))))))))))) → Wp w mdL_law (d + 13) 684 [none, none, none, none, none, none, none] [] t o M') (he16 : ∀ t : Gm, out = .inr (.inr (.inr (.inr (.inr (.inr (.inr (.inr (.inr (.inr (.inr (.inr (.inr (.inr (.inr (.inr (.inr (.inl t))))))))))))))))) → Wp w mdL_law (d + 13) 701 [none, none, none, none, none, none, none] [] t o M') (he17 : ∀ t : Gm, out = .inr (.inr (.inr (.inr (.inr (.inr (.inr (.inr (.inr (.inr (.inr (.inr (.inr (.inr (.inr (.inr (.inr (.inr (.inl t)))))))))))))))))) → Wp w mdL_law (d + 13) 764 [none, none, none, none, none, none, none] [] t o M') (he18 : ∀ t : Gm, out = .inr (.inr (.inr (.inr (.inr (.inr (.inr (.inr (.inr (.inr (.inr (.inr (.inr (.inr (.inr (.inr (.inr (.inr (.inr (.inl t))))))))))))))))))) → Wp w mdL_law (d + 13) 781 [none, none, none, none, none, none, none] [] t o M') (he19 : ∀ t : Gm, out = .inr (.inr (.inr (.inr (.inr (.inr (.inr (.inr (.inr (.inr (.inr (.inr (.inr (.inr (.inr (.inr (.inr (.inr (.inr (.inr (.inl t)))))))))))))))))))) → Wp w mdL_law (d + 13) 844 [none, none, none, none, none, none, none] [] t o M') (he20 : ∀ t : Gm, out = .inr (.inr (.inr (.inr (.inr (.inr (.inr (.inr (.inr (.inr (.inr (.inr (.inr (.inr (.inr (.inr (.inr (.inr (.inr (.inr (.inr (.inl t))))))))))))))))))))) → Wp w mdL_law (d + 13) 861 [none, none, none, none, none, none, none] [] t o M') (he21 : ∀ t : Gm, out = .inr (.inr (.inr (.inr (.inr (.inr (.inr (.inr (.inr (.inr (.inr (.inr (.inr (.inr (.inr (.inr (.inr (.inr (.inr (.inr (.inr (.inr (.inl t)))))))))))))))))))))) → Wp w mdL_law (d + 13) 912 [none, none, none, none, none, none, none] [] t o M') (he22 : ∀ t : Gm, out = .inr (.inr (.inr (.inr (.inr (.inr (.inr (.inr (.inr (.inr (.inr (.inr (.inr (.inr (.inr (.inr (.inr (.inr (.inr (.inr (.inr (.inr (.inr (.inl t))))))))))))))))))))))) → Wp w mdL_law (d + 13) 929 [none, none, none, none, none, none, none] [] t o M') (he23 : ∀ t : Gm, out = .inr (.inr (.inr (.inr (.inr (.inr (.inr (.inr (.inr (.inr (.inr (.inr (.inr (.inr (.inr (.inr (.inr (.inr (.inr (.inr (.inr (.inr (.inr (.inr (.inl t)))))))))))))))))))))))) → Wp w mdL_law (d + 13) 957 [none, none, none, none, none, none, none] [] t o M') (he24 : ∀ t : Gm, out = .inr (.inr (.inr (.inr (.inr (.inr (.inr (.inr (.inr (.inr (.inr (.inr (.inr (.inr (.inr (.inr (.inr (.inr (.inr (.inr (.inr (.inr (.inr (.inr (.inr (.inl t))))))))))))))))))))))))) → Wp w mdL_law (d + 13) 994 [none, none, none, none, none, none, none] [] t o M') (he25 : ∀ t : Gm, out = .inr (.inr (.inr (.inr (.inr (.inr (.inr (.inr (.inr (.inr (.inr (.inr (.inr (.inr (.inr (.inr (.inr (.inr (.inr (.inr (.inr (.inr (.inr (.inr (.inr (.inr (.inl t)))))))))))))))))))))))))) → Wp w mdL_law (d + 13) 1031 [none, none, none, none, none, none, none] [] t o M') (he26 : ∀ t : Gm, out = .inr (.inr (.inr (.inr (.inr (.inr (.inr (.inr (.inr (.inr (.inr (.inr (.inr (.inr (.inr (.inr (.inr (.inr (.inr (.inr (.inr (.inr (.inr (.inr (.inr (.inr (.inr (.inl t))))))))))))))))))))))))))) → Wp w mdL_law (d + 13) 1056 [none, none, none, none, none, none, none] [] t o M') (he27 : ∀ t : Gm, out = .inr (.inr (.inr (.inr (.inr (.inr (.inr (.inr (.inr (.inr (.inr (.inr (.inr (.inr (.inr (.inr (.inr (.inr (.inr (.inr (.inr (.inr (.inr (.inr (.inr (.inr (.inr (.inr (.inl t)))))))))))))))))))))))))))) → Wp w mdL_law (d + 13) 1081 [none, none, none, none, none, none, none] [] t o M') (he28 : ∀ t : Gm, out = .inr (.inr (.inr (.inr (.inr (.inr (.inr (.inr (.inr (.inr (.inr (.inr (.inr (.inr (.inr (.inr (.inr (.inr (.inr (.inr (.inr (.inr (.inr (.inr (.inr (.inr (.inr (.inr (.inr (.inl t))))))))))))))))))))))))))))) → Wp w mdL_law (d + 13) 1094 [none, none, none, none, none, none, none] [] t o M') (he29 : ∀ t : Gm, out = .inr (.inr (.inr (.inr (.inr (.inr (.inr (.inr (.inr (.inr (.inr (.inr (.inr (.inr (.inr (.inr (.inr (.inr (.inr (.inr (.inr (.inr (.inr (.inr (.inr (.inr (.inr (.inr (.inr (.inr (.inl t)))))))))))))))))))))))))))))) → Wp w mdL_law (d + 13) 1143 [none, none, none, none, none, none, none] [] t o M') (he30 : ∀ t : Gm, out = .inr (.inr (.inr (.inr (.inr (.inr (.inr (.inr (.inr (.inr (.inr (.inr (.inr (.inr (.inr (.inr (.inr (.inr (.inr (.inr (.inr (.inr (.inr (.inr (.inr (.inr (.inr (.inr (.inr (.inr (.inr (.inl t))))))))))))))))))))))))))))))) → Wp w mdL_law (d + 13) 1191 [none, none, none, none, none, none, none] [] t o M') (he31 : ∀ t : Gm, out = .inr (.inr (.inr (.inr (.inr (.inr (.inr (.inr (.inr (.inr (.inr (.inr (.inr (.inr (.inr (.inr (.inr (.inr (.inr (.inr (.inr (.inr (.inr (.inr (.inr (.inr (.inr (.inr (.inr (.inr (.inr (.inr (.inl t)))))))))))))))))))))))))))))))) → Wp w mdL_law (d + 13) 1208 [none, none, none, none, none, none, none] [] t o M') (he32 : ∀ t : Gm, out = .inr (.inr (.inr (.inr (.inr (.inr (.inr (.inr (.inr (.inr (.inr (.inr (.inr (.inr (.inr (.inr (.inr (.inr (.inr (.inr (.inr (.inr (.inr (.inr (.inr (.inr (.inr (.inr (.inr (.inr (.inr (.inr (.inr (.inl t))))))))))))))))))))))))))))))))) → Wp w mdL_law (d + 13) 1259 [none, none, none, none, none, none, none] [] t o M') (he33 : ∀ t : Gm, out = .inr (.inr (.inr (.inr (.inr (.inr (.inr (.inr (.inr (.inr (.inr (.inr (.inr (.inr (.inr (.inr (.inr (.inr (.inr (.inr (.inr (.inr (.inr (.inr (.inr (.inr (.inr (.inr (.inr (.inr (.inr (.inr (.inr (.inr (.inl t)))))))))))))))))))))))))))))))))) → Wp w mdL_law (d + 13) 1276 [none, none, none, none, none, none, none] [] t o M') (he34 : ∀ t : Gm, out = .inr (.inr (.inr (.inr (.inr (.inr (.inr (.inr (.inr (.inr (.inr (.inr (.inr (.inr (.inr (.inr (.inr (.inr (.inr (.inr (.inr (.inr (.inr (.inr (.inr (.inr (.inr (.inr (.inr (.inr (.inr (.inr (.inr (.inr (.inr (.inl t))))))))))))))))))))))))))))))))))) → Wp w mdL_law (d + 13) 1350 [none, none, none, none, none, none, none] [] t o M') (he35 : ∀ t : Gm, out = .inr (.inr (.inr (.inr (.inr (.inr (.inr (.inr (.inr (.inr (.inr (.inr (.inr (.inr (.inr (.inr (.inr (.inr (.inr (.inr (.inr (.inr (.inr (.inr (.inr (.inr (.inr (.inr (.inr (.inr (.inr (.inr (.inr (.inr (.inr (.inr (.inl t)))))))))))))))))))))))))))))))))))) → Wp w mdL_law (d + 13) 1367 [none, none, none, none, none, none, none] [] t o M') (he36 : ∀ t : Gm, out = .inr (.inr (.inr (.inr (.inr (.inr (.inr (.inr (.inr (.inr (.inr (.inr (.inr (.inr (.inr (.inr (.inr (.inr (.inr (.inr (.inr (.inr (.inr (.inr (.inr (.inr (.inr (.inr (.inr (.inr (.inr (.inr (.inr (.inr (.inr (.inr (.inr t)))))))))))))))))))))))))))))))))))) → Wp w mdL_law (d + 13) 1394 [none, none, none, none, none, none, none] [] t o M') : Wp w mdL_law (d + 13) 282 [some (.inr 1), some (.inr x1), some (.inr x2), some (.inr x3), some (.inl x4), none, none] [] M o M' := by
  unfold L_law_J282 at h
  refine wp_goto (tgt := 1396) dL_law_282 (by decide) ?_
  exact wp_ls (lsS (lsS (lsS (lsS (lsS (lsN (lsN lsZ))))))) (L_law_J1396_ok hX h hc he0 he1 he2 he3 he4 he5 he6 he7 he8 he9 he10 he11 he12 he13 he14 he15 he16 he17 he18 he19 he20 he21 he22 he23 he24 he25 he26 he27 he28 he29 he30 he31 he32 he33 he34 he35 he36)

theorem L_law_J351_ok {w : Gw} {d : Nat} {L : Nat} {xs : Nat → Int32} {x1 : Nat} {x2 : Nat} {x3 : Nat} {x4 : Int32} {M : Gm} (hX : va_X (rho w 1) L xs w.1 w.1.heap) {o : Go} {M' : Gm} {out : (Int32 × Gm) ⊕ Gm ⊕ Gm ⊕ Gm ⊕ Gm ⊕ Gm ⊕ Gm ⊕ Gm ⊕ Gm ⊕ Gm ⊕ Gm ⊕ Gm ⊕ Gm ⊕ Gm ⊕ Gm ⊕ Gm ⊕ Gm ⊕ Gm ⊕ Gm ⊕ Gm ⊕ Gm ⊕ Gm ⊕ Gm ⊕ Gm ⊕ Gm ⊕ Gm ⊕ Gm ⊕ Gm ⊕ Gm ⊕ Gm ⊕ Gm ⊕ Gm ⊕ Gm ⊕ Gm ⊕ Gm ⊕ Gm ⊕ Gm ⊕ Gm} (h : L_law_J351 L xs x1 x2 x3 x4 M = some out) (hc : ∀ t : Int32 × Gm, out = .inl t → Wp w mdL_law (d + 13) 23 [some (.inr 1), some (.inr x1), some (.inr x2), some (.inr x3), some (.inl t.1), none, none] [] t.2 o M') (he0 : ∀ t : Gm, out = .inr (.inl t) → Wp w mdL_law (d + 13) 1402 [none, none, none, none, none, none, none] [] t o M') (he1 : ∀ t : Gm, out = .inr (.inr (.inl t)) → Wp w mdL_law (d + 13) 227 [none, none, none, none, none, none, none] [] t o M') (he2 : ∀ t : Gm, out = .inr (.inr (.inr (.inl t))) → Wp w mdL_law (d + 13) 263 [none, none, none, none, none, none, none] [] t o M') (he3 : ∀ t : Gm, out = .inr (.inr (.inr (.inr (.inl t)))) → Wp w mdL_law (d + 13) 280 [none, none, none, none, none, none, none] [] t o M') (he4 : ∀ t : Gm, out = .inr (.inr (.inr (.inr (.inr (.inl t))))) → Wp w mdL_law (d + 13) 296 [none, none, none, none, none, none, none] [] t o M') (he5 : ∀ t : Gm, out = .inr (.inr (.inr (.inr (.inr (.inr (.inl t)))))) → Wp w mdL_law (d + 13) 332 [none, none, none, none, none, none, none] [] t o M') (he6 : ∀ t : Gm, out = .inr (.inr (.inr (.inr (.inr (.inr (.inr (.inl t))))))) → Wp w mdL_law (d + 13) 349 [none, none, none, none, none, none, none] [] t o M') (he7 : ∀ t : Gm, out = .inr (.inr (.inr (.inr (.inr (.inr (.inr (.inr (.inl t)))))))) → Wp w mdL_law (d + 13) 400 [none, none, none, none, none, none, none] [] t o M') (he8 : ∀ t : Gm, out = .inr (.inr (.inr (.inr (.inr (.inr (.inr (.inr (.inr (.inl t))))))))) → Wp w mdL_law (d + 13) 417 [none, none, none, none, none, none, none] [] t o M') (he9 : ∀ t : Gm, out = .inr (.inr (.inr (.inr (.inr (.inr (.inr (.inr (.inr (.inr (.inl t)))))))))) → Wp w mdL_law (d + 13) 468 [none, none, none, none, none, none, none] [] t o M') (he10 : ∀ t : Gm, out = .inr (.inr (.inr (.inr (.inr (.inr (.inr (.inr (.inr (.inr (.inr (.inl t))))))))))) → Wp w mdL_law (d + 13) 485 [none, none, none, none, none, none, none] [] t o M') (he11 : ∀ t : Gm, out = .inr (.inr (.inr (.inr (.inr (.inr (.inr (.inr (.inr (.inr (.inr (.inr (.inl t)))))))))))) → Wp w mdL_law (d + 13) 536 [none, none, none, none, none, none, none] [] t o M') (he12 : ∀ t : Gm, out = .inr (.inr (.inr (.inr (.inr (.inr (.inr (.inr (.inr (.inr (.inr (.inr (.inr (.inl t))))))))))))) → Wp w mdL_law (d + 13) 553 [none, none, none, none, none, none, none] [] t o M') (he13 : ∀ t : Gm, out = .inr (.inr (.inr (.inr (.inr (.inr (.inr (.inr (.inr (.inr (.inr (.inr (.inr (.inr (.inl t)))))))))))))) → Wp w mdL_law (d + 13) 616 [none, none, none, none, none, none, none] [] t o M') (he14 : ∀ t : Gm, out = .inr (.inr (.inr (.inr (.inr (.inr (.inr (.inr (.inr (.inr (.inr (.inr (.inr (.inr (.inr (.inl t))))))))))))))) → Wp w mdL_law (d + 13) 633 [none, none, none, none, none, none, none] [] t o M') (he15 : ∀ t : Gm, out = .inr (.inr (.inr (.inr (.inr (.inr (.inr (.inr (.inr (.inr (.inr (.inr (.inr (.inr (.inr (.inr (.inl t)))))))))))))))) → Wp w mdL_law (d + 13) 684 [none, none, none, none, none, none, none] [] t o M') (he16 : ∀ t : Gm, out = .inr (.inr (.inr (.inr (.inr (.inr (.inr (.inr (.inr (.inr (.inr (.inr (.inr (.inr (.inr (.inr (.inr (.inl t))))))))))))))))) → Wp w mdL_law (d + 13) 701 [none, none, none, none, none, none, none] [] t o M') (he17 : ∀ t : Gm, out = .inr (.inr (.inr (.inr (.inr (.inr (.inr (.inr (.inr (.inr (.inr (.inr (.inr (.inr (.inr (.inr (.inr (.inr (.inl t)))))))))))))))))) → Wp w mdL_law (d + 13) 764 [none, none, none, none, none, none, none] [] t o M') (he18 : ∀ t : Gm, out = .inr (.inr (.inr (.inr (.inr (.inr (.inr (.inr (.inr (.inr (.inr (.inr (.inr (.inr (.inr (.inr (.inr (.inr (.inr (.inl t))))))))))))))))))) → Wp w mdL_law (d + 13) 781 [none, none, none, none, none, none, none] [] t o M') (he19 : ∀ t : Gm, out = .inr (.inr (.inr (.inr (.inr (.inr (.inr (.inr (.inr (.inr (.inr (.inr (.inr (.inr (.inr (.inr (.inr (.inr (.inr (.inr (.inl t)))))))))))))))))))) → Wp w mdL_law (d + 13) 844 [none, none, none, none, none, none, none] [] t o M') (he20 : ∀ t : Gm, out = .inr (.inr (.inr (.inr (.inr (.inr (.inr (.inr (.inr (.inr (.inr (.inr (.inr (.inr (.inr (.inr (.inr (.inr (.inr (.inr (.inr (.inl t))))))))))))))))))))) → Wp w mdL_law (d + 13) 861 [none, none, none, none, none, none, none] [] t o M') (he21 : ∀ t : Gm, out = .inr (.inr (.inr (.inr (.inr (.inr (.inr (.inr (.inr (.inr (.inr (.inr (.inr (.inr (.inr (.inr (.inr (.inr (.inr (.inr (.inr (.inr (.inl t)))))))))))))))))))))) → Wp w mdL_law (d + 13) 912 [none, none, none, none, none, none, none] [] t o M') (he22 : ∀ t : Gm, out = .inr (.inr (.inr (.inr (.inr (.inr (.inr (.inr (.inr (.inr (.inr (.inr (.inr (.inr (.inr (.inr (.inr (.inr (.inr (.inr (.inr (.inr (.inr (.inl t))))))))))))))))))))))) → Wp w mdL_law (d + 13) 929 [none, none, none, none, none, none, none] [] t o M') (he23 : ∀ t : Gm, out = .inr (.inr (.inr (.inr (.inr (.inr (.inr (.inr (.inr (.inr (.inr (.inr (.inr (.inr (.inr (.inr (.inr (.inr (.inr (.inr (.inr (.inr (.inr (.inr (.inl t)))))))))))))))))))))))) → Wp w mdL_law (d + 13) 957 [none, none, none, none, none, none, none] [] t o M') (he24 : ∀ t : Gm, out = .inr (.inr (.inr (.inr (.inr (.inr (.inr (.inr (.inr (.inr (.inr (.inr (.inr (.inr (.inr (.inr (.inr (.inr (.inr (.inr (.inr (.inr (.inr (.inr (.inr (.inl t))))))))))))))))))))))))) → Wp w mdL_law (d + 13) 994 [none, none, none, none, none, none, none] [] t o M') (he25 : ∀ t : Gm, out = .inr (.inr (.inr (.inr (.inr (.inr (.inr (.inr (.inr (.inr (.inr (.inr (.inr (.inr (.inr (.inr (.inr (.inr (.inr (.inr (.inr (.inr (.inr (.inr (.inr (.inr (.inl t)))))))))))))))))))))))))) → Wp w mdL_law (d + 13) 1031 [none, none, none, none, none, none, none] [] t o M') (he26 : ∀ t : Gm, out = .inr (.inr (.inr (.inr (.inr (.inr (.inr (.inr (.inr (.inr (.inr (.inr (.inr (.inr (.inr (.inr (.inr (.inr (.inr (.inr (.inr (.inr (.inr (.inr (.inr (.inr (.inr (.inl t))))))))))))))))))))))))))) → Wp w mdL_law (d + 13) 1056 [none, none, none, none, none, none, none] [] t o M') (he27 : ∀ t : Gm, out = .inr (.inr (.inr (.inr (.inr (.inr (.inr (.inr (.inr (.inr (.inr (.inr (.inr (.inr (.inr (.inr (.inr (.inr (.inr (.inr (.inr (.inr (.inr (.inr (.inr (.inr (.inr (.inr (.inl t)))))))))))))))))))))))))))) → Wp w mdL_law (d + 13) 1081 [none, none, none, none, none, none, none] [] t o M') (he28 : ∀ t : Gm, out = .inr (.inr (.inr (.inr (.inr (.inr (.inr (.inr (.inr (.inr (.inr (.inr (.inr (.inr (.inr (.inr (.inr (.inr (.inr (.inr (.inr (.inr (.inr (.inr (.inr (.inr (.inr (.inr (.inr (.inl t))))))))))))))))))))))))))))) → Wp w mdL_law (d + 13) 1094 [none, none, none, none, none, none, none] [] t o M') (he29 : ∀ t : Gm, out = .inr (.inr (.inr (.inr (.inr (.inr (.inr (.inr (.inr (.inr (.inr (.inr (.inr (.inr (.inr (.inr (.inr (.inr (.inr (.inr (.inr (.inr (.inr (.inr (.inr (.inr (.inr (.inr (.inr (.inr (.inl t)))))))))))))))))))))))))))))) → Wp w mdL_law (d + 13) 1143 [none, none, none, none, none, none, none] [] t o M') (he30 : ∀ t : Gm, out = .inr (.inr (.inr (.inr (.inr (.inr (.inr (.inr (.inr (.inr (.inr (.inr (.inr (.inr (.inr (.inr (.inr (.inr (.inr (.inr (.inr (.inr (.inr (.inr (.inr (.inr (.inr (.inr (.inr (.inr (.inr (.inl t))))))))))))))))))))))))))))))) → Wp w mdL_law (d + 13) 1191 [none, none, none, none, none, none, none] [] t o M') (he31 : ∀ t : Gm, out = .inr (.inr (.inr (.inr (.inr (.inr (.inr (.inr (.inr (.inr (.inr (.inr (.inr (.inr (.inr (.inr (.inr (.inr (.inr (.inr (.inr (.inr (.inr (.inr (.inr (.inr (.inr (.inr (.inr (.inr (.inr (.inr (.inl t)))))))))))))))))))))))))))))))) → Wp w mdL_law (d + 13) 1208 [none, none, none, none, none, none, none] [] t o M') (he32 : ∀ t : Gm, out = .inr (.inr (.inr (.inr (.inr (.inr (.inr (.inr (.inr (.inr (.inr (.inr (.inr (.inr (.inr (.inr (.inr (.inr (.inr (.inr (.inr (.inr (.inr (.inr (.inr (.inr (.inr (.inr (.inr (.inr (.inr (.inr (.inr (.inl t))))))))))))))))))))))))))))))))) → Wp w mdL_law (d + 13) 1259 [none, none, none, none, none, none, none] [] t o M') (he33 : ∀ t : Gm, out = .inr (.inr (.inr (.inr (.inr (.inr (.inr (.inr (.inr (.inr (.inr (.inr (.inr (.inr (.inr (.inr (.inr (.inr (.inr (.inr (.inr (.inr (.inr (.inr (.inr (.inr (.inr (.inr (.inr (.inr (.inr (.inr (.inr (.inr (.inl t)))))))))))))))))))))))))))))))))) → Wp w mdL_law (d + 13) 1276 [none, none, none, none, none, none, none] [] t o M') (he34 : ∀ t : Gm, out = .inr (.inr (.inr (.inr (.inr (.inr (.inr (.inr (.inr (.inr (.inr (.inr (.inr (.inr (.inr (.inr (.inr (.inr (.inr (.inr (.inr (.inr (.inr (.inr (.inr (.inr (.inr (.inr (.inr (.inr (.inr (.inr (.inr (.inr (.inr (.inl t))))))))))))))))))))))))))))))))))) → Wp w mdL_law (d + 13) 1350 [none, none, none, none, none, none, none] [] t o M') (he35 : ∀ t : Gm, out = .inr (.inr (.inr (.inr (.inr (.inr (.inr (.inr (.inr (.inr (.inr (.inr (.inr (.inr (.inr (.inr (.inr (.inr (.inr (.inr (.inr (.inr (.inr (.inr (.inr (.inr (.inr (.inr (.inr (.inr (.inr (.inr (.inr (.inr (.inr (.inr (.inl t)))))))))))))))))))))))))))))))))))) → Wp w mdL_law (d + 13) 1367 [none, none, none, none, none, none, none] [] t o M') (he36 : ∀ t : Gm, out = .inr (.inr (.inr (.inr (.inr (.inr (.inr (.inr (.inr (.inr (.inr (.inr (.inr (.inr (.inr (.inr (.inr (.inr (.inr (.inr (.inr (.inr (.inr (.inr (.inr (.inr (.inr (.inr (.inr (.inr (.inr (.inr (.inr (.inr (.inr (.inr (.inr t)))))))))))))))))))))))))))))))))))) → Wp w mdL_law (d + 13) 1394 [none, none, none, none, none, none, none] [] t o M') : Wp w mdL_law (d + 13) 351 [some (.inr 1), some (.inr x1), some (.inr x2), some (.inr x3), some (.inl x4), none, none] [] M o M' := by
  unfold L_law_J351 at h
  refine wp_goto (tgt := 1396) dL_law_351 (by decide) ?_
  exact wp_ls (lsS (lsS (lsS (lsS (lsS (lsN (lsN lsZ))))))) (L_law_J1396_ok hX h hc he0 he1 he2 he3 he4 he5 he6 he7 he8 he9 he10 he11 he12 he13 he14 he15 he16 he17 he18 he19 he20 he21 he22 he23 he24 he25 he26 he27 he28 he29 he30 he31 he32 he33 he34 he35 he36)

theorem L_law_J419_ok {w : Gw} {d : Nat} {L : Nat} {xs : Nat → Int32} {x1 : Nat} {x2 : Nat} {x3 : Nat} {x4 : Int32} {M : Gm} (hX : va_X (rho w 1) L xs w.1 w.1.heap) {o : Go} {M' : Gm} {out : (Int32 × Gm) ⊕ Gm ⊕ Gm ⊕ Gm ⊕ Gm ⊕ Gm ⊕ Gm ⊕ Gm ⊕ Gm ⊕ Gm ⊕ Gm ⊕ Gm ⊕ Gm ⊕ Gm ⊕ Gm ⊕ Gm ⊕ Gm ⊕ Gm ⊕ Gm ⊕ Gm ⊕ Gm ⊕ Gm ⊕ Gm ⊕ Gm ⊕ Gm ⊕ Gm ⊕ Gm ⊕ Gm ⊕ Gm ⊕ Gm ⊕ Gm ⊕ Gm ⊕ Gm ⊕ Gm ⊕ Gm ⊕ Gm ⊕ Gm ⊕ Gm} (h : L_law_J419 L xs x1 x2 x3 x4 M = some out) (hc : ∀ t : Int32 × Gm, out = .inl t → Wp w mdL_law (d + 13) 23 [some (.inr 1), some (.inr x1), some (.inr x2), some (.inr x3), some (.inl t.1), none, none] [] t.2 o M') (he0 : ∀ t : Gm, out = .inr (.inl t) → Wp w mdL_law (d + 13) 1402 [none, none, none, none, none, none, none] [] t o M') (he1 : ∀ t : Gm, out = .inr (.inr (.inl t)) → Wp w mdL_law (d + 13) 227 [none, none, none, none, none, none, none] [] t o M') (he2 : ∀ t : Gm, out = .inr (.inr (.inr (.inl t))) → Wp w mdL_law (d + 13) 263 [none, none, none, none, none, none, none] [] t o M') (he3 : ∀ t : Gm, out = .inr (.inr (.inr (.inr (.inl t)))) → Wp w mdL_law (d + 13) 280 [none, none, none, none, none, none, none] [] t o M') (he4 : ∀ t : Gm, out = .inr (.inr (.inr (.inr (.inr (.inl t))))) → Wp w mdL_law (d + 13) 296 [none, none, none, none, none, none, none] [] t o M') (he5 : ∀ t : Gm, out = .inr (.inr (.inr (.inr (.inr (.inr (.inl t)))))) → Wp w mdL_law (d + 13) 332 [none, none, none, none, none, none, none] [] t o M') (he6 : ∀ t : Gm, out = .inr (.inr (.inr (.inr (.inr (.inr (.inr (.inl t))))))) → Wp w mdL_law (d + 13) 349 [none, none, none, none, none, none, none] [] t o M') (he7 : ∀ t : Gm, out = .inr (.inr (.inr (.inr (.inr (.inr (.inr (.inr (.inl t)))))))) → Wp w mdL_law (d + 13) 400 [none, none, none, none, none, none, none] [] t o M') (he8 : ∀ t : Gm, out = .inr (.inr (.inr (.inr (.inr (.inr (.inr (.inr (.inr (.inl t))))))))) → Wp w mdL_law (d + 13) 417 [none, none, none, none, none, none, none] [] t o M') (he9 : ∀ t : Gm, out = .inr (.inr (.inr (.inr (.inr (.inr (.inr (.inr (.inr (.inr (.inl t)))))))))) → Wp w mdL_law (d + 13) 468 [none, none, none, none, none, none, none] [] t o M') (he10 : ∀ t : Gm, out = .inr (.inr (.inr (.inr (.inr (.inr (.inr (.inr (.inr (.inr (.inr (.inl t))))))))))) → Wp w mdL_law (d + 13) 485 [none, none, none, none, none, none, none] [] t o M') (he11 : ∀ t : Gm, out = .inr (.inr (.inr (.inr (.inr (.inr (.inr (.inr (.inr (.inr (.inr (.inr (.inl t)))))))))))) → Wp w mdL_law (d + 13) 536 [none, none, none, none, none, none, none] [] t o M') (he12 : ∀ t : Gm, out = .inr (.inr (.inr (.inr (.inr (.inr (.inr (.inr (.inr (.inr (.inr (.inr (.inr (.inl t))))))))))))) → Wp w mdL_law (d + 13) 553 [none, none, none, none, none, none, none] [] t o M') (he13 : ∀ t : Gm, out = .inr (.inr (.inr (.inr (.inr (.inr (.inr (.inr (.inr (.inr (.inr (.inr (.inr (.inr (.inl t)))))))))))))) → Wp w mdL_law (d + 13) 616 [none, none, none, none, none, none, none] [] t o M') (he14 : ∀ t : Gm, out = .inr (.inr (.inr (.inr (.inr (.inr (.inr (.inr (.inr (.inr (.inr (.inr (.inr (.inr (.inr (.inl t))))))))))))))) → Wp w mdL_law (d + 13) 633 [none, none, none, none, none, none, none] [] t o M') (he15 : ∀ t : Gm, out = .inr (.inr (.inr (.inr (.inr (.inr (.inr (.inr (.inr (.inr (.inr (.inr (.inr (.inr (.inr (.inr (.inl t)))))))))))))))) → Wp w mdL_law (d + 13) 684 [none, none, none, none, none, none, none] [] t o M') (he16 : ∀ t : Gm, out = .inr (.inr (.inr (.inr (.inr (.inr (.inr (.inr (.inr (.inr (.inr (.inr (.inr (.inr (.inr (.inr (.inr (.inl t))))))))))))))))) → Wp w mdL_law (d + 13) 701 [none, none, none, none, none, none, none] [] t o M') (he17 : ∀ t : Gm, out = .inr (.inr (.inr (.inr (.inr (.inr (.inr (.inr (.inr (.inr (.inr (.inr (.inr (.inr (.inr (.inr (.inr (.inr (.inl t)))))))))))))))))) → Wp w mdL_law (d + 13) 764 [none, none, none, none, none, none, none] [] t o M') (he18 : ∀ t : Gm, out = .inr (.inr (.inr (.inr (.inr (.inr (.inr (.inr (.inr (.inr (.inr (.inr (.inr (.inr (.inr (.inr (.inr (.inr (.inr (.inl t))))))))))))))))))) → Wp w mdL_law (d + 13) 781 [none, none, none, none, none, none, none] [] t o M') (he19 : ∀ t : Gm, out = .inr (.inr (.inr (.inr (.inr (.inr (.inr (.inr (.inr (.inr (.inr (.inr (.inr (.inr (.inr (.inr (.inr (.inr (.inr (.inr (.inl t)))))))))))))))))))) → Wp w mdL_law (d + 13) 844 [none, none, none, none, none, none, none] [] t o M') (he20 : ∀ t : Gm, out = .inr (.inr (.inr (.inr (.inr (.inr (.inr (.inr (.inr (.inr (.inr (.inr (.inr (.inr (.inr (.inr (.inr (.inr (.inr (.inr (.inr (.inl t))))))))))))))))))))) → Wp w mdL_law (d + 13) 861 [none, none, none, none, none, none, none] [] t o M') (he21 : ∀ t : Gm, out = .inr (.inr (.inr (.inr (.inr (.inr (.inr (.inr (.inr (.inr (.inr (.inr (.inr (.inr (.inr (.inr (.inr (.inr (.inr (.inr (.inr (.inr (.inl t)))))))))))))))))))))) → Wp w mdL_law (d + 13) 912 [none, none, none, none, none, none, none] [] t o M') (he22 : ∀ t : Gm, out = .inr (.inr (.inr (.inr (.inr (.inr (.inr (.inr (.inr (.inr (.inr (.inr (.inr (.inr (.inr (.inr (.inr (.inr (.inr (.inr (.inr (.inr (.inr (.inl t))))))))))))))))))))))) → Wp w mdL_law (d + 13) 929 [none, none, none, none, none, none, none] [] t o M') (he23 : ∀ t : Gm, out = .inr (.inr (.inr (.inr (.inr (.inr (.inr (.inr (.inr (.inr (.inr (.inr (.inr (.inr (.inr (.inr (.inr (.inr (.inr (.inr (.inr (.inr (.inr (.inr (.inl t)))))))))))))))))))))))) → Wp w mdL_law (d + 13) 957 [none, none, none, none, none, none, none] [] t o M') (he24 : ∀ t : Gm, out = .inr (.inr (.inr (.inr (.inr (.inr (.inr (.inr (.inr (.inr (.inr (.inr (.inr (.inr (.inr (.inr (.inr (.inr (.inr (.inr (.inr (.inr (.inr (.inr (.inr (.inl t))))))))))))))))))))))))) → Wp w mdL_law (d + 13) 994 [none, none, none, none, none, none, none] [] t o M') (he25 : ∀ t : Gm, out = .inr (.inr (.inr (.inr (.inr (.inr (.inr (.inr (.inr (.inr (.inr (.inr (.inr (.inr (.inr (.inr (.inr (.inr (.inr (.inr (.inr (.inr (.inr (.inr (.inr (.inr (.inl t)))))))))))))))))))))))))) → Wp w mdL_law (d + 13) 1031 [none, none, none, none, none, none, none] [] t o M') (he26 : ∀ t : Gm, out = .inr (.inr (.inr (.inr (.inr (.inr (.inr (.inr (.inr (.inr (.inr (.inr (.inr (.inr (.inr (.inr (.inr (.inr (.inr (.inr (.inr (.inr (.inr (.inr (.inr (.inr (.inr (.inl t))))))))))))))))))))))))))) → Wp w mdL_law (d + 13) 1056 [none, none, none, none, none, none, none] [] t o M') (he27 : ∀ t : Gm, out = .inr (.inr (.inr (.inr (.inr (.inr (.inr (.inr (.inr (.inr (.inr (.inr (.inr (.inr (.inr (.inr (.inr (.inr (.inr (.inr (.inr (.inr (.inr (.inr (.inr (.inr (.inr (.inr (.inl t)))))))))))))))))))))))))))) → Wp w mdL_law (d + 13) 1081 [none, none, none, none, none, none, none] [] t o M') (he28 : ∀ t : Gm, out = .inr (.inr (.inr (.inr (.inr (.inr (.inr (.inr (.inr (.inr (.inr (.inr (.inr (.inr (.inr (.inr (.inr (.inr (.inr (.inr (.inr (.inr (.inr (.inr (.inr (.inr (.inr (.inr (.inr (.inl t))))))))))))))))))))))))))))) → Wp w mdL_law (d + 13) 1094 [none, none, none, none, none, none, none] [] t o M') (he29 : ∀ t : Gm, out = .inr (.inr (.inr (.inr (.inr (.inr (.inr (.inr (.inr (.inr (.inr (.inr (.inr (.inr (.inr (.inr (.inr (.inr (.inr (.inr (.inr (.inr (.inr (.inr (.inr (.inr (.inr (.inr (.inr (.inr (.inl t)))))))))))))))))))))))))))))) → Wp w mdL_law (d + 13) 1143 [none, none, none, none, none, none, none] [] t o M') (he30 : ∀ t : Gm, out = .inr (.inr (.inr (.inr (.inr (.inr (.inr (.inr (.inr (.inr (.inr (.inr (.inr (.inr (.inr (.inr (.inr (.inr (.inr (.inr (.inr (.inr (.inr (.inr (.inr (.inr (.inr (.inr (.inr (.inr (.inr (.inl t))))))))))))))))))))))))))))))) → Wp w mdL_law (d + 13) 1191 [none, none, none, none, none, none, none] [] t o M') (he31 : ∀ t : Gm, out = .inr (.inr (.inr (.inr (.inr (.inr (.inr (.inr (.inr (.inr (.inr (.inr (.inr (.inr (.inr (.inr (.inr (.inr (.inr (.inr (.inr (.inr (.inr (.inr (.inr (.inr (.inr (.inr (.inr (.inr (.inr (.inr (.inl t)))))))))))))))))))))))))))))))) → Wp w mdL_law (d + 13) 1208 [none, none, none, none, none, none, none] [] t o M') (he32 : ∀ t : Gm, out = .inr (.inr (.inr (.inr (.inr (.inr (.inr (.inr (.inr (.inr (.inr (.inr (.inr (.inr (.inr (.inr (.inr (.inr (.inr (.inr (.inr (.inr (.inr (.inr (.inr (.inr (.inr (.inr (.inr (.inr (.inr (.inr (.inr (.inl t))))))))))))))))))))))))))))))))) → Wp w mdL_law (d + 13) 1259 [none, none, none, none, none, none, none] [] t o M') (he33 : ∀ t : Gm, out = .inr (.inr (.inr (.inr (.inr (.inr (.inr (.inr (.inr (.inr (.inr (.inr (.inr (.inr (.inr (.inr (.inr (.inr (.inr (.inr (.inr (.inr (.inr (.inr (.inr (.inr (.inr (.inr (.inr (.inr (.inr (.inr (.inr (.inr (.inl t)))))))))))))))))))))))))))))))))) → Wp w mdL_law (d + 13) 1276 [none, none, none, none, none, none, none] [] t o M') (he34 : ∀ t : Gm, out = .inr (.inr (.inr (.inr (.inr (.inr (.inr (.inr (.inr (.inr (.inr (.inr (.inr (.inr (.inr (.inr (.inr (.inr (.inr (.inr (.inr (.inr (.inr (.inr (.inr (.inr (.inr (.inr (.inr (.inr (.inr (.inr (.inr (.inr (.inr (.inl t))))))))))))))))))))))))))))))))))) → Wp w mdL_law (d + 13) 1350 [none, none, none, none, none, none, none] [] t o M') (he35 : ∀ t : Gm, out = .inr (.inr (.inr (.inr (.inr (.inr (.inr (.inr (.inr (.inr (.inr (.inr (.inr (.inr (.inr (.inr (.inr (.inr (.inr (.inr (.inr (.inr (.inr (.inr (.inr (.inr (.inr (.inr (.inr (.inr (.inr (.inr (.inr (.inr (.inr (.inr (.inl t)))))))))))))))))))))))))))))))))))) → Wp w mdL_law (d + 13) 1367 [none, none, none, none, none, none, none] [] t o M') (he36 : ∀ t : Gm, out = .inr (.inr (.inr (.inr (.inr (.inr (.inr (.inr (.inr (.inr (.inr (.inr (.inr (.inr (.inr (.inr (.inr (.inr (.inr (.inr (.inr (.inr (.inr (.inr (.inr (.inr (.inr (.inr (.inr (.inr (.inr (.inr (.inr (.inr (.inr (.inr (.inr t)))))))))))))))))))))))))))))))))))) → Wp w mdL_law (d + 13) 1394 [none, none, none, none, none, none, none] [] t o M') : Wp w mdL_law (d + 13) 419 [some (.inr 1), some (.inr x1), some (.inr x2), some (.inr x3), some (.inl x4), none, none] [] M o M' := by
  unfold L_law_J419 at h
  refine wp_goto (tgt := 1396) dL_law_419 (by decide) ?_
  exact wp_ls (lsS (lsS (lsS (lsS (lsS (lsN (lsN lsZ))))))) (L_law_J1396_ok hX h hc he0 he1 he2 he3 he4 he5 he6 he7 he8 he9 he10 he11 he12 he13 he14 he15 he16 he17 he18 he19 he20 he21 he22 he23 he24 he25 he26 he27 he28 he29 he30 he31 he32 he33 he34 he35 he36)

theorem L_law_J487_ok {w : Gw} {d : Nat} {L : Nat} {xs : Nat → Int32} {x1 : Nat} {x2 : Nat} {x3 : Nat} {x4 : Int32} {M : Gm} (hX : va_X (rho w 1) L xs w.1 w.1.heap) {o : Go} {M' : Gm} {out : (Int32 × Gm) ⊕ Gm ⊕ Gm ⊕ Gm ⊕ Gm ⊕ Gm ⊕ Gm ⊕ Gm ⊕ Gm ⊕ Gm ⊕ Gm ⊕ Gm ⊕ Gm ⊕ Gm ⊕ Gm ⊕ Gm ⊕ Gm ⊕ Gm ⊕ Gm ⊕ Gm ⊕ Gm ⊕ Gm ⊕ Gm ⊕ Gm ⊕ Gm ⊕ Gm ⊕ Gm ⊕ Gm ⊕ Gm ⊕ Gm ⊕ Gm ⊕ Gm ⊕ Gm ⊕ Gm ⊕ Gm ⊕ Gm ⊕ Gm ⊕ Gm} (h : L_law_J487 L xs x1 x2 x3 x4 M = some out) (hc : ∀ t : Int32 × Gm, out = .inl t → Wp w mdL_law (d + 13) 23 [some (.inr 1), some (.inr x1), some (.inr x2), some (.inr x3), some (.inl t.1), none, none] [] t.2 o M') (he0 : ∀ t : Gm, out = .inr (.inl t) → Wp w mdL_law (d + 13) 1402 [none, none, none, none, none, none, none] [] t o M') (he1 : ∀ t : Gm, out = .inr (.inr (.inl t)) → Wp w mdL_law (d + 13) 227 [none, none, none, none, none, none, none] [] t o M') (he2 : ∀ t : Gm, out = .inr (.inr (.inr (.inl t))) → Wp w mdL_law (d + 13) 263 [none, none, none, none, none, none, none] [] t o M') (he3 : ∀ t : Gm, out = .inr (.inr (.inr (.inr (.inl t)))) → Wp w mdL_law (d + 13) 280 [none, none, none, none, none, none, none] [] t o M') (he4 : ∀ t : Gm, out = .inr (.inr (.inr (.inr (.inr (.inl t))))) → Wp w mdL_law (d + 13) 296 [none, none, none, none, none, none, none] [] t o M') (he5 : ∀ t : Gm, out = .inr (.inr (.inr (.inr (.inr (.inr (.inl t)))))) → Wp w mdL_law (d + 13) 332 [none, none, none, none, none, none, none] [] t o M') (he6 : ∀ t : Gm, out = .inr (.inr (.inr (.inr (.inr (.inr (.inr (.inl t))))))) → Wp w mdL_law (d + 13) 349 [none, none, none, none, none, none, none] [] t o M') (he7 : ∀ t : Gm, out = .inr (.inr (.inr (.inr (.inr (.inr (.inr (.inr (.inl t)))))))) → Wp w mdL_law (d + 13) 400 [none, none, none, none, none, none, none] [] t o M') (he8 : ∀ t : Gm, out = .inr (.inr (.inr (.inr (.inr (.inr (.inr (.inr (.inr (.inl t))))))))) → Wp w mdL_law (d + 13) 417 [none, none, none, none, none, none, none] [] t o M') (he9 : ∀ t : Gm, out = .inr (.inr (.inr (.inr (.inr (.inr (.inr (.inr (.inr (.inr (.inl t)))))))))) → Wp w mdL_law (d + 13) 468 [none, none, none, none, none, none, none] [] t o M') (he10 : ∀ t : Gm, out = .inr (.inr (.inr (.inr (.inr (.inr (.inr (.inr (.inr (.inr (.inr (.inl t))))))))))) → Wp w mdL_law (d + 13) 485 [none, none, none, none, none, none, none] [] t o M') (he11 : ∀ t : Gm, out = .inr (.inr (.inr (.inr (.inr (.inr (.inr (.inr (.inr (.inr (.inr (.inr (.inl t)))))))))))) → Wp w mdL_law (d + 13) 536 [none, none, none, none, none, none, none] [] t o M') (he12 : ∀ t : Gm, out = .inr (.inr (.inr (.inr (.inr (.inr (.inr (.inr (.inr (.inr (.inr (.inr (.inr (.inl t))))))))))))) → Wp w mdL_law (d + 13) 553 [none, none, none, none, none, none, none] [] t o M') (he13 : ∀ t : Gm, out = .inr (.inr (.inr (.inr (.inr (.inr (.inr (.inr (.inr (.inr (.inr (.inr (.inr (.inr (.inl t)))))))))))))) → Wp w mdL_law (d + 13) 616 [none, none, none, none, none, none, none] [] t o M') (he14 : ∀ t : Gm, out = .inr (.inr (.inr (.inr (.inr (.inr (.inr (.inr (.inr (.inr (.inr (.inr (.inr (.inr (.inr (.inl t))))))))))))))) → Wp w mdL_law (d + 13) 633 [none, none, none, none, none, none, none] [] t o M') (he15 : ∀ t : Gm, out = .inr (.inr (.inr (.inr (.inr (.inr (.inr (.inr (.inr (.inr (.inr (.inr (.inr (.inr (.inr (.inr (.inl t)))))))))))))))) → Wp w mdL_law (d + 13) 684 [none, none, none, none, none, none, none] [] t o M') (he16 : ∀ t : Gm, out = .inr (.inr (.inr (.inr (.inr (.inr (.inr (.inr (.inr (.inr (.inr (.inr (.inr (.inr (.inr (.inr (.inr (.inl t))))))))))))))))) → Wp w mdL_law (d + 13) 701 [none, none, none, none, none, none, none] [] t o M') (he17 : ∀ t : Gm, out = .inr (.inr (.inr (.inr (.inr (.inr (.inr (.inr (.inr (.inr (.inr (.inr (.inr (.inr (.inr (.inr (.inr (.inr (.inl t)))))))))))))))))) → Wp w mdL_law (d + 13) 764 [none, none, none, none, none, none, none] [] t o M') (he18 : ∀ t : Gm, out = .inr (.inr (.inr (.inr (.inr (.inr (.inr (.inr (.inr (.inr (.inr (.inr (.inr (.inr (.inr (.inr (.inr (.inr (.inr (.inl t))))))))))))))))))) → Wp w mdL_law (d + 13) 781 [none, none, none, none, none, none, none] [] t o M') (he19 : ∀ t : Gm, out = .inr (.inr (.inr (.inr (.inr (.inr (.inr (.inr (.inr (.inr (.inr (.inr (.inr (.inr (.inr (.inr (.inr (.inr (.inr (.inr (.inl t)))))))))))))))))))) → Wp w mdL_law (d + 13) 844 [none, none, none, none, none, none, none] [] t o M') (he20 : ∀ t : Gm, out = .inr (.inr (.inr (.inr (.inr (.inr (.inr (.inr (.inr (.inr (.inr (.inr (.inr (.inr (.inr (.inr (.inr (.inr (.inr (.inr (.inr (.inl t))))))))))))))))))))) → Wp w mdL_law (d + 13) 861 [none, none, none, none, none, none, none] [] t o M') (he21 : ∀ t : Gm, out = .inr (.inr (.inr (.inr (.inr (.inr (.inr (.inr (.inr (.inr (.inr (.inr (.inr (.inr (.inr (.inr (.inr (.inr (.inr (.inr (.inr (.inr (.inl t)))))))))))))))))))))) → Wp w mdL_law (d + 13) 912 [none, none, none, none, none, none, none] [] t o M') (he22 : ∀ t : Gm, out = .inr (.inr (.inr (.inr (.inr (.inr (.inr (.inr (.inr (.inr (.inr (.inr (.inr (.inr (.inr (.inr (.inr (.inr (.inr (.inr (.inr (.inr (.inr (.inl t))))))))))))))))))))))) → Wp w mdL_law (d + 13) 929 [none, none, none, none, none, none, none] [] t o M') (he23 : ∀ t : Gm, out = .inr (.inr (.inr (.inr (.inr (.inr (.inr (.inr (.inr (.inr (.inr (.inr (.inr (.inr (.inr (.inr (.inr (.inr (.inr (.inr (.inr (.inr (.inr (.inr (.inl t)))))))))))))))))))))))) → Wp w mdL_law (d + 13) 957 [none, none, none, none, none, none, none] [] t o M') (he24 : ∀ t : Gm, out = .inr (.inr (.inr (.inr (.inr (.inr (.inr (.inr (.inr (.inr (.inr (.inr (.inr (.inr (.inr (.inr (.inr (.inr (.inr (.inr (.inr (.inr (.inr (.inr (.inr (.inl t))))))))))))))))))))))))) → Wp w mdL_law (d + 13) 994 [none, none, none, none, none, none, none] [] t o M') (he25 : ∀ t : Gm, out = .inr (.inr (.inr (.inr (.inr (.inr (.inr (.inr (.inr (.inr (.inr (.inr (.inr (.inr (.inr (.inr (.inr (.inr (.inr (.inr (.inr (.inr (.inr (.inr (.inr (.inr (.inl t)))))))))))))))))))))))))) → Wp w mdL_law (d + 13) 1031 [none, none, none, none, none, none, none] [] t o M') (he26 : ∀ t : Gm, out = .inr (.inr (.inr (.inr (.inr (.inr (.inr (.inr (.inr (.inr (.inr (.inr (.inr (.inr (.inr (.inr (.inr (.inr (.inr (.inr (.inr (.inr (.inr (.inr (.inr (.inr (.inr (.inl t))))))))))))))))))))))))))) → Wp w mdL_law (d + 13) 1056 [none, none, none, none, none, none, none] [] t o M') (he27 : ∀ t : Gm, out = .inr (.inr (.inr (.inr (.inr (.inr (.inr (.inr (.inr (.inr (.inr (.inr (.inr (.inr (.inr (.inr (.inr (.inr (.inr (.inr (.inr (.inr (.inr (.inr (.inr (.inr (.inr (.inr (.inl t)))))))))))))))))))))))))))) → Wp w mdL_law (d + 13) 1081 [none, none, none, none, none, none, none] [] t o M') (he28 : ∀ t : Gm, out = .inr (.inr (.inr (.inr (.inr (.inr (.inr (.inr (.inr (.inr (.inr (.inr (.inr (.inr (.inr (.inr (.inr (.inr (.inr (.inr (.inr (.inr (.inr (.inr (.inr (.inr (.inr (.inr (.inr (.inl t))))))))))))))))))))))))))))) → Wp w mdL_law (d + 13) 1094 [none, none, none, none, none, none, none] [] t o M') (he29 : ∀ t : Gm, out = .inr (.inr (.inr (.inr (.inr (.inr (.inr (.inr (.inr (.inr (.inr (.inr (.inr (.inr (.inr (.inr (.inr (.inr (.inr (.inr (.inr (.inr (.inr (.inr (.inr (.inr (.inr (.inr (.inr (.inr (.inl t)))))))))))))))))))))))))))))) → Wp w mdL_law (d + 13) 1143 [none, none, none, none, none, none, none] [] t o M') (he30 : ∀ t : Gm, out = .inr (.inr (.inr (.inr (.inr (.inr (.inr (.inr (.inr (.inr (.inr (.inr (.inr (.inr (.inr (.inr (.inr (.inr (.inr (.inr (.inr (.inr (.inr (.inr (.inr (.inr (.inr (.inr (.inr (.inr (.inr (.inl t))))))))))))))))))))))))))))))) → Wp w mdL_law (d + 13) 1191 [none, none, none, none, none, none, none] [] t o M') (he31 : ∀ t : Gm, out = .inr (.inr (.inr (.inr (.inr (.inr (.inr (.inr (.inr (.inr (.inr (.inr (.inr (.inr (.inr (.inr (.inr (.inr (.inr (.inr (.inr (.inr (.inr (.inr (.inr (.inr (.inr (.inr (.inr (.inr (.inr (.inr (.inl t)))))))))))))))))))))))))))))))) → Wp w mdL_law (d + 13) 1208 [none, none, none, none, none, none, none] [] t o M') (he32 : ∀ t : Gm, out = .inr (.inr (.inr (.inr (.inr (.inr (.inr (.inr (.inr (.inr (.inr (.inr (.inr (.inr (.inr (.inr (.inr (.inr (.inr (.inr (.inr (.inr (.inr (.inr (.inr (.inr (.inr (.inr (.inr (.inr (.inr (.inr (.inr (.inl t))))))))))))))))))))))))))))))))) → Wp w mdL_law (d + 13) 1259 [none, none, none, none, none, none, none] [] t o M') (he33 : ∀ t : Gm, out = .inr (.inr (.inr (.inr (.inr (.inr (.inr (.inr (.inr (.inr (.inr (.inr (.inr (.inr (.inr (.inr (.inr (.inr (.inr (.inr (.inr (.inr (.inr (.inr (.inr (.inr (.inr (.inr (.inr (.inr (.inr (.inr (.inr (.inr (.inl t)))))))))))))))))))))))))))))))))) → Wp w mdL_law (d + 13) 1276 [none, none, none, none, none, none, none] [] t o M') (he34 : ∀ t : Gm, out = .inr (.inr (.inr (.inr (.inr (.inr (.inr (.inr (.inr (.inr (.inr (.inr (.inr (.inr (.inr (.inr (.inr (.inr (.inr (.inr (.inr (.inr (.inr (.inr (.inr (.inr (.inr (.inr (.inr (.inr (.inr (.inr (.inr (.inr (.inr (.inl t))))))))))))))))))))))))))))))))))) → Wp w mdL_law (d + 13) 1350 [none, none, none, none, none, none, none] [] t o M') (he35 : ∀ t : Gm, out = .inr (.inr (.inr (.inr (.inr (.inr (.inr (.inr (.inr (.inr (.inr (.inr (.inr (.inr (.inr (.inr (.inr (.inr (.inr (.inr (.inr (.inr (.inr (.inr (.inr (.inr (.inr (.inr (.inr (.inr (.inr (.inr (.inr (.inr (.inr (.inr (.inl t)))))))))))))))))))))))))))))))))))) → Wp w mdL_law (d + 13) 1367 [none, none, none, none, none, none, none] [] t o M') (he36 : ∀ t : Gm, out = .inr (.inr (.inr (.inr (.inr (.inr (.inr (.inr (.inr (.inr (.inr (.inr (.inr (.inr (.inr (.inr (.inr (.inr (.inr (.inr (.inr (.inr (.inr (.inr (.inr (.inr (.inr (.inr (.inr (.inr (.inr (.inr (.inr (.inr (.inr (.inr (.inr t)))))))))))))))))))))))))))))))))))) → Wp w mdL_law (d + 13) 1394 [none, none, none, none, none, none, none] [] t o M') : Wp w mdL_law (d + 13) 487 [some (.inr 1), some (.inr x1), some (.inr x2), some (.inr x3), some (.inl x4), none, none] [] M o M' := by
  unfold L_law_J487 at h
  refine wp_goto (tgt := 1396) dL_law_487 (by decide) ?_
  exact wp_ls (lsS (lsS (lsS (lsS (lsS (lsN (lsN lsZ))))))) (L_law_J1396_ok hX h hc he0 he1 he2 he3 he4 he5 he6 he7 he8 he9 he10 he11 he12 he13 he14 he15 he16 he17 he18 he19 he20 he21 he22 he23 he24 he25 he26 he27 he28 he29 he30 he31 he32 he33 he34 he35 he36)

theorem L_law_J555_ok {w : Gw} {d : Nat} {L : Nat} {xs : Nat → Int32} {x1 : Nat} {x2 : Nat} {x3 : Nat} {x4 : Int32} {M : Gm} (hX : va_X (rho w 1) L xs w.1 w.1.heap) {o : Go} {M' : Gm} {out : (Int32 × Gm) ⊕ Gm ⊕ Gm ⊕ Gm ⊕ Gm ⊕ Gm ⊕ Gm ⊕ Gm ⊕ Gm ⊕ Gm ⊕ Gm ⊕ Gm ⊕ Gm ⊕ Gm ⊕ Gm ⊕ Gm ⊕ Gm ⊕ Gm ⊕ Gm ⊕ Gm ⊕ Gm ⊕ Gm ⊕ Gm ⊕ Gm ⊕ Gm ⊕ Gm ⊕ Gm ⊕ Gm ⊕ Gm ⊕ Gm ⊕ Gm ⊕ Gm ⊕ Gm ⊕ Gm ⊕ Gm ⊕ Gm ⊕ Gm ⊕ Gm} (h : L_law_J555 L xs x1 x2 x3 x4 M = some out) (hc : ∀ t : Int32 × Gm, out = .inl t → Wp w mdL_law (d + 13) 23 [some (.inr 1), some (.inr x1), some (.inr x2), some (.inr x3), some (.inl t.1), none, none] [] t.2 o M') (he0 : ∀ t : Gm, out = .inr (.inl t) → Wp w mdL_law (d + 13) 1402 [none, none, none, none, none, none, none] [] t o M') (he1 : ∀ t : Gm, out = .inr (.inr (.inl t)) → Wp w mdL_law (d + 13) 227 [none, none, none, none, none, none, none] [] t o M') (he2 : ∀ t : Gm, out = .inr (.inr (.inr (.inl t))) → Wp w mdL_law (d + 13) 263 [none, none, none, none, none, none, none] [] t o M') (he3 : ∀ t : Gm, out = .inr (.inr (.inr (.inr (.inl t)))) → Wp w mdL_law (d + 13) 280 [none, none, none, none, none, none, none] [] t o M') (he4 : ∀ t : Gm, out = .inr (.inr (.inr (.inr (.inr (.inl t))))) → Wp w mdL_law (d + 13) 296 [none, none, none, none, none, none, none] [] t o M') (he5 : ∀ t : Gm, out = .inr (.inr (.inr (.inr (.inr (.inr (.inl t)))))) → Wp w mdL_law (d + 13) 332 [none, none, none, none, none, none, none] [] t o M') (he6 : ∀ t : Gm, out = .inr (.inr (.inr (.inr (.inr (.inr (.inr (.inl t))))))) → Wp w mdL_law (d + 13) 349 [none, none, none, none, none, none, none] [] t o M') (he7 : ∀ t : Gm, out = .inr (.inr (.inr (.inr (.inr (.inr (.inr (.inr (.inl t)))))))) → Wp w mdL_law (d + 13) 400 [none, none, none, none, none, none, none] [] t o M') (he8 : ∀ t : Gm, out = .inr (.inr (.inr (.inr (.inr (.inr (.inr (.inr (.inr (.inl t))))))))) → Wp w mdL_law (d + 13) 417 [none, none, none, none, none, none, none] [] t o M') (he9 : ∀ t : Gm, out = .inr (.inr (.inr (.inr (.inr (.inr (.inr (.inr (.inr (.inr (.inl t)))))))))) → Wp w mdL_law (d + 13) 468 [none, none, none, none, none, none, none] [] t o M') (he10 : ∀ t : Gm, out = .inr (.inr (.inr (.inr (.inr (.inr (.inr (.inr (.inr (.inr (.inr (.inl t))))))))))) → Wp w mdL_law (d + 13) 485 [none, none, none, none, none, none, none] [] t o M') (he11 : ∀ t : Gm, out = .inr (.inr (.inr (.inr (.inr (.inr (.inr (.inr (.inr (.inr (.inr (.inr (.inl t)))))))))))) → Wp w mdL_law (d + 13) 536 [none, none, none, none, none, none, none] [] t o M') (he12 : ∀ t : Gm, out = .inr (.inr (.inr (.inr (.inr (.inr (.inr (.inr (.inr (.inr (.inr (.inr (.inr (.inl t))))))))))))) → Wp w mdL_law (d + 13) 553 [none, none, none, none, none, none, none] [] t o M') (he13 : ∀ t : Gm, out = .inr (.inr (.inr (.inr (.inr (.inr (.inr (.inr (.inr (.inr (.inr (.inr (.inr (.inr (.inl t)))))))))))))) → Wp w mdL_law (d + 13) 616 [none, none, none, none, none, none, none] [] t o M') (he14 : ∀ t : Gm, out = .inr (.inr (.inr (.inr (.inr (.inr (.inr (.inr (.inr (.inr (.inr (.inr (.inr (.inr (.inr (.inl t))))))))))))))) → Wp w mdL_law (d + 13) 633 [none, none, none, none, none, none, none] [] t o M') (he15 : ∀ t : Gm, out = .inr (.inr (.inr (.inr (.inr (.inr (.inr (.inr (.inr (.inr (.inr (.inr (.inr (.inr (.inr (.inr (.inl t)))))))))))))))) → Wp w mdL_law (d + 13) 684 [none, none, none, none, none, none, none] [] t o M') (he16 : ∀ t : Gm, out = .inr (.inr (.inr (.inr (.inr (.inr (.inr (.inr (.inr (.inr (.inr (.inr (.inr (.inr (.inr (.inr (.inr (.inl t))))))))))))))))) → Wp w mdL_law (d + 13) 701 [none, none, none, none, none, none, none] [] t o M') (he17 : ∀ t : Gm, out = .inr (.inr (.inr (.inr (.inr (.inr (.inr (.inr (.inr (.inr (.inr (.inr (.inr (.inr (.inr (.inr (.inr (.inr (.inl t)))))))))))))))))) → Wp w mdL_law (d + 13) 764 [none, none, none, none, none, none, none] [] t o M') (he18 : ∀ t : Gm, out = .inr (.inr (.inr (.inr (.inr (.inr (.inr (.inr (.inr (.inr (.inr (.inr (.inr (.inr (.inr (.inr (.inr (.inr (.inr (.inl t))))))))))))))))))) → Wp w mdL_law (d + 13) 781 [none, none, none, none, none, none, none] [] t o M') (he19 : ∀ t : Gm, out = .inr (.inr (.inr (.inr (.inr (.inr (.inr (.inr (.inr (.inr (.inr (.inr (.inr (.inr (.inr (.inr (.inr (.inr (.inr (.inr (.inl t)))))))))))))))))))) → Wp w mdL_law (d + 13) 844 [none, none, none, none, none, none, none] [] t o M') (he20 : ∀ t : Gm, out = .inr (.inr (.inr (.inr (.inr (.inr (.inr (.inr (.inr (.inr (.inr (.inr (.inr (.inr (.inr (.inr (.inr (.inr (.inr (.inr (.inr (.inl t))))))))))))))))))))) → Wp w mdL_law (d + 13) 861 [none, none, none, none, none, none, none] [] t o M') (he21 : ∀ t : Gm, out = .inr (.inr (.inr (.inr (.inr (.inr (.inr (.inr (.inr (.inr (.inr (.inr (.inr (.inr (.inr (.inr (.inr (.inr (.inr (.inr (.inr (.inr (.inl t)))))))))))))))))))))) → Wp w mdL_law (d + 13) 912 [none, none, none, none, none, none, none] [] t o M') (he22 : ∀ t : Gm, out = .inr (.inr (.inr (.inr (.inr (.inr (.inr (.inr (.inr (.inr (.inr (.inr (.inr (.inr (.inr (.inr (.inr (.inr (.inr (.inr (.inr (.inr (.inr (.inl t))))))))))))))))))))))) → Wp w mdL_law (d + 13) 929 [none, none, none, none, none, none, none] [] t o M') (he23 : ∀ t : Gm, out = .inr (.inr (.inr (.inr (.inr (.inr (.inr (.inr (.inr (.inr (.inr (.inr (.inr (.inr (.inr (.inr (.inr (.inr (.inr (.inr (.inr (.inr (.inr (.inr (.inl t)))))))))))))))))))))))) → Wp w mdL_law (d + 13) 957 [none, none, none, none, none, none, none] [] t o M') (he24 : ∀ t : Gm, out = .inr (.inr (.inr (.inr (.inr (.inr (.inr (.inr (.inr (.inr (.inr (.inr (.inr (.inr (.inr (.inr (.inr (.inr (.inr (.inr (.inr (.inr (.inr (.inr (.inr (.inl t))))))))))))))))))))))))) → Wp w mdL_law (d + 13) 994 [none, none, none, none, none, none, none] [] t o M') (he25 : ∀ t : Gm, out = .inr (.inr (.inr (.inr (.inr (.inr (.inr (.inr (.inr (.inr (.inr (.inr (.inr (.inr (.inr (.inr (.inr (.inr (.inr (.inr (.inr (.inr (.inr (.inr (.inr (.inr (.inl t)))))))))))))))))))))))))) → Wp w mdL_law (d + 13) 1031 [none, none, none, none, none, none, none] [] t o M') (he26 : ∀ t : Gm, out = .inr (.inr (.inr (.inr (.inr (.inr (.inr (.inr (.inr (.inr (.inr (.inr (.inr (.inr (.inr (.inr (.inr (.inr (.inr (.inr (.inr (.inr (.inr (.inr (.inr (.inr (.inr (.inl t))))))))))))))))))))))))))) → Wp w mdL_law (d + 13) 1056 [none, none, none, none, none, none, none] [] t o M') (he27 : ∀ t : Gm, out = .inr (.inr (.inr (.inr (.inr (.inr (.inr (.inr (.inr (.inr (.inr (.inr (.inr (.inr (.inr (.inr (.inr (.inr (.inr (.inr (.inr (.inr (.inr (.inr (.inr (.inr (.inr (.inr (.inl t)))))))))))))))))))))))))))) → Wp w mdL_law (d + 13) 1081 [none, none, none, none, none, none, none] [] t o M') (he28 : ∀ t : Gm, out = .inr (.inr (.inr (.inr (.inr (.inr (.inr (.inr (.inr (.inr (.inr (.inr (.inr (.inr (.inr (.inr (.inr (.inr (.inr (.inr (.inr (.inr (.inr (.inr (.inr (.inr (.inr (.inr (.inr (.inl t))))))))))))))))))))))))))))) → Wp w mdL_law (d + 13) 1094 [none, none, none, none, none, none, none] [] t o M') (he29 : ∀ t : Gm, out = .inr (.inr (.inr (.inr (.inr (.inr (.inr (.inr (.inr (.inr (.inr (.inr (.inr (.inr (.inr (.inr (.inr (.inr (.inr (.inr (.inr (.inr (.inr (.inr (.inr (.inr (.inr (.inr (.inr (.inr (.inl t)))))))))))))))))))))))))))))) → Wp w mdL_law (d + 13) 1143 [none, none, none, none, none, none, none] [] t o M') (he30 : ∀ t : Gm, out = .inr (.inr (.inr (.inr (.inr (.inr (.inr (.inr (.inr (.inr (.inr (.inr (.inr (.inr (.inr (.inr (.inr (.inr (.inr (.inr (.inr (.inr (.inr (.inr (.inr (.inr (.inr (.inr (.inr (.inr (.inr (.inl t))))))))))))))))))))))))))))))) → Wp w mdL_law (d + 13) 1191 [none, none, none, none, none, none, none] [] t o M') (he31 : ∀ t : Gm, out = .inr (.inr (.inr (.inr (.inr (.inr (.inr (.inr (.inr (.inr (.inr (.inr (.inr (.inr (.inr (.inr (.inr (.inr (.inr (.inr (.inr (.inr (.inr (.inr (.inr (.inr (.inr (.inr (.inr (.inr (.inr (.inr (.inl t)))))))))))))))))))))))))))))))) → Wp w mdL_law (d + 13) 1208 [none, none, none, none, none, none, none] [] t o M') (he32 : ∀ t : Gm, out = .inr (.inr (.inr (.inr (.inr (.inr (.inr (.inr (.inr (.inr (.inr (.inr (.inr (.inr (.inr (.inr (.inr (.inr (.inr (.inr (.inr (.inr (.inr (.inr (.inr (.inr (.inr (.inr (.inr (.inr (.inr (.inr (.inr (.inl t))))))))))))))))))))))))))))))))) → Wp w mdL_law (d + 13) 1259 [none, none, none, none, none, none, none] [] t o M') (he33 : ∀ t : Gm, out = .inr (.inr (.inr (.inr (.inr (.inr (.inr (.inr (.inr (.inr (.inr (.inr (.inr (.inr (.inr (.inr (.inr (.inr (.inr (.inr (.inr (.inr (.inr (.inr (.inr (.inr (.inr (.inr (.inr (.inr (.inr (.inr (.inr (.inr (.inl t)))))))))))))))))))))))))))))))))) → Wp w mdL_law (d + 13) 1276 [none, none, none, none, none, none, none] [] t o M') (he34 : ∀ t : Gm, out = .inr (.inr (.inr (.inr (.inr (.inr (.inr (.inr (.inr (.inr (.inr (.inr (.inr (.inr (.inr (.inr (.inr (.inr (.inr (.inr (.inr (.inr (.inr (.inr (.inr (.inr (.inr (.inr (.inr (.inr (.inr (.inr (.inr (.inr (.inr (.inl t))))))))))))))))))))))))))))))))))) → Wp w mdL_law (d + 13) 1350 [none, none, none, none, none, none, none] [] t o M') (he35 : ∀ t : Gm, out = .inr (.inr (.inr (.inr (.inr (.inr (.inr (.inr (.inr (.inr (.inr (.inr (.inr (.inr (.inr (.inr (.inr (.inr (.inr (.inr (.inr (.inr (.inr (.inr (.inr (.inr (.inr (.inr (.inr (.inr (.inr (.inr (.inr (.inr (.inr (.inr (.inl t)))))))))))))))))))))))))))))))))))) → Wp w mdL_law (d + 13) 1367 [none, none, none, none, none, none, none] [] t o M') (he36 : ∀ t : Gm, out = .inr (.inr (.inr (.inr (.inr (.inr (.inr (.inr (.inr (.inr (.inr (.inr (.inr (.inr (.inr (.inr (.inr (.inr (.inr (.inr (.inr (.inr (.inr (.inr (.inr (.inr (.inr (.inr (.inr (.inr (.inr (.inr (.inr (.inr (.inr (.inr (.inr t)))))))))))))))))))))))))))))))))))) → Wp w mdL_law (d + 13) 1394 [none, none, none, none, none, none, none] [] t o M') : Wp w mdL_law (d + 13) 555 [some (.inr 1), some (.inr x1), some (.inr x2), some (.inr x3), some (.inl x4), none, none] [] M o M' := by
  unfold L_law_J555 at h
  refine wp_goto (tgt := 1396) dL_law_555 (by decide) ?_
  exact wp_ls (lsS (lsS (lsS (lsS (lsS (lsN (lsN lsZ))))))) (L_law_J1396_ok hX h hc he0 he1 he2 he3 he4 he5 he6 he7 he8 he9 he10 he11 he12 he13 he14 he15 he16 he17 he18 he19 he20 he21 he22 he23 he24 he25 he26 he27 he28 he29 he30 he31 he32 he33 he34 he35 he36)

theorem L_law_J635_ok {w : Gw} {d : Nat} {L : Nat} {xs : Nat → Int32} {x1 : Nat} {x2 : Nat} {x3 : Nat} {x4 : Int32} {M : Gm} (hX : va_X (rho w 1) L xs w.1 w.1.heap) {o : Go} {M' : Gm} {out : (Int32 × Gm) ⊕ Gm ⊕ Gm ⊕ Gm ⊕ Gm ⊕ Gm ⊕ Gm ⊕ Gm ⊕ Gm ⊕ Gm ⊕ Gm ⊕ Gm ⊕ Gm ⊕ Gm ⊕ Gm ⊕ Gm ⊕ Gm ⊕ Gm ⊕ Gm ⊕ Gm ⊕ Gm ⊕ Gm ⊕ Gm ⊕ Gm ⊕ Gm ⊕ Gm ⊕ Gm ⊕ Gm ⊕ Gm ⊕ Gm ⊕ Gm ⊕ Gm ⊕ Gm ⊕ Gm ⊕ Gm ⊕ Gm ⊕ Gm ⊕ Gm} (h : L_law_J635 L xs x1 x2 x3 x4 M = some out) (hc : ∀ t : Int32 × Gm, out = .inl t → Wp w mdL_law (d + 13) 23 [some (.inr 1), some (.inr x1), some (.inr x2), some (.inr x3), some (.inl t.1), none, none] [] t.2 o M') (he0 : ∀ t : Gm, out = .inr (.inl t) → Wp w mdL_law (d + 13) 1402 [none, none, none, none, none, none, none] [] t o M') (he1 : ∀ t : Gm, out = .inr (.inr (.inl t)) → Wp w mdL_law (d + 13) 227 [none, none, none, none, none, none, none] [] t o M') (he2 : ∀ t : Gm, out = .inr (.inr (.inr (.inl t))) → Wp w mdL_law (d + 13) 263 [none, none, none, none, none, none, none] [] t o M') (he3 : ∀ t : Gm, out = .inr (.inr (.inr (.inr (.inl t)))) → Wp w mdL_law (d + 13) 280 [none, none, none, none, none, none, none] [] t o M') (he4 : ∀ t : Gm, out = .inr (.inr (.inr (.inr (.inr (.inl t))))) → Wp w mdL_law (d + 13) 296 [none, none, none, none, none, none, none] [] t o M') (he5 : ∀ t : Gm, out = .inr (.inr (.inr (.inr (.inr (.inr (.inl t)))))) → Wp w mdL_law (d + 13) 332 [none, none, none, none, none, none, none] [] t o M') (he6 : ∀ t : Gm, out = .inr (.inr (.inr (.inr (.inr (.inr (.inr (.inl t))))))) → Wp w mdL_law (d + 13) 349 [none, none, none, none, none, none, none] [] t o M') (he7 : ∀ t : Gm, out = .inr (.inr (.inr (.inr (.inr (.inr (.inr (.inr (.inl t)))))))) → Wp w mdL_law (d + 13) 400 [none, none, none, none, none, none, none] [] t o M') (he8 : ∀ t : Gm, out = .inr (.inr (.inr (.inr (.inr (.inr (.inr (.inr (.inr (.inl t))))))))) → Wp w mdL_law (d + 13) 417 [none, none, none, none, none, none, none] [] t o M') (he9 : ∀ t : Gm, out = .inr (.inr (.inr (.inr (.inr (.inr (.inr (.inr (.inr (.inr (.inl t)))))))))) → Wp w mdL_law (d + 13) 468 [none, none, none, none, none, none, none] [] t o M') (he10 : ∀ t : Gm, out = .inr (.inr (.inr (.inr (.inr (.inr (.inr (.inr (.inr (.inr (.inr (.inl t))))))))))) → Wp w mdL_law (d + 13) 485 [none, none, none, none, none, none, none] [] t o M') (he11 : ∀ t : Gm, out = .inr (.inr (.inr (.inr (.inr (.inr (.inr (.inr (.inr (.inr (.inr (.inr (.inl t)))))))))))) → Wp w mdL_law (d + 13) 536 [none, none, none, none, none, none, none] [] t o M') (he12 : ∀ t : Gm, out = .inr (.inr (.inr (.inr (.inr (.inr (.inr (.inr (.inr (.inr (.inr (.inr (.inr (.inl t))))))))))))) → Wp w mdL_law (d + 13) 553 [none, none, none, none, none, none, none] [] t o M') (he13 : ∀ t : Gm, out = .inr (.inr (.inr (.inr (.inr (.inr (.inr (.inr (.inr (.inr (.inr (.inr (.inr (.inr (.inl t)))))))))))))) → Wp w mdL_law (d + 13) 616 [none, none, none, none, none, none, none] [] t o M') (he14 : ∀ t : Gm, out = .inr (.inr (.inr (.inr (.inr (.inr (.inr (.inr (.inr (.inr (.inr (.inr (.inr (.inr (.inr (.inl t))))))))))))))) → Wp w mdL_law (d + 13) 633 [none, none, none, none, none, none, none] [] t o M') (he15 : ∀ t : Gm, out = .inr (.inr (.inr (.inr (.inr (.inr (.inr (.inr (.inr (.inr (.inr (.inr (.inr (.inr (.inr (.inr (.inl t)))))))))))))))) → Wp w mdL_law (d + 13) 684 [none, none, none, none, none, none, none] [] t o M') (he16 : ∀ t : Gm, out = .inr (.inr (.inr (.inr (.inr (.inr (.inr (.inr (.inr (.inr (.inr (.inr (.inr (.inr (.inr (.inr (.inr (.inl t))))))))))))))))) → Wp w mdL_law (d + 13) 701 [none, none, none, none, none, none, none] [] t o M') (he17 : ∀ t : Gm, out = .inr (.inr (.inr (.inr (.inr (.inr (.inr (.inr (.inr (.inr (.inr (.inr (.inr (.inr (.inr (.inr (.inr (.inr (.inl t)))))))))))))))))) → Wp w mdL_law (d + 13) 764 [none, none, none, none, none, none, none] [] t o M') (he18 : ∀ t : Gm, out = .inr (.inr (.inr (.inr (.inr (.inr (.inr (.inr (.inr (.inr (.inr (.inr (.inr (.inr (.inr (.inr (.inr (.inr (.inr (.inl t))))))))))))))))))) → Wp w mdL_law (d + 13) 781 [none, none, none, none, none, none, none] [] t o M') (he19 : ∀ t : Gm, out = .inr (.inr (.inr (.inr (.inr (.inr (.inr (.inr (.inr (.inr (.inr (.inr (.inr (.inr (.inr (.inr (.inr (.inr (.inr (.inr (.inl t)))))))))))))))))))) → Wp w mdL_law (d + 13) 844 [none, none, none, none, none, none, none] [] t o M') (he20 : ∀ t : Gm, out = .inr (.inr (.inr (.inr (.inr (.inr (.inr (.inr (.inr (.inr (.inr (.inr (.inr (.inr (.inr (.inr (.inr (.inr (.inr (.inr (.inr (.inl t))))))))))))))))))))) → Wp w mdL_law (d + 13) 861 [none, none, none, none, none, none, none] [] t o M') (he21 : ∀ t : Gm, out = .inr (.inr (.inr (.inr (.inr (.inr (.inr (.inr (.inr (.inr (.inr (.inr (.inr (.inr (.inr (.inr (.inr (.inr (.inr (.inr (.inr (.inr (.inl t)))))))))))))))))))))) → Wp w mdL_law (d + 13) 912 [none, none, none, none, none, none, none] [] t o M') (he22 : ∀ t : Gm, out = .inr (.inr (.inr (.inr (.inr (.inr (.inr (.inr (.inr (.inr (.inr (.inr (.inr (.inr (.inr (.inr (.inr (.inr (.inr (.inr (.inr (.inr (.inr (.inl t))))))))))))))))))))))) → Wp w mdL_law (d + 13) 929 [none, none, none, none, none, none, none] [] t o M') (he23 : ∀ t : Gm, out = .inr (.inr (.inr (.inr (.inr (.inr (.inr (.inr (.inr (.inr (.inr (.inr (.inr (.inr (.inr (.inr (.inr (.inr (.inr (.inr (.inr (.inr (.inr (.inr (.inl t)))))))))))))))))))))))) → Wp w mdL_law (d + 13) 957 [none, none, none, none, none, none, none] [] t o M') (he24 : ∀ t : Gm, out = .inr (.inr (.inr (.inr (.inr (.inr (.inr (.inr (.inr (.inr (.inr (.inr (.inr (.inr (.inr (.inr (.inr (.inr (.inr (.inr (.inr (.inr (.inr (.inr (.inr (.inl t))))))))))))))))))))))))) → Wp w mdL_law (d + 13) 994 [none, none, none, none, none, none, none] [] t o M') (he25 : ∀ t : Gm, out = .inr (.inr (.inr (.inr (.inr (.inr (.inr (.inr (.inr (.inr (.inr (.inr (.inr (.inr (.inr (.inr (.inr (.inr (.inr (.inr (.inr (.inr (.inr (.inr (.inr (.inr (.inl t)))))))))))))))))))))))))) → Wp w mdL_law (d + 13) 1031 [none, none, none, none, none, none, none] [] t o M') (he26 : ∀ t : Gm, out = .inr (.inr (.inr (.inr (.inr (.inr (.inr (.inr (.inr (.inr (.inr (.inr (.inr (.inr (.inr (.inr (.inr (.inr (.inr (.inr (.inr (.inr (.inr (.inr (.inr (.inr (.inr (.inl t))))))))))))))))))))))))))) → Wp w mdL_law (d + 13) 1056 [none, none, none, none, none, none, none] [] t o M') (he27 : ∀ t : Gm, out = .inr (.inr (.inr (.inr (.inr (.inr (.inr (.inr (.inr (.inr (.inr (.inr (.inr (.inr (.inr (.inr (.inr (.inr (.inr (.inr (.inr (.inr (.inr (.inr (.inr (.inr (.inr (.inr (.inl t)))))))))))))))))))))))))))) → Wp w mdL_law (d + 13) 1081 [none, none, none, none, none, none, none] [] t o M') (he28 : ∀ t : Gm, out = .inr (.inr (.inr (.inr (.inr (.inr (.inr (.inr (.inr (.inr (.inr (.inr (.inr (.inr (.inr (.inr (.inr (.inr (.inr (.inr (.inr (.inr (.inr (.inr (.inr (.inr (.inr (.inr (.inr (.inl t))))))))))))))))))))))))))))) → Wp w mdL_law (d + 13) 1094 [none, none, none, none, none, none, none] [] t o M') (he29 : ∀ t : Gm, out = .inr (.inr (.inr (.inr (.inr (.inr (.inr (.inr (.inr (.inr (.inr (.inr (.inr (.inr (.inr (.inr (.inr (.inr (.inr (.inr (.inr (.inr (.inr (.inr (.inr (.inr (.inr (.inr (.inr (.inr (.inl t)))))))))))))))))))))))))))))) → Wp w mdL_law (d + 13) 1143 [none, none, none, none, none, none, none] [] t o M') (he30 : ∀ t : Gm, out = .inr (.inr (.inr (.inr (.inr (.inr (.inr (.inr (.inr (.inr (.inr (.inr (.inr (.inr (.inr (.inr (.inr (.inr (.inr (.inr (.inr (.inr (.inr (.inr (.inr (.inr (.inr (.inr (.inr (.inr (.inr (.inl t))))))))))))))))))))))))))))))) → Wp w mdL_law (d + 13) 1191 [none, none, none, none, none, none, none] [] t o M') (he31 : ∀ t : Gm, out = .inr (.inr (.inr (.inr (.inr (.inr (.inr (.inr (.inr (.inr (.inr (.inr (.inr (.inr (.inr (.inr (.inr (.inr (.inr (.inr (.inr (.inr (.inr (.inr (.inr (.inr (.inr (.inr (.inr (.inr (.inr (.inr (.inl t)))))))))))))))))))))))))))))))) → Wp w mdL_law (d + 13) 1208 [none, none, none, none, none, none, none] [] t o M') (he32 : ∀ t : Gm, out = .inr (.inr (.inr (.inr (.inr (.inr (.inr (.inr (.inr (.inr (.inr (.inr (.inr (.inr (.inr (.inr (.inr (.inr (.inr (.inr (.inr (.inr (.inr (.inr (.inr (.inr (.inr (.inr (.inr (.inr (.inr (.inr (.inr (.inl t))))))))))))))))))))))))))))))))) → Wp w mdL_law (d + 13) 1259 [none, none, none, none, none, none, none] [] t o M') (he33 : ∀ t : Gm, out = .inr (.inr (.inr (.inr (.inr (.inr (.inr (.inr (.inr (.inr (.inr (.inr (.inr (.inr (.inr (.inr (.inr (.inr (.inr (.inr (.inr (.inr (.inr (.inr (.inr (.inr (.inr (.inr (.inr (.inr (.inr (.inr (.inr (.inr (.inl t)))))))))))))))))))))))))))))))))) → Wp w mdL_law (d + 13) 1276 [none, none, none, none, none, none, none] [] t o M') (he34 : ∀ t : Gm, out = .inr (.inr (.inr (.inr (.inr (.inr (.inr (.inr (.inr (.inr (.inr (.inr (.inr (.inr (.inr (.inr (.inr (.inr (.inr (.inr (.inr (.inr (.inr (.inr (.inr (.inr (.inr (.inr (.inr (.inr (.inr (.inr (.inr (.inr (.inr (.inl t))))))))))))))))))))))))))))))))))) → Wp w mdL_law (d + 13) 1350 [none, none, none, none, none, none, none] [] t o M') (he35 : ∀ t : Gm, out = .inr (.inr (.inr (.inr (.inr (.inr (.inr (.inr (.inr (.inr (.inr (.inr (.inr (.inr (.inr (.inr (.inr (.inr (.inr (.inr (.inr (.inr (.inr (.inr (.inr (.inr (.inr (.inr (.inr (.inr (.inr (.inr (.inr (.inr (.inr (.inr (.inl t)))))))))))))))))))))))))))))))))))) → Wp w mdL_law (d + 13) 1367 [none, none, none, none, none, none, none] [] t o M') (he36 : ∀ t : Gm, out = .inr (.inr (.inr (.inr (.inr (.inr (.inr (.inr (.inr (.inr (.inr (.inr (.inr (.inr (.inr (.inr (.inr (.inr (.inr (.inr (.inr (.inr (.inr (.inr (.inr (.inr (.inr (.inr (.inr (.inr (.inr (.inr (.inr (.inr (.inr (.inr (.inr t)))))))))))))))))))))))))))))))))))) → Wp w mdL_law (d + 13) 1394 [none, none, none, none, none, none, none] [] t o M') : Wp w mdL_law (d + 13) 635 [some (.inr 1), some (.inr x1), some (.inr x2), some (.inr x3), some (.inl x4), none, none] [] M o M' := by
  unfold L_law_J635 at h
  refine wp_goto (tgt := 1396) dL_law_635 (by decide) ?_
  exact wp_ls (lsS (lsS (lsS (lsS (lsS (lsN (lsN lsZ))))))) (L_law_J1396_ok hX h hc he0 he1 he2 he3 he4 he5 he6 he7 he8 he9 he10 he11 he12 he13 he14 he15 he16 he17 he18 he19 he20 he21 he22 he23 he24 he25 he26 he27 he28 he29 he30 he31 he32 he33 he34 he35 he36)

theorem L_law_J703_ok {w : Gw} {d : Nat} {L : Nat} {xs : Nat → Int32} {x1 : Nat} {x2 : Nat} {x3 : Nat} {x4 : Int32} {M : Gm} (hX : va_X (rho w 1) L xs w.1 w.1.heap) {o : Go} {M' : Gm} {out : (Int32 × Gm) ⊕ Gm ⊕ Gm ⊕ Gm ⊕ Gm ⊕ Gm ⊕ Gm ⊕ Gm ⊕ Gm ⊕ Gm ⊕ Gm ⊕ Gm ⊕ Gm ⊕ Gm ⊕ Gm ⊕ Gm ⊕ Gm ⊕ Gm ⊕ Gm ⊕ Gm ⊕ Gm ⊕ Gm ⊕ Gm ⊕ Gm ⊕ Gm ⊕ Gm ⊕ Gm ⊕ Gm ⊕ Gm ⊕ Gm ⊕ Gm ⊕ Gm ⊕ Gm ⊕ Gm ⊕ Gm ⊕ Gm ⊕ Gm ⊕ Gm} (h : L_law_J703 L xs x1 x2 x3 x4 M = some out) (hc : ∀ t : Int32 × Gm, out = .inl t → Wp w mdL_law (d + 13) 23 [some (.inr 1), some (.inr x1), some (.inr x2), some (.inr x3), some (.inl t.1), none, none] [] t.2 o M') (he0 : ∀ t : Gm, out = .inr (.inl t) → Wp w mdL_law (d + 13) 1402 [none, none, none, none, none, none, none] [] t o M') (he1 : ∀ t : Gm, out = .inr (.inr (.inl t)) → Wp w mdL_law (d + 13) 227 [none, none, none, none, none, none, none] [] t o M') (he2 : ∀ t : Gm, out = .inr (.inr (.inr (.inl t))) → Wp w mdL_law (d + 13) 263 [none, none, none, none, none, none, none] [] t o M') (he3 : ∀ t : Gm, out = .inr (.inr (.inr (.inr (.inl t)))) → Wp w mdL_law (d + 13) 280 [none, none, none, none, none, none, none] [] t o M') (he4 : ∀ t : Gm, out = .inr (.inr (.inr (.inr (.inr (.inl t))))) → Wp w mdL_law (d + 13) 296 [none, none, none, none, none, none, none] [] t o M') (he5 : ∀ t : Gm, out = .inr (.inr (.inr (.inr (.inr (.inr (.inl t)))))) → Wp w mdL_law (d + 13) 332 [none, none, none, none, none, none, none] [] t o M') (he6 : ∀ t : Gm, out = .inr (.inr (.inr (.inr (.inr (.inr (.inr (.inl t))))))) → Wp w mdL_law (d + 13) 349 [none, none, none, none, none, none, none] [] t o M') (he7 : ∀ t : Gm, out = .inr (.inr (.inr (.inr (.inr (.inr (.inr (.inr (.inl t)))))))) → Wp w mdL_law (d + 13) 400 [none, none, none, none, none, none, none] [] t o M') (he8 : ∀ t : Gm, out = .inr (.inr (.inr (.inr (.inr (.inr (.inr (.inr (.inr (.inl t))))))))) → Wp w mdL_law (d + 13) 417 [none, none, none, none, none, none, none] [] t o M') (he9 : ∀ t : Gm, out = .inr (.inr (.inr (.inr (.inr (.inr (.inr (.inr (.inr (.inr (.inl t)))))))))) → Wp w mdL_law (d + 13) 468 [none, none, none, none, none, none, none] [] t o M') (he10 : ∀ t : Gm, out = .inr (.inr (.inr (.inr (.inr (.inr (.inr (.inr (.inr (.inr (.inr (.inl t))))))))))) → Wp w mdL_law (d + 13) 485 [none, none, none, none, none, none, none] [] t o M') (he11 : ∀ t : Gm, out = .inr (.inr (.inr (.inr (.inr (.inr (.inr (.inr (.inr (.inr (.inr (.inr (.inl t)))))))))))) → Wp w mdL_law (d + 13) 536 [none, none, none, none, none, none, none] [] t o M') (he12 : ∀ t : Gm, out = .inr (.inr (.inr (.inr (.inr (.inr (.inr (.inr (.inr (.inr (.inr (.inr (.inr (.inl t))))))))))))) → Wp w mdL_law (d + 13) 553 [none, none, none, none, none, none, none] [] t o M') (he13 : ∀ t : Gm, out = .inr (.inr (.inr (.inr (.inr (.inr (.inr (.inr (.inr (.inr (.inr (.inr (.inr (.inr (.inl t)))))))))))))) → Wp w mdL_law (d + 13) 616 [none, none, none, none, none, none, none] [] t o M') (he14 : ∀ t : Gm, out = .inr (.inr (.inr (.inr (.inr (.inr (.inr (.inr (.inr (.inr (.inr (.inr (.inr (.inr (.inr (.inl t))))))))))))))) → Wp w mdL_law (d + 13) 633 [none, none, none, none, none, none, none] [] t o M') (he15 : ∀ t : Gm, out = .inr (.inr (.inr (.inr (.inr (.inr (.inr (.inr (.inr (.inr (.inr (.inr (.inr (.inr (.inr (.inr (.inl t)))))))))))))))) → Wp w mdL_law (d + 13) 684 [none, none, none, none, none, none, none] [] t o M') (he16 : ∀ t : Gm, out = .inr (.inr (.inr (.inr (.inr (.inr (.inr (.inr (.inr (.inr (.inr (.inr (.inr (.inr (.inr (.inr (.inr (.inl t))))))))))))))))) → Wp w mdL_law (d + 13) 701 [none, none, none, none, none, none, none] [] t o M') (he17 : ∀ t : Gm, out = .inr (.inr (.inr (.inr (.inr (.inr (.inr (.inr (.inr (.inr (.inr (.inr (.inr (.inr (.inr (.inr (.inr (.inr (.inl t)))))))))))))))))) → Wp w mdL_law (d + 13) 764 [none, none, none, none, none, none, none] [] t o M') (he18 : ∀ t : Gm, out = .inr (.inr (.inr (.inr (.inr (.inr (.inr (.inr (.inr (.inr (.inr (.inr (.inr (.inr (.inr (.inr (.inr (.inr (.inr (.inl t))))))))))))))))))) → Wp w mdL_law (d + 13) 781 [none, none, none, none, none, none, none] [] t o M') (he19 : ∀ t : Gm, out = .inr (.inr (.inr (.inr (.inr (.inr (.inr (.inr (.inr (.inr (.inr (.inr (.inr (.inr (.inr (.inr (.inr (.inr (.inr (.inr (.inl t)))))))))))))))))))) → Wp w mdL_law (d + 13) 844 [none, none, none, none, none, none, none] [] t o M') (he20 : ∀ t : Gm, out = .inr (.inr (.inr (.inr (.inr (.inr (.inr (.inr (.inr (.inr (.inr (.inr (.inr (.inr (.inr (.inr (.inr (.inr (.inr (.inr (.inr (.inl t))))))))))))))))))))) → Wp w mdL_law (d + 13) 861 [none, none, none, none, none, none, none] [] t o M') (he21 : ∀ t : Gm, out = .inr (.inr (.inr (.inr (.inr (.inr (.inr (.inr (.inr (.inr (.inr (.inr (.inr (.inr (.inr (.inr (.inr (.inr (.inr (.inr (.inr (.inr (.inl t)))))))))))))))))))))) → Wp w mdL_law (d + 13) 912 [none, none, none, none, none, none, none] [] t o M') (he22 : ∀ t : Gm, out = .inr (.inr (.inr (.inr (.inr (.inr (.inr (.inr (.inr (.inr (.inr (.inr (.inr (.inr (.inr (.inr (.inr (.inr (.inr (.inr (.inr (.inr (.inr (.inl t))))))))))))))))))))))) → Wp w mdL_law (d + 13) 929 [none, none, none, none, none, none, none] [] t o M') (he23 : ∀ t : Gm, out = .inr (.inr (.inr (.inr (.inr (.inr (.inr (.inr (.inr (.inr (.inr (.inr (.inr (.inr (.inr (.inr (.inr (.inr (.inr (.inr (.inr (.inr (.inr (.inr (.inl t)))))))))))))))))))))))) → Wp w mdL_law (d + 13) 957 [none, none, none, none, none, none, none] [] t o M') (he24 : ∀ t : Gm, out = .inr (.inr (.inr (.inr (.inr (.inr (.inr (.inr (.inr (.inr (.inr (.inr (.inr (.inr (.inr (.inr (.inr (.inr (.inr (.inr (.inr (.inr (.inr (.inr (.inr (.inl t))))))))))))))))))))))))) → Wp w mdL_law (d + 13) 994 [none, none, none, none, none, none, none] [] t o M') (he25 : ∀ t : Gm, out = .inr (.inr (.inr (.inr (.inr (.inr (.inr (.inr (.inr (.inr (.inr (.inr (.inr (.inr (.inr (.inr (.inr (.inr (.inr (.inr (.inr (.inr (.inr (.inr (.inr (.inr (.inl t)))))))))))))))))))))))))) → Wp w mdL_law (d + 13) 1031 [none, none, none, none, none, none, none] [] t o M') (he26 : ∀ t : Gm, out = .inr (.inr (.inr (.inr (.inr (.inr (.inr (.inr (.inr (.inr (.inr (.inr (.inr (.inr (.inr (.inr (.inr (.inr (.inr (.inr (.inr (.inr (.inr (.inr (.inr (.inr (.inr (.inl t))))))))))))))))))))))))))) → Wp w mdL_law (d + 13) 1056 [none, none, none, none, none, none, none] [] t o M') (he27 : ∀ t : Gm, out = .inr (.inr (.inr (.inr (.inr (.inr (.inr (.inr (.inr (.inr (.inr (.inr (.inr (.inr (.inr (.inr (.inr (.inr (.inr (.inr (.inr (.inr (.inr (.inr (.inr (.inr (.inr (.inr (.inl t)))))))))))))))))))))))))))) → Wp w mdL_law (d + 13) 1081 [none, none, none, none, none, none, none] [] t o M') (he28 : ∀ t : Gm, out = .inr (.inr (.inr (.inr (.inr (.inr (.inr (.inr (.inr (.inr (.inr (.inr (.inr (.inr (.inr (.inr (.inr (.inr (.inr (.inr (.inr (.inr (.inr (.inr (.inr (.inr (.inr (.inr (.inr (.inl t))))))))))))))))))))))))))))) → Wp w mdL_law (d + 13) 1094 [none, none, none, none, none, none, none] [] t o M') (he29 : ∀ t : Gm, out = .inr (.inr (.inr (.inr (.inr (.inr (.inr (.inr (.inr (.inr (.inr (.inr (.inr (.inr (.inr (.inr (.inr (.inr (.inr (.inr (.inr (.inr (.inr (.inr (.inr (.inr (.inr (.inr (.inr (.inr (.inl t)))))))))))))))))))))))))))))) → Wp w mdL_law (d + 13) 1143 [none, none, none, none, none, none, none] [] t o M') (he30 : ∀ t : Gm, out = .inr (.inr (.inr (.inr (.inr (.inr (.inr (.inr (.inr (.inr (.inr (.inr (.inr (.inr (.inr (.inr (.inr (.inr (.inr (.inr (.inr (.inr (.inr (.inr (.inr (.inr (.inr (.inr (.inr (.inr (.inr (.inl t))))))))))))))))))))))))))))))) → Wp w mdL_law (d + 13) 1191 [none, none, none, none, none, none, none] [] t o M') (he31 : ∀ t : Gm, out = .inr (.inr (.inr (.inr (.inr (.inr (.inr (.inr (.inr (.inr (.inr (.inr (.inr (.inr (.inr (.inr (.inr (.inr (.inr (.inr (.inr (.inr (.inr (.inr (.inr (.inr (.inr (.inr (.inr (.inr (.inr (.inr (.inl t)))))))))))))))))))))))))))))))) → Wp w mdL_law (d + 13) 1208 [none, none, none, none, none, none, none] [] t o M') (he32 : ∀ t : Gm, out = .inr (.inr (.inr (.inr (.inr (.inr (.inr (.inr (.inr (.inr (.inr (.inr (.inr (.inr (.inr (.inr (.inr (.inr (.inr (.inr (.inr (.inr (.inr (.inr (.inr (.inr (.inr (.inr (.inr (.inr (.inr (.inr (.inr (.inl t))))))))))))))))))))))))))))))))) → Wp w mdL_law (d + 13) 1259 [none, none, none, none, none, none, none] [] t o M') (he33 : ∀ t : Gm, out = .inr (.inr (.inr (.inr (.inr (.inr (.inr (.inr (.inr (.inr (.inr (.inr (.inr (.inr (.inr (.inr (.inr (.inr (.inr (.inr (.inr (.inr (.inr (.inr (.inr (.inr (.inr (.inr (.inr (.inr (.inr (.inr (.inr (.inr (.inl t)))))))))))))))))))))))))))))))))) → Wp w mdL_law (d + 13) 1276 [none, none, none, none, none, none, none] [] t o M') (he34 : ∀ t : Gm, out = .inr (.inr (.inr (.inr (.inr (.inr (.inr (.inr (.inr (.inr (.inr (.inr (.inr (.inr (.inr (.inr (.inr (.inr (.inr (.inr (.inr (.inr (.inr (.inr (.inr (.inr (.inr (.inr (.inr (.inr (.inr (.inr (.inr (.inr (.inr (.inl t))))))))))))))))))))))))))))))))))) → Wp w mdL_law (d + 13) 1350 [none, none, none, none, none, none, none] [] t o M') (he35 : ∀ t : Gm, out = .inr (.inr (.inr (.inr (.inr (.inr (.inr (.inr (.inr (.inr (.inr (.inr (.inr (.inr (.inr (.inr (.inr (.inr (.inr (.inr (.inr (.inr (.inr (.inr (.inr (.inr (.inr (.inr (.inr (.inr (.inr (.inr (.inr (.inr (.inr (.inr (.inl t)))))))))))))))))))))))))))))))))))) → Wp w mdL_law (d + 13) 1367 [none, none, none, none, none, none, none] [] t o M') (he36 : ∀ t : Gm, out = .inr (.inr (.inr (.inr (.inr (.inr (.inr (.inr (.inr (.inr (.inr (.inr (.inr (.inr (.inr (.inr (.inr (.inr (.inr (.inr (.inr (.inr (.inr (.inr (.inr (.inr (.inr (.inr (.inr (.inr (.inr (.inr (.inr (.inr (.inr (.inr (.inr t)))))))))))))))))))))))))))))))))))) → Wp w mdL_law (d + 13) 1394 [none, none, none, none, none, none, none] [] t o M') : Wp w mdL_law (d + 13) 703 [some (.inr 1), some (.inr x1), some (.inr x2), some (.inr x3), some (.inl x4), none, none] [] M o M' := by
  unfold L_law_J703 at h
  refine wp_goto (tgt := 1396) dL_law_703 (by decide) ?_
  exact wp_ls (lsS (lsS (lsS (lsS (lsS (lsN (lsN lsZ))))))) (L_law_J1396_ok hX h hc he0 he1 he2 he3 he4 he5 he6 he7 he8 he9 he10 he11 he12 he13 he14 he15 he16 he17 he18 he19 he20 he21 he22 he23 he24 he25 he26 he27 he28 he29 he30 he31 he32 he33 he34 he35 he36)

theorem L_law_J783_ok {w : Gw} {d : Nat} {L : Nat} {xs : Nat → Int32} {x1 : Nat} {x2 : Nat} {x3 : Nat} {x4 : Int32} {M : Gm} (hX : va_X (rho w 1) L xs w.1 w.1.heap) {o : Go} {M' : Gm} {out : (Int32 × Gm) ⊕ Gm ⊕ Gm ⊕ Gm ⊕ Gm ⊕ Gm ⊕ Gm ⊕ Gm ⊕ Gm ⊕ Gm ⊕ Gm ⊕ Gm ⊕ Gm ⊕ Gm ⊕ Gm ⊕ Gm ⊕ Gm ⊕ Gm ⊕ Gm ⊕ Gm ⊕ Gm ⊕ Gm ⊕ Gm ⊕ Gm ⊕ Gm ⊕ Gm ⊕ Gm ⊕ Gm ⊕ Gm ⊕ Gm ⊕ Gm ⊕ Gm ⊕ Gm ⊕ Gm ⊕ Gm ⊕ Gm ⊕ Gm ⊕ Gm} (h : L_law_J783 L xs x1 x2 x3 x4 M = some out) (hc : ∀ t : Int32 × Gm, out = .inl t → Wp w mdL_law (d + 13) 23 [some (.inr 1), some (.inr x1), some (.inr x2), some (.inr x3), some (.inl t.1), none, none] [] t.2 o M') (he0 : ∀ t : Gm, out = .inr (.inl t) → Wp w mdL_law (d + 13) 1402 [none, none, none, none, none, none, none] [] t o M') (he1 : ∀ t : Gm, out = .inr (.inr (.inl t)) → Wp w mdL_law (d + 13) 227 [none, none, none, none, none, none, none] [] t o M') (he2 : ∀ t : Gm, out = .inr (.inr (.inr (.inl t))) → Wp w mdL_law (d + 13) 263 [none, none, none, none, none, none, none] [] t o M') (he3 : ∀ t : Gm, out = .inr (.inr (.inr (.inr (.inl t)))) → Wp w mdL_law (d + 13) 280 [none, none, none, none, none, none, none] [] t o M') (he4 : ∀ t : Gm, out = .inr (.inr (.inr (.inr (.inr (.inl t))))) → Wp w mdL_law (d + 13) 296 [none, none, none, none, none, none, none] [] t o M') (he5 : ∀ t : Gm, out = .inr (.inr (.inr (.inr (.inr (.inr (.inl t)))))) → Wp w mdL_law (d + 13) 332 [none, none, none, none, none, none, none] [] t o M') (he6 : ∀ t : Gm, out = .inr (.inr (.inr (.inr (.inr (.inr (.inr (.inl t))))))) → Wp w mdL_law (d + 13) 349 [none, none, none, none, none, none, none] [] t o M') (he7 : ∀ t : Gm, out = .inr (.inr (.inr (.inr (.inr (.inr (.inr (.inr (.inl t)))))))) → Wp w mdL_law (d + 13) 400 [none, none, none, none, none, none, none] [] t o M') (he8 : ∀ t : Gm, out = .inr (.inr (.inr (.inr (.inr (.inr (.inr (.inr (.inr (.inl t))))))))) → Wp w mdL_law (d + 13) 417 [none, none, none, none, none, none, none] [] t o M') (he9 : ∀ t : Gm, out = .inr (.inr (.inr (.inr (.inr (.inr (.inr (.inr (.inr (.inr (.inl t)))))))))) → Wp w mdL_law (d + 13) 468 [none, none, none, none, none, none, none] [] t o M') (he10 : ∀ t : Gm, out = .inr (.inr (.inr (.inr (.inr (.inr (.inr (.inr (.inr (.inr (.inr (.inl t))))))))))) → Wp w mdL_law (d + 13) 485 [none, none, none, none, none, none, none] [] t o M') (he11 : ∀ t : Gm, out = .inr (.inr (.inr (.inr (.inr (.inr (.inr (.inr (.inr (.inr (.inr (.inr (.inl t)))))))))))) → Wp w mdL_law (d + 13) 536 [none, none, none, none, none, none, none] [] t o M') (he12 : ∀ t : Gm, out = .inr (.inr (.inr (.inr (.inr (.inr (.inr (.inr (.inr (.inr (.inr (.inr (.inr (.inl t))))))))))))) → Wp w mdL_law (d + 13) 553 [none, none, none, none, none, none, none] [] t o M') (he13 : ∀ t : Gm, out = .inr (.inr (.inr (.inr (.inr (.inr (.inr (.inr (.inr (.inr (.inr (.inr (.inr (.inr (.inl t)))))))))))))) → Wp w mdL_law (d + 13) 616 [none, none, none, none, none, none, none] [] t o M') (he14 : ∀ t : Gm, out = .inr (.inr (.inr (.inr (.inr (.inr (.inr (.inr (.inr (.inr (.inr (.inr (.inr (.inr (.inr (.inl t))))))))))))))) → Wp w mdL_law (d + 13) 633 [none, none, none, none, none, none, none] [] t o M') (he15 : ∀ t : Gm, out = .inr (.inr (.inr (.inr (.inr (.inr (.inr (.inr (.inr (.inr (.inr (.inr (.inr (.inr (.inr (.inr (.inl t)))))))))))))))) → Wp w mdL_law (d + 13) 684 [none, none, none, none, none, none, none] [] t o M') (he16 : ∀ t : Gm, out = .inr (.inr (.inr (.inr (.inr (.inr (.inr (.inr (.inr (.inr (.inr (.inr (.inr (.inr (.inr (.inr (.inr (.inl t))))))))))))))))) → Wp w mdL_law (d + 13) 701 [none, none, none, none, none, none, none] [] t o M') (he17 : ∀ t : Gm, out = .inr (.inr (.inr (.inr (.inr (.inr (.inr (.inr (.inr (.inr (.inr (.inr (.inr (.inr (.inr (.inr (.inr (.inr (.inl t)))))))))))))))))) → Wp w mdL_law (d + 13) 764 [none, none, none, none, none, none, none] [] t o M') (he18 : ∀ t : Gm, out = .inr (.inr (.inr (.inr (.inr (.inr (.inr (.inr (.inr (.inr (.inr (.inr (.inr (.inr (.inr (.inr (.inr (.inr (.inr (.inl t))))))))))))))))))) → Wp w mdL_law (d + 13) 781 [none, none, none, none, none, none, none] [] t o M') (he19 : ∀ t : Gm, out = .inr (.inr (.inr (.inr (.inr (.inr (.inr (.inr (.inr (.inr (.inr (.inr (.inr (.inr (.inr (.inr (.inr (.inr (.inr (.inr (.inl t)))))))))))))))))))) → Wp w mdL_law (d + 13) 844 [none, none, none, none, none, none, none] [] t o M') (he20 : ∀ t : Gm, out = .inr (.inr (.inr (.inr (.inr (.inr (.inr (.inr (.inr (.inr (.inr (.inr (.inr (.inr (.inr (.inr (.inr (.inr (.inr (.inr (.inr (.inl t))))))))))))))))))))) → Wp w mdL_law (d + 13) 861 [none, none, none, none, none, none, none] [] t o M') (he21 : ∀ t : Gm, out = .inr (.inr (.inr (.inr (.inr (.inr (.inr (.inr (.inr (.inr (.inr (.inr (.inr (.inr (.inr (.inr (.inr (.inr (.inr (.inr (.inr (.inr (.inl t)))))))))))))))))))))) → Wp w mdL_law (d + 13) 912 [none, none, none, none, none, none, none] [] t o M') (he22 : ∀ t : Gm, out = .inr (.inr (.inr (.inr (.inr (.inr (.inr (.inr (.inr (.inr (.inr (.inr (.inr (.inr (.inr (.inr (.inr (.inr (.inr (.inr (.inr (.inr (.inr (.inl t))))))))))))))))))))))) → Wp w mdL_law (d + 13) 929 [none, none, none, none, none, none, none] [] t o M') (he23 : ∀ t : Gm, out = .inr (.inr (.inr (.inr (.inr (.inr (.inr (.inr (.inr (.inr (.inr (.inr (.inr (.inr (.inr (.inr (.inr (.inr (.inr (.inr (.inr (.inr (.inr (.inr (.inl t)))))))))))))))))))))))) → Wp w mdL_law (d + 13) 957 [none, none, none, none, none, none, none] [] t o M') (he24 : ∀ t : Gm, out = .inr (.inr (.inr (.inr (.inr (.inr (.inr (.inr (.inr (.inr (.inr (.inr (.inr (.inr (.inr (.inr (.inr (.inr (.inr (.inr (.inr (.inr (.inr (.inr (.inr (.inl t))))))))))))))))))))))))) → Wp w mdL_law (d + 13) 994 [none, none, none, none, none, none, none] [] t o M') (he25 : ∀ t : Gm, out = .inr (.inr (.inr (.inr (.inr (.inr (.inr (.inr (.inr (.inr (.inr (.inr (.inr (.inr (.inr (.inr (.inr (.inr (.inr (.inr (.inr (.inr (.inr (.inr (.inr (.inr (.inl t)))))))))))))))))))))))))) → Wp w mdL_law (d + 13) 1031 [none, none, none, none, none, none, none] [] t o M') (he26 : ∀ t : Gm, out = .inr (.inr (.inr (.inr (.inr (.inr (.inr (.inr (.inr (.inr (.inr (.inr (.inr (.inr (.inr (.inr (.inr (.inr (.inr (.inr (.inr (.inr (.inr (.inr (.inr (.inr (.inr (.inl t))))))))))))))))))))))))))) → Wp w mdL_law (d + 13) 1056 [none, none, none, none, none, none, none] [] t o M') (he27 : ∀ t : Gm, out = .inr (.inr (.inr (.inr (.inr (.inr (.inr (.inr (.inr (.inr (.inr (.inr (.inr (.inr (.inr (.inr (.inr (.inr (.inr (.inr (.inr (.inr (.inr (.inr (.inr (.inr (.inr (.inr (.inl t)))))))))))))))))))))))))))) → Wp w mdL_law (d + 13) 1081 [none, none, none, none, none, none, none] [] t o M') (he28 : ∀ t : Gm, out = .inr (.inr (.inr (.inr (.inr (.inr (.inr (.inr (.inr (.inr (.inr (.inr (.inr (.inr (.inr (.inr (.inr (.inr (.inr (.inr (.inr (.inr (.inr (.inr (.inr (.inr (.inr (.inr (.inr (.inl t))))))))))))))))))))))))))))) → Wp w mdL_law (d + 13) 1094 [none, none, none, none, none, none, none] [] t o M') (he29 : ∀ t : Gm, out = .inr (.inr (.inr (.inr (.inr (.inr (.inr (.inr (.inr (.inr (.inr (.inr (.inr (.inr (.inr (.inr (.inr (.inr (.inr (.inr (.inr (.inr (.inr (.inr (.inr (.inr (.inr (.inr (.inr (.inr (.inl t)))))))))))))))))))))))))))))) → Wp w mdL_law (d + 13) 1143 [none, none, none, none, none, none, none] [] t o M') (he30 : ∀ t : Gm, out = .inr (.inr (.inr (.inr (.inr (.inr (.inr (.inr (.inr (.inr (.inr (.inr (.inr (.inr (.inr (.inr (.inr (.inr (.inr (.inr (.inr (.inr (.inr (.inr (.inr (.inr (.inr (.inr (.inr (.inr (.inr (.inl t))))))))))))))))))))))))))))))) → Wp w mdL_law (d + 13) 1191 [none, none, none, none, none, none, none] [] t o M') (he31 : ∀ t : Gm, out = .inr (.inr (.inr (.inr (.inr (.inr (.inr (.inr (.inr (.inr (.inr (.inr (.inr (.inr (.inr (.inr (.inr (.inr (.inr (.inr (.inr (.inr (.inr (.inr (.inr (.inr (.inr (.inr (.inr (.inr (.inr (.inr (.inl t)))))))))))))))))))))))))))))))) → Wp w mdL_law (d + 13) 1208 [none, none, none, none, none, none, none] [] t o M') (he32 : ∀ t : Gm, out = .inr (.inr (.inr (.inr (.inr (.inr (.inr (.inr (.inr (.inr (.inr (.inr (.inr (.inr (.inr (.inr (.inr (.inr (.inr (.inr (.inr (.inr (.inr (.inr (.inr (.inr (.inr (.inr (.inr (.inr (.inr (.inr (.inr (.inl t))))))))))))))))))))))))))))))))) → Wp w mdL_law (d + 13) 1259 [none, none, none, none, none, none, none] [] t o M') (he33 : ∀ t : Gm, out = .inr (.inr (.inr (.inr (.inr (.inr (.inr (.inr (.inr (.inr (.inr (.inr (.inr (.inr (.inr (.inr (.inr (.inr (.inr (.inr (.inr (.inr (.inr (.inr (.inr (.inr (.inr (.inr (.inr (.inr (.inr (.inr (.inr (.inr (.inl t)))))))))))))))))))))))))))))))))) → Wp w mdL_law (d + 13) 1276 [none, none, none, none, none, none, none] [] t o M') (he34 : ∀ t : Gm, out = .inr (.inr (.inr (.inr (.inr (.inr (.inr (.inr (.inr (.inr (.inr (.inr (.inr (.inr (.inr (.inr (.inr (.inr (.inr (.inr (.inr (.inr (.inr (.inr (.inr (.inr (.inr (.inr (.inr (.inr (.inr (.inr (.inr (.inr (.inr (.inl t))))))))))))))))))))))))))))))))))) → Wp w mdL_law (d + 13) 1350 [none, none, none, none, none, none, none] [] t o M') (he35 : ∀ t : Gm, out = .inr (.inr (.inr (.inr (.inr (.inr (.inr (.inr (.inr (.inr (.inr (.inr (.inr (.inr (.inr (.inr (.inr (.inr (.inr (.inr (.inr (.inr (.inr (.inr (.inr (.inr (.inr (.inr (.inr (.inr (.inr (.inr (.inr (.inr (.inr (.inr (.inl t)))))))))))))))))))))))))))))))))))) → Wp w mdL_law (d + 13) 1367 [none, none, none, none, none, none, none] [] t o M') (he36 : ∀ t : Gm, out = .inr (.inr (.inr (.inr (.inr (.inr (.inr (.inr (.inr (.inr (.inr (.inr (.inr (.inr (.inr (.inr (.inr (.inr (.inr (.inr (.inr (.inr (.inr (.inr (.inr (.inr (.inr (.inr (.inr (.inr (.inr (.inr (.inr (.inr (.inr (.inr (.inr t)))))))))))))))))))))))))))))))))))) → Wp w mdL_law (d + 13) 1394 [none, none, none, none, none, none, none] [] t o M') : Wp w mdL_law (d + 13) 783 [some (.inr 1), some (.inr x1), some (.inr x2), some (.inr x3), some (.inl x4), none, none] [] M o M' := by
  unfold L_law_J783 at h
  refine wp_goto (tgt := 1396) dL_law_783 (by decide) ?_
  exact wp_ls (lsS (lsS (lsS (lsS (lsS (lsN (lsN lsZ))))))) (L_law_J1396_ok hX h hc he0 he1 he2 he3 he4 he5 he6 he7 he8 he9 he10 he11 he12 he13 he14 he15 he16 he17 he18 he19 he20 he21 he22 he23 he24 he25 he26 he27 he28 he29 he30 he31 he32 he33 he34 he35 he36)

theorem L_law_J863_ok {w : Gw} {d : Nat} {L : Nat} {xs : Nat → Int32} {x1 : Nat} {x2 : Nat} {x3 : Nat} {x4 : Int32} {M : Gm} (hX : va_X (rho w 1) L xs w.1 w.1.heap) {o : Go} {M' : Gm} {out : (Int32 × Gm) ⊕ Gm ⊕ Gm ⊕ Gm ⊕ Gm ⊕ Gm ⊕ Gm ⊕ Gm ⊕ Gm ⊕ Gm ⊕ Gm ⊕ Gm ⊕ Gm ⊕ Gm ⊕ Gm ⊕ Gm ⊕ Gm ⊕ Gm ⊕ Gm ⊕ Gm ⊕ Gm ⊕ Gm ⊕ Gm ⊕ Gm ⊕ Gm ⊕ Gm ⊕ Gm ⊕ Gm ⊕ Gm ⊕ Gm ⊕ Gm ⊕ Gm ⊕ Gm ⊕ Gm ⊕ Gm ⊕ Gm ⊕ Gm ⊕ Gm} (h : L_law_J863 L xs x1 x2 x3 x4 M = some out) (hc : ∀ t : Int32 × Gm, out = .inl t → Wp w mdL_law (d + 13) 23 [some (.inr 1), some (.inr x1), some (.inr x2), some (.inr x3), some (.inl t.1), none, none] [] t.2 o M') (he0 : ∀ t : Gm, out = .inr (.inl t) → Wp w mdL_law (d + 13) 1402 [none, none, none, none, none, none, none] [] t o M') (he1 : ∀ t : Gm, out = .inr (.inr (.inl t)) → Wp w mdL_law (d + 13) 227 [none, none, none, none, none, none, none] [] t o M') (he2 : ∀ t : Gm, out = .inr (.inr (.inr (.inl t))) → Wp w mdL_law (d + 13) 263 [none, none, none, none, none, none, none] [] t o M') (he3 : ∀ t : Gm, out = .inr (.inr (.inr (.inr (.inl t)))) → Wp w mdL_law (d + 13) 280 [none, none, none, none, none, none, none] [] t o M') (he4 : ∀ t : Gm, out = .inr (.inr (.inr (.inr (.inr (.inl t))))) → Wp w mdL_law (d + 13) 296 [none, none, none, none, none, none, none] [] t o M') (he5 : ∀ t : Gm, out = .inr (.inr (.inr (.inr (.inr (.inr (.inl t)))))) → Wp w mdL_law (d + 13) 332 [none, none, none, none, none, none, none] [] t o M') (he6 : ∀ t : Gm, out = .inr (.inr (.inr (.inr (.inr (.inr (.inr (.inl t))))))) → Wp w mdL_law (d + 13) 349 [none, none, none, none, none, none, none] [] t o M') (he7 : ∀ t : Gm, out = .inr (.inr (.inr (.inr (.inr (.inr (.inr (.inr (.inl t)))))))) → Wp w mdL_law (d + 13) 400 [none, none, none, none, none, none, none] [] t o M') (he8 : ∀ t : Gm, out = .inr (.inr (.inr (.inr (.inr (.inr (.inr (.inr (.inr (.inl t))))))))) → Wp w mdL_law (d + 13) 417 [none, none, none, none, none, none, none] [] t o M') (he9 : ∀ t : Gm, out = .inr (.inr (.inr (.inr (.inr (.inr (.inr (.inr (.inr (.inr (.inl t)))))))))) → Wp w mdL_law (d + 13) 468 [none, none, none, none, none, none, none] [] t o M') (he10 : ∀ t : Gm, out = .inr (.inr (.inr (.inr (.inr (.inr (.inr (.inr (.inr (.inr (.inr (.inl t))))))))))) → Wp w mdL_law (d + 13) 485 [none, none, none, none, none, none, none] [] t o M') (he11 : ∀ t : Gm, out = .inr (.inr (.inr (.inr (.inr (.inr (.inr (.inr (.inr (.inr (.inr (.inr (.inl t)))))))))))) → Wp w mdL_law (d + 13) 536 [none, none, none, none, none, none, none] [] t o M') (he12 : ∀ t : Gm, out = .inr (.inr (.inr (.inr (.inr (.inr (.inr (.inr (.inr (.inr (.inr (.inr (.inr (.inl t))))))))))))) → Wp w mdL_law (d + 13) 553 [none, none, none, none, none, none, none] [] t o M') (he13 : ∀ t : Gm, out = .inr (.inr (.inr (.inr (.inr (.inr (.inr (.inr (.inr (.inr (.inr (.inr (.inr (.inr (.inl t)))))))))))))) → Wp w mdL_law (d + 13) 616 [none, none, none, none, none, none, none] [] t o M') (he14 : ∀ t : Gm, out = .inr (.inr (.inr (.inr (.inr (.inr (.inr (.inr (.inr (.inr (.inr (.inr (.inr (.inr (.inr (.inl t))))))))))))))) → Wp w mdL_law (d + 13) 633 [none, none, none, none, none, none, none] [] t o M') (he15 : ∀ t : Gm, out = .inr (.inr (.inr (.inr (.inr (.inr (.inr (.inr (.inr (.inr (.inr (.inr (.inr (.inr (.inr (.inr (.inl t)))))))))))))))) → Wp w mdL_law (d + 13) 684 [none, none, none, none, none, none, none] [] t o M') (he16 : ∀ t : Gm, out = .inr (.inr (.inr (.inr (.inr (.inr (.inr (.inr (.inr (.inr (.inr (.inr (.inr (.inr (.inr (.inr (.inr (.inl t))))))))))))))))) → Wp w mdL_law (d + 13) 701 [none, none, none, none, none, none, none] [] t o M') (he17 : ∀ t : Gm, out = .inr (.inr (.inr (.inr (.inr (.inr (.inr (.inr (.inr (.inr (.inr (.inr (.inr (.inr (.inr (.inr (.inr (.inr (.inl t)))))))))))))))))) → Wp w mdL_law (d + 13) 764 [none, none, none, none, none, none, none] [] t o M') (he18 : ∀ t : Gm, out = .inr (.inr (.inr (.inr (.inr (.inr (.inr (.inr (.inr (.inr (.inr (.inr (.inr (.inr (.inr (.inr (.inr (.inr (.inr (.inl t))))))))))))))))))) → Wp w mdL_law (d + 13) 781 [none, none, none, none, none, none, none] [] t o M') (he19 : ∀ t : Gm, out = .inr (.inr (.inr (.inr (.inr (.inr (.inr (.inr (.inr (.inr (.inr (.inr (.inr (.inr (.inr (.inr (.inr (.inr (.inr (.inr (.inl t)))))))))))))))))))) → Wp w mdL_law (d + 13) 844 [none, none, none, none, none, none, none] [] t o M') (he20 : ∀ t : Gm, out = .inr (.inr (.inr (.inr (.inr (.inr (.inr (.inr (.inr (.inr (.inr (.inr (.inr (.inr (.inr (.inr (.inr (.inr (.inr (.inr (.inr (.inl t))))))))))))))))))))) → Wp w mdL_law (d + 13) 861 [none, none, none, none, none, none, none] [] t o M') (he21 : ∀ t : Gm, out = .inr (.inr (.inr (.inr (.inr (.inr (.inr (.inr (.inr (.inr (.inr (.inr (.inr (.inr (.inr (.inr (.inr (.inr (.inr (.inr (.inr (.inr (.inl t)))))))))))))))))))))) → Wp w mdL_law (d + 13) 912 [none, none, none, none, none, none, none] [] t o M') (he22 : ∀ t : Gm, out = .inr (.inr (.inr (.inr (.inr (.inr (.inr (.inr (.inr (.inr (.inr (.inr (.inr (.inr (.inr (.inr (.inr (.inr (.inr (.inr (.inr (.inr (.inr (.inl t))))))))))))))))))))))) → Wp w mdL_law (d + 13) 929 [none, none, none, none, none, none, none] [] t o M') (he23 : ∀ t : Gm, out = .inr (.inr (.inr (.inr (.inr (.inr (.inr (.inr (.inr (.inr (.inr (.inr (.inr (.inr (.inr (.inr (.inr (.inr (.inr (.inr (.inr (.inr (.inr (.inr (.inl t)))))))))))))))))))))))) → Wp w mdL_law (d + 13) 957 [none, none, none, none, none, none, none] [] t o M') (he24 : ∀ t : Gm, out = .inr (.inr (.inr (.inr (.inr (.inr (.inr (.inr (.inr (.inr (.inr (.inr (.inr (.inr (.inr (.inr (.inr (.inr (.inr (.inr (.inr (.inr (.inr (.inr (.inr (.inl t))))))))))))))))))))))))) → Wp w mdL_law (d + 13) 994 [none, none, none, none, none, none, none] [] t o M') (he25 : ∀ t : Gm, out = .inr (.inr (.inr (.inr (.inr (.inr (.inr (.inr (.inr (.inr (.inr (.inr (.inr (.inr (.inr (.inr (.inr (.inr (.inr (.inr (.inr (.inr (.inr (.inr (.inr (.inr (.inl t)))))))))))))))))))))))))) → Wp w mdL_law (d + 13) 1031 [none, none, none, none, none, none, none] [] t o M') (he26 : ∀ t : Gm, out = .inr (.inr (.inr (.inr (.inr (.inr (.inr (.inr (.inr (.inr (.inr (.inr (.inr (.inr (.inr (.inr (.inr (.inr (.inr (.inr (.inr (.inr (.inr (.inr (.inr (.inr (.inr (.inl t))))))))))))))))))))))))))) → Wp w mdL_law (d + 13) 1056 [none, none, none, none, none, none, none] [] t o M') (he27 : ∀ t : Gm, out = .inr (.inr (.inr (.inr (.inr (.inr (.inr (.inr (.inr (.inr (.inr (.inr (.inr (.inr (.inr (.inr (.inr (.inr (.inr (.inr (.inr (.inr (.inr (.inr (.inr (.inr (.inr (.inr (.inl t)))))))))))))))))))))))))))) → Wp w mdL_law (d + 13) 1081 [none, none, none, none, none, none, none] [] t o M') (he28 : ∀ t : Gm, out = .inr (.inr (.inr (.inr (.inr (.inr (.inr (.inr (.inr (.inr (.inr (.inr (.inr (.inr (.inr (.inr (.inr (.inr (.inr (.inr (.inr (.inr (.inr (.inr (.inr (.inr (.inr (.inr (.inr (.inl t))))))))))))))))))))))))))))) → Wp w mdL_law (d + 13) 1094 [none, none, none, none, none, none, none] [] t o M') (he29 : ∀ t : Gm, out = .inr (.inr (.inr (.inr (.inr (.inr (.inr (.inr (.inr (.inr (.inr (.inr (.inr (.inr (.inr (.inr (.inr (.inr (.inr (.inr (.inr (.inr (.inr (.inr (.inr (.inr (.inr (.inr (.inr (.inr (.inl t)))))))))))))))))))))))))))))) → Wp w mdL_law (d + 13) 1143 [none, none, none, none, none, none, none] [] t o M') (he30 : ∀ t : Gm, out = .inr (.inr (.inr (.inr (.inr (.inr (.inr (.inr (.inr (.inr (.inr (.inr (.inr (.inr (.inr (.inr (.inr (.inr (.inr (.inr (.inr (.inr (.inr (.inr (.inr (.inr (.inr (.inr (.inr (.inr (.inr (.inl t))))))))))))))))))))))))))))))) → Wp w mdL_law (d + 13) 1191 [none, none, none, none, none, none, none] [] t o M') (he31 : ∀ t : Gm, out = .inr (.inr (.inr (.inr (.inr (.inr (.inr (.inr (.inr (.inr (.inr (.inr (.inr (.inr (.inr (.inr (.inr (.inr (.inr (.inr (.inr (.inr (.inr (.inr (.inr (.inr (.inr (.inr (.inr (.inr (.inr (.inr (.inl t)))))))))))))))))))))))))))))))) → Wp w mdL_law (d + 13) 1208 [none, none, none, none, none, none, none] [] t o M') (he32 : ∀ t : Gm, out = .inr (.inr (.inr (.inr (.inr (.inr (.inr (.inr (.inr (.inr (.inr (.inr (.inr (.inr (.inr (.inr (.inr (.inr (.inr (.inr (.inr (.inr (.inr (.inr (.inr (.inr (.inr (.inr (.inr (.inr (.inr (.inr (.inr (.inl t))))))))))))))))))))))))))))))))) → Wp w mdL_law (d + 13) 1259 [none, none, none, none, none, none, none] [] t o M') (he33 : ∀ t : Gm, out = .inr (.inr (.inr (.inr (.inr (.inr (.inr (.inr (.inr (.inr (.inr (.inr (.inr (.inr (.inr (.inr (.inr (.inr (.inr (.inr (.inr (.inr (.inr (.inr (.inr (.inr (.inr (.inr (.inr (.inr (.inr (.inr (.inr (.inr (.inl t)))))))))))))))))))))))))))))))))) → Wp w mdL_law (d + 13) 1276 [none, none, none, none, none, none, none] [] t o M') (he34 : ∀ t : Gm, out = .inr (.inr (.inr (.inr (.inr (.inr (.inr (.inr (.inr (.inr (.inr (.inr (.inr (.inr (.inr (.inr (.inr (.inr (.inr (.inr (.inr (.inr (.inr (.inr (.inr (.inr (.inr (.inr (.inr (.inr (.inr (.inr (.inr (.inr (.inr (.inl t))))))))))))))))))))))))))))))))))) → Wp w mdL_law (d + 13) 1350 [none, none, none, none, none, none, none] [] t o M') (he35 : ∀ t : Gm, out = .inr (.inr (.inr (.inr (.inr (.inr (.inr (.inr (.inr (.inr (.inr (.inr (.inr (.inr (.inr (.inr (.inr (.inr (.inr (.inr (.inr (.inr (.inr (.inr (.inr (.inr (.inr (.inr (.inr (.inr (.inr (.inr (.inr (.inr (.inr (.inr (.inl t)))))))))))))))))))))))))))))))))))) → Wp w mdL_law (d + 13) 1367 [none, none, none, none, none, none, none] [] t o M') (he36 : ∀ t : Gm, out = .inr (.inr (.inr (.inr (.inr (.inr (.inr (.inr (.inr (.inr (.inr (.inr (.inr (.inr (.inr (.inr (.inr (.inr (.inr (.inr (.inr (.inr (.inr (.inr (.inr (.inr (.inr (.inr (.inr (.inr (.inr (.inr (.inr (.inr (.inr (.inr (.inr t)))))))))))))))))))))))))))))))))))) → Wp w mdL_law (d + 13) 1394 [none, none, none, none, none, none, none] [] t o M') : Wp w mdL_law (d + 13) 863 [some (.inr 1), some (.inr x1), some (.inr x2), some (.inr x3), some (.inl x4), none, none] [] M o M' := by
  unfold L_law_J863 at h
  refine wp_goto (tgt := 1396) dL_law_863 (by decide) ?_
  exact wp_ls (lsS (lsS (lsS (lsS (lsS (lsN (lsN lsZ))))))) (L_law_J1396_ok hX h hc he0 he1 he2 he3 he4 he5 he6 he7 he8 he9 he10 he11 he12 he13 he14 he15 he16 he17 he18 he19 he20 he21 he22 he23 he24 he25 he26 he27 he28 he29 he30 he31 he32 he33 he34 he35 he36)

theorem L_law_J931_ok {w : Gw} {d : Nat} {L : Nat} {xs : Nat → Int32} {x1 : Nat} {x2 : Nat} {x3 : Nat} {x4 : Int32} {M : Gm} (hX : va_X (rho w 1) L xs w.1 w.1.heap) {o : Go} {M' : Gm} {out : (Int32 × Gm) ⊕ Gm ⊕ Gm ⊕ Gm ⊕ Gm ⊕ Gm ⊕ Gm ⊕ Gm ⊕ Gm ⊕ Gm ⊕ Gm ⊕ Gm ⊕ Gm ⊕ Gm ⊕ Gm ⊕ Gm ⊕ Gm ⊕ Gm ⊕ Gm ⊕ Gm ⊕ Gm ⊕ Gm ⊕ Gm ⊕ Gm ⊕ Gm ⊕ Gm ⊕ Gm ⊕ Gm ⊕ Gm ⊕ Gm ⊕ Gm ⊕ Gm ⊕ Gm ⊕ Gm ⊕ Gm ⊕ Gm ⊕ Gm ⊕ Gm} (h : L_law_J931 L xs x1 x2 x3 x4 M = some out) (hc : ∀ t : Int32 × Gm, out = .inl t → Wp w mdL_law (d + 13) 23 [some (.inr 1), some (.inr x1), some (.inr x2), some (.inr x3), some (.inl t.1), none, none] [] t.2 o M') (he0 : ∀ t : Gm, out = .inr (.inl t) → Wp w mdL_law (d + 13) 1402 [none, none, none, none, none, none, none] [] t o M') (he1 : ∀ t : Gm, out = .inr (.inr (.inl t)) → Wp w mdL_law (d + 13) 227 [none, none, none, none, none, none, none] [] t o M') (he2 : ∀ t : Gm, out = .inr (.inr (.inr (.inl t))) → Wp w mdL_law (d + 13) 263 [none, none, none, none, none, none, none] [] t o M') (he3 : ∀ t : Gm, out = .inr (.inr (.inr (.inr (.inl t)))) → Wp w mdL_law (d + 13) 280 [none, none, none, none, none, none, none] [] t o M') (he4 : ∀ t : Gm, out = .inr (.inr (.inr (.inr (.inr (.inl t))))) → Wp w mdL_law (d + 13) 296 [none, none, none, none, none, none, none] [] t o M') (he5 : ∀ t : Gm, out = .inr (.inr (.inr (.inr (.inr (.inr (.inl t)))))) → Wp w mdL_law (d + 13) 332 [none, none, none, none, none, none, none] [] t o M') (he6 : ∀ t : Gm, out = .inr (.inr (.inr (.inr (.inr (.inr (.inr (.inl t))))))) → Wp w mdL_law (d + 13) 349 [none, none, none, none, none, none, none] [] t o M') (he7 : ∀ t : Gm, out = .inr (.inr (.inr (.inr (.inr (.inr (.inr (.inr (.inl t)))))))) → Wp w mdL_law (d + 13) 400 [none, none, none, none, none, none, none] [] t o M') (he8 : ∀ t : Gm, out = .inr (.inr (.inr (.inr (.inr (.inr (.inr (.inr (.inr (.inl t))))))))) → Wp w mdL_law (d + 13) 417 [none, none, none, none, none, none, none] [] t o M') (he9 : ∀ t : Gm, out = .inr (.inr (.inr (.inr (.inr (.inr (.inr (.inr (.inr (.inr (.inl t)))))))))) → Wp w mdL_law (d + 13) 468 [none, none, none, none, none, none, none] [] t o M') (he10 : ∀ t : Gm, out = .inr (.inr (.inr (.inr (.inr (.inr (.inr (.inr (.inr (.inr (.inr (.inl t))))))))))) → Wp w mdL_law (d + 13) 485 [none, none, none, none, none, none, none] [] t o M') (he11 : ∀ t : Gm, out = .inr (.inr (.inr (.inr (.inr (.inr (.inr (.inr (.inr (.inr (.inr (.inr (.inl t)))))))))))) → Wp w mdL_law (d + 13) 536 [none, none, none, none, none, none, none] [] t o M') (he12 : ∀ t : Gm, out = .inr (.inr (.inr (.inr (.inr (.inr (.inr (.inr (.inr (.inr (.inr (.inr (.inr (.inl t))))))))))))) → Wp w mdL_law (d + 13) 553 [none, none, none, none, none, none, none] [] t o M') (he13 : ∀ t : Gm, out = .inr (.inr (.inr (.inr (.inr (.inr (.inr (.inr (.inr (.inr (.inr (.inr (.inr (.inr (.inl t)))))))))))))) → Wp w mdL_law (d + 13) 616 [none, none, none, none, none, none, none] [] t o M') (he14 : ∀ t : Gm, out = .inr (.inr (.inr (.inr (.inr (.inr (.inr (.inr (.inr (.inr (.inr (.inr (.inr (.inr (.inr (.inl t))))))))))))))) → Wp w mdL_law (d + 13) 633 [none, none, none, none, none, none, none] [] t o M') (he15 : ∀ t : Gm, out = .inr (.inr (.inr (.inr (.inr (.inr (.inr (.inr (.inr (.inr (.inr (.inr (.inr (.inr (.inr (.inr (.inl t)))))))))))))))) → Wp w mdL_law (d + 13) 684 [none, none, none, none, none, none, none] [] t o M') (he16 : ∀ t : Gm, out = .inr (.inr (.inr (.inr (.inr (.inr (.inr (.inr (.inr (.inr (.inr (.inr (.inr (.inr (.inr (.inr (.inr (.inl t))))))))))))))))) → Wp w mdL_law (d + 13) 701 [none, none, none, none, none, none, none] [] t o M') (he17 : ∀ t : Gm, out = .inr (.inr (.inr (.inr (.inr (.inr (.inr (.inr (.inr (.inr (.inr (.inr (.inr (.inr (.inr (.inr (.inr (.inr (.inl t)))))))))))))))))) → Wp w mdL_law (d + 13) 764 [none, none, none, none, none, none, none] [] t o M') (he18 : ∀ t : Gm, out = .inr (.inr (.inr (.inr (.inr (.inr (.inr (.inr (.inr (.inr (.inr (.inr (.inr (.inr (.inr (.inr (.inr (.inr (.inr (.inl t))))))))))))))))))) → Wp w mdL_law (d + 13) 781 [none, none, none, none, none, none, none] [] t o M') (he19 : ∀ t : Gm, out = .inr (.inr (.inr (.inr (.inr (.inr (.inr (.inr (.inr (.inr (.inr (.inr (.inr (.inr (.inr (.inr (.inr (.inr (.inr (.inr (.inl t)))))))))))))))))))) → Wp w mdL_law (d + 13) 844 [none, none, none, none, none, none, none] [] t o M') (he20 : ∀ t : Gm, out = .inr (.inr (.inr (.inr (.inr (.inr (.inr (.inr (.inr (.inr (.inr (.inr (.inr (.inr (.inr (.inr (.inr (.inr (.inr (.inr (.inr (.inl t))))))))))))))))))))) → Wp w mdL_law (d + 13) 861 [none, none, none, none, none, none, none] [] t o M') (he21 : ∀ t : Gm, out = .inr (.inr (.inr (.inr (.inr (.inr (.inr (.inr (.inr (.inr (.inr (.inr (.inr (.inr (.inr (.inr (.inr (.inr (.inr (.inr (.inr (.inr (.inl t)))))))))))))))))))))) → Wp w mdL_law (d + 13) 912 [none, none, none, none, none, none, none] [] t o M') (he22 : ∀ t : Gm, out = .inr (.inr (.inr (.inr (.inr (.inr (.inr (.inr (.inr (.inr (.inr (.inr (.inr (.inr (.inr (.inr (.inr (.inr (.inr (.inr (.inr (.inr (.inr (.inl t))))))))))))))))))))))) → Wp w mdL_law (d + 13) 929 [none, none, none, none, none, none, none] [] t o M') (he23 : ∀ t : Gm, out = .inr (.inr (.inr (.inr (.inr (.inr (.inr (.inr (.inr (.inr (.inr (.inr (.inr (.inr (.inr (.inr (.inr (.inr (.inr (.inr (.inr (.inr (.inr (.inr (.inl t)))))))))))))))))))))))) → Wp w mdL_law (d + 13) 957 [none, none, none, none, none, none, none] [] t o M') (he24 : ∀ t : Gm, out = .inr (.inr (.inr (.inr (.inr (.inr (.inr (.inr (.inr (.inr (.inr (.inr (.inr (.inr (.inr (.inr (.inr (.inr (.inr (.inr (.inr (.inr (.inr (.inr (.inr (.inl t))))))))))))))))))))))))) → Wp w mdL_law (d + 13) 994 [none, none, none, none, none, none, none] [] t o M') (he25 : ∀ t : Gm, out = .inr (.inr (.inr (.inr (.inr (.inr (.inr (.inr (.inr (.inr (.inr (.inr (.inr (.inr (.inr (.inr (.inr (.inr (.inr (.inr (.inr (.inr (.inr (.inr (.inr (.inr (.inl t)))))))))))))))))))))))))) → Wp w mdL_law (d + 13) 1031 [none, none, none, none, none, none, none] [] t o M') (he26 : ∀ t : Gm, out = .inr (.inr (.inr (.inr (.inr (.inr (.inr (.inr (.inr (.inr (.inr (.inr (.inr (.inr (.inr (.inr (.inr (.inr (.inr (.inr (.inr (.inr (.inr (.inr (.inr (.inr (.inr (.inl t))))))))))))))))))))))))))) → Wp w mdL_law (d + 13) 1056 [none, none, none, none, none, none, none] [] t o M') (he27 : ∀ t : Gm, out = .inr (.inr (.inr (.inr (.inr (.inr (.inr (.inr (.inr (.inr (.inr (.inr (.inr (.inr (.inr (.inr (.inr (.inr (.inr (.inr (.inr (.inr (.inr (.inr (.inr (.inr (.inr (.inr (.inl t)))))))))))))))))))))))))))) → Wp w mdL_law (d + 13) 1081 [none, none, none, none, none, none, none] [] t o M') (he28 : ∀ t : Gm, out = .inr (.inr (.inr (.inr (.inr (.inr (.inr (.inr (.inr (.inr (.inr (.inr (.inr (.inr (.inr (.inr (.inr (.inr (.inr (.inr (.inr (.inr (.inr (.inr (.inr (.inr (.inr (.inr (.inr (.inl t))))))))))))))))))))))))))))) → Wp w mdL_law (d + 13) 1094 [none, none, none, none, none, none, none] [] t o M') (he29 : ∀ t : Gm, out = .inr (.inr (.inr (.inr (.inr (.inr (.inr (.inr (.inr (.inr (.inr (.inr (.inr (.inr (.inr (.inr (.inr (.inr (.inr (.inr (.inr (.inr (.inr (.inr (.inr (.inr (.inr (.inr (.inr (.inr (.inl t)))))))))))))))))))))))))))))) → Wp w mdL_law (d + 13) 1143 [none, none, none, none, none, none, none] [] t o M') (he30 : ∀ t : Gm, out = .inr (.inr (.inr (.inr (.inr (.inr (.inr (.inr (.inr (.inr (.inr (.inr (.inr (.inr (.inr (.inr (.inr (.inr (.inr (.inr (.inr (.inr (.inr (.inr (.inr (.inr (.inr (.inr (.inr (.inr (.inr (.inl t))))))))))))))))))))))))))))))) → Wp w mdL_law (d + 13) 1191 [none, none, none, none, none, none, none] [] t o M') (he31 : ∀ t : Gm, out = .inr (.inr (.inr (.inr (.inr (.inr (.inr (.inr (.inr (.inr (.inr (.inr (.inr (.inr (.inr (.inr (.inr (.inr (.inr (.inr (.inr (.inr (.inr (.inr (.inr (.inr (.inr (.inr (.inr (.inr (.inr (.inr (.inl t)))))))))))))))))))))))))))))))) → Wp w mdL_law (d + 13) 1208 [none, none, none, none, none, none, none] [] t o M') (he32 : ∀ t : Gm, out = .inr (.inr (.inr (.inr (.inr (.inr (.inr (.inr (.inr (.inr (.inr (.inr (.inr (.inr (.inr (.inr (.inr (.inr (.inr (.inr (.inr (.inr (.inr (.inr (.inr (.inr (.inr (.inr (.inr (.inr (.inr (.inr (.inr (.inl t))))))))))))))))))))))))))))))))) → Wp w mdL_law (d + 13) 1259 [none, none, none, none, none, none, none] [] t o M') (he33 : ∀ t : Gm, out = .inr (.inr (.inr (.inr (.inr (.inr (.inr (.inr (.inr (.inr (.inr (.inr (.inr (.inr (.inr (.inr (.inr (.inr (.inr (.inr (.inr (.inr (.inr (.inr (.inr (.inr (.inr (.inr (.inr (.inr (.inr (.inr (.inr (.inr (.inl t)))))))))))))))))))))))))))))))))) → Wp w mdL_law (d + 13) 1276 [none, none, none, none, none, none, none] [] t o M') (he34 : ∀ t : Gm, out = .inr (.inr (.inr (.inr (.inr (.inr (.inr (.inr (.inr (.inr (.inr (.inr (.inr (.inr (.inr (.inr (.inr (.inr (.inr (.inr (.inr (.inr (.inr (.inr (.inr (.inr (.inr (.inr (.inr (.inr (.inr (.inr (.inr (.inr (.inr (.inl t))))))))))))))))))))))))))))))))))) → Wp w mdL_law (d + 13) 1350 [none, none, none, none, none, none, none] [] t o M') (he35 : ∀ t : Gm, out = .inr (.inr (.inr (.inr (.inr (.inr (.inr (.inr (.inr (.inr (.inr (.inr (.inr (.inr (.inr (.inr (.inr (.inr (.inr (.inr (.inr (.inr (.inr (.inr (.inr (.inr (.inr (.inr (.inr (.inr (.inr (.inr (.inr (.inr (.inr (.inr (.inl t)))))))))))))))))))))))))))))))))))) → Wp w mdL_law (d + 13) 1367 [none, none, none, none, none, none, none] [] t o M') (he36 : ∀ t : Gm, out = .inr (.inr (.inr (.inr (.inr (.inr (.inr (.inr (.inr (.inr (.inr (.inr (.inr (.inr (.inr (.inr (.inr (.inr (.inr (.inr (.inr (.inr (.inr (.inr (.inr (.inr (.inr (.inr (.inr (.inr (.inr (.inr (.inr (.inr (.inr (.inr (.inr t)))))))))))))))))))))))))))))))))))) → Wp w mdL_law (d + 13) 1394 [none, none, none, none, none, none, none] [] t o M') : Wp w mdL_law (d + 13) 931 [some (.inr 1), some (.inr x1), some (.inr x2), some (.inr x3), some (.inl x4), none, none] [] M o M' := by
  unfold L_law_J931 at h
  refine wp_goto (tgt := 1396) dL_law_931 (by decide) ?_
  exact wp_ls (lsS (lsS (lsS (lsS (lsS (lsN (lsN lsZ))))))) (L_law_J1396_ok hX h hc he0 he1 he2 he3 he4 he5 he6 he7 he8 he9 he10 he11 he12 he13 he14 he15 he16 he17 he18 he19 he20 he21 he22 he23 he24 he25 he26 he27 he28 he29 he30 he31 he32 he33 he34 he35 he36)

theorem L_law_J1210_ok {w : Gw} {d : Nat} {L : Nat} {xs : Nat → Int32} {x1 : Nat} {x2 : Nat} {x3 : Nat} {x4 : Int32} {M : Gm} (hX : va_X (rho w 1) L xs w.1 w.1.heap) {o : Go} {M' : Gm} {out : (Int32 × Gm) ⊕ Gm ⊕ Gm ⊕ Gm ⊕ Gm ⊕ Gm ⊕ Gm ⊕ Gm ⊕ Gm ⊕ Gm ⊕ Gm ⊕ Gm ⊕ Gm ⊕ Gm ⊕ Gm ⊕ Gm ⊕ Gm ⊕ Gm ⊕ Gm ⊕ Gm ⊕ Gm ⊕ Gm ⊕ Gm ⊕ Gm ⊕ Gm ⊕ Gm ⊕ Gm ⊕ Gm ⊕ Gm ⊕ Gm ⊕ Gm ⊕ Gm ⊕ Gm ⊕ Gm ⊕ Gm ⊕ Gm ⊕ Gm ⊕ Gm} (h : L_law_J1210 L xs x1 x2 x3 x4 M = some out) (hc : ∀ t : Int32 × Gm, out = .inl t → Wp w mdL_law (d + 13) 23 [some (.inr 1), some (.inr x1), some (.inr x2), some (.inr x3), some (.inl t.1), none, none] [] t.2 o M') (he0 : ∀ t : Gm, out = .inr (.inl t) → Wp w mdL_law (d + 13) 1402 [none, none, none, none, none, none, none] [] t o M') (he1 : ∀ t : Gm, out = .inr (.inr (.inl t)) → Wp w mdL_law (d + 13) 227 [none, none, none, none, none, none, none] [] t o M') (he2 : ∀ t : Gm, out = .inr (.inr (.inr (.inl t))) → Wp w mdL_law (d + 13) 263 [none, none, none, none, none, none, none] [] t o M') (he3 : ∀ t : Gm, out = .inr (.inr (.inr (.inr (.inl t)))) → Wp w mdL_law (d + 13) 280 [none, none, none, none, none, none, none] [] t o M') (he4 : ∀ t : Gm, out = .inr (.inr (.inr (.inr (.inr (.inl t))))) → Wp w mdL_law (d + 13) 296 [none, none, none, none, none, none, none] [] t o M') (he5 : ∀ t : Gm, out = .inr (.inr (.inr (.inr (.inr (.inr (.inl t)))))) → Wp w mdL_law (d + 13) 332 [none, none, none, none, none, none, none] [] t o M') (he6 : ∀ t : Gm, out = .inr (.inr (.inr (.inr (.inr (.inr (.inr (.inl t))))))) → Wp w mdL_law (d + 13) 349 [none, none, none, none, none, none, none] [] t o M') (he7 : ∀ t : Gm, out = .inr (.inr (.inr (.inr (.inr (.inr (.inr (.inr (.inl t)))))))) → Wp w mdL_law (d + 13) 400 [none, none, none, none, none, none, none] [] t o M') (he8 : ∀ t : Gm, out = .inr (.inr (.inr (.inr (.inr (.inr (.inr (.inr (.inr (.inl t))))))))) → Wp w mdL_law (d + 13) 417 [none, none, none, none, none, none, none] [] t o M') (he9 : ∀ t : Gm, out = .inr (.inr (.inr (.inr (.inr (.inr (.inr (.inr (.inr (.inr (.inl t)))))))))) → Wp w mdL_law (d + 13) 468 [none, none, none, none, none, none, none] [] t o M') (he10 : ∀ t : Gm, out = .inr (.inr (.inr (.inr (.inr (.inr (.inr (.inr (.inr (.inr (.inr (.inl t))))))))))) → Wp w mdL_law (d + 13) 485 [none, none, none, none, none, none, none] [] t o M') (he11 : ∀ t : Gm, out = .inr (.inr (.inr (.inr (.inr (.inr (.inr (.inr (.inr (.inr (.inr (.inr (.inl t)))))))))))) → Wp w mdL_law (d + 13) 536 [none, none, none, none, none, none, none] [] t o M') (he12 : ∀ t : Gm, out = .inr (.inr (.inr (.inr (.inr (.inr (.inr (.inr (.inr (.inr (.inr (.inr (.inr (.inl t))))))))))))) → Wp w mdL_law (d + 13) 553 [none, none, none, none, none, none, none] [] t o M') (he13 : ∀ t : Gm, out = .inr (.inr (.inr (.inr (.inr (.inr (.inr (.inr (.inr (.inr (.inr (.inr (.inr (.inr (.inl t)))))))))))))) → Wp w mdL_law (d + 13) 616 [none, none, none, none, none, none, none] [] t o M') (he14 : ∀ t : Gm, out = .inr (.inr (.inr (.inr (.inr (.inr (.inr (.inr (.inr (.inr (.inr (.inr (.inr (.inr (.inr (.inl t))))))))))))))) → Wp w mdL_law (d + 13) 633 [none, none, none, none, none, none, none] [] t o M') (he15 : ∀ t : Gm, out = .inr (.inr (.inr (.inr (.inr (.inr (.inr (.inr (.inr (.inr (.inr (.inr (.inr (.inr (.inr (.inr (.inl t)))))))))))))))) → Wp w mdL_law (d + 13) 684 [none, none, none, none, none, none, none] [] t o M') (he16 : ∀ t : Gm, out = .inr (.inr (.inr (.inr (.inr (.inr (.inr (.inr (.inr (.inr (.inr (.inr (.inr (.inr (.inr (.inr (.inr (.inl t))))))))))))))))) → Wp w mdL_law (d + 13) 701 [none, none, none, none, none, none, none] [] t o M') (he17 : ∀ t : Gm, out = .inr (.inr (.inr (.inr (.inr (.inr (.inr (.inr (.inr (.inr (.inr (.inr (.inr (.inr (.inr (.inr (.inr (.inr (.inl t)))))))))))))))))) → Wp w mdL_law (d + 13) 764 [none, none, none, none, none, none, none] [] t o M') (he18 : ∀ t : Gm, out = .inr (.inr (.inr (.inr (.inr (.inr (.inr (.inr (.inr (.inr (.inr (.inr (.inr (.inr (.inr (.inr (.inr (.inr (.inr (.inl t))))))))))))))))))) → Wp w mdL_law (d + 13) 781 [none, none, none, none, none, none, none] [] t o M') (he19 : ∀ t : Gm, out = .inr (.inr (.inr (.inr (.inr (.inr (.inr (.inr (.inr (.inr (.inr (.inr (.inr (.inr (.inr (.inr (.inr (.inr (.inr (.inr (.inl t)))))))))))))))))))) → Wp w mdL_law (d + 13) 844 [none, none, none, none, none, none, none] [] t o M') (he20 : ∀ t : Gm, out = .inr (.inr (.inr (.inr (.inr (.inr (.inr (.inr (.inr (.inr (.inr (.inr (.inr (.inr (.inr (.inr (.inr (.inr (.inr (.inr (.inr (.inl t))))))))))))))))))))) → Wp w mdL_law (d + 13) 861 [none, none, none, none, none, none, none] [] t o M') (he21 : ∀ t : Gm, out = .inr (.inr (.inr (.inr (.inr (.inr (.inr (.inr (.inr (.inr (.inr (.inr (.inr (.inr (.inr (.inr (.inr (.inr (.inr (.inr (.inr (.inr (.inl t)))))))))))))))))))))) → Wp w mdL_law (d + 13) 912 [none, none, none, none, none, none, none] [] t o M') (he22 : ∀ t : Gm, out = .inr (.inr (.inr (.inr (.inr (.inr (.inr (.inr (.inr (.inr (.inr (.inr (.inr (.inr (.inr (.inr (.inr (.inr (.inr (.inr (.inr (.inr (.inr (.inl t))))))))))))))))))))))) → Wp w mdL_law (d + 13) 929 [none, none, none, none, none, none, none] [] t o M') (he23 : ∀ t : Gm, out = .inr (.inr (.inr (.inr (.inr (.inr (.inr (.inr (.inr (.inr (.inr (.inr (.inr (.inr (.inr (.inr (.inr (.inr (.inr (.inr (.inr (.inr (.inr (.inr (.inl t)))))))))))))))))))))))) → Wp w mdL_law (d + 13) 957 [none, none, none, none, none, none, none] [] t o M') (he24 : ∀ t : Gm, out = .inr (.inr (.inr (.inr (.inr (.inr (.inr (.inr (.inr (.inr (.inr (.inr (.inr (.inr (.inr (.inr (.inr (.inr (.inr (.inr (.inr (.inr (.inr (.inr (.inr (.inl t))))))))))))))))))))))))) → Wp w mdL_law (d + 13) 994 [none, none, none, none, none, none, none] [] t o M') (he25 : ∀ t : Gm, out = .inr (.inr (.inr (.inr (.inr (.inr (.inr (.inr (.inr (.inr (.inr (.inr (.inr (.inr (.inr (.inr (.inr (.inr (.inr (.inr (.inr (.inr (.inr (.inr (.inr (.inr (.inl t)))))))))))))))))))))))))) → Wp w mdL_law (d + 13) 1031 [none, none, none, none, none, none, none] [] t o M') (he26 : ∀ t : Gm, out = .inr (.inr (.inr (.inr (.inr (.inr (.inr (.inr (.inr (.inr (.inr (.inr (.inr (.inr (.inr (.inr (.inr (.inr (.inr (.inr (.inr (.inr (.inr (.inr (.inr (.inr (.inr (.inl t))))))))))))))))))))))))))) → Wp w mdL_law (d + 13) 1056 [none, none, none, none, none, none, none] [] t o M') (he27 : ∀ t : Gm, out = .inr (.inr (.inr (.inr (.inr (.inr (.inr (.inr (.inr (.inr (.inr (.inr (.inr (.inr (.inr (.inr (.inr (.inr (.inr (.inr (.inr (.inr (.inr (.inr (.inr (.inr (.inr (.inr (.inl t)))))))))))))))))))))))))))) → Wp w mdL_law (d + 13) 1081 [none, none, none, none, none, none, none] [] t o M') (he28 : ∀ t : Gm, out = .inr (.inr (.inr (.inr (.inr (.inr (.inr (.inr (.inr (.inr (.inr (.inr (.inr (.inr (.inr (.inr (.inr (.inr (.inr (.inr (.inr (.inr (.inr (.inr (.inr (.inr (.inr (.inr (.inr (.inl t))))))))))))))))))))))))))))) → Wp w mdL_law (d + 13) 1094 [none, none, none, none, none, none, none] [] t o M') (he29 : ∀ t : Gm, out = .inr (.inr (.inr (.inr (.inr (.inr (.inr (.inr (.inr (.inr (.inr (.inr (.inr (.inr (.inr (.inr (.inr (.inr (.inr (.inr (.inr (.inr (.inr (.inr (.inr (.inr (.inr (.inr (.inr (.inr (.inl t)))))))))))))))))))))))))))))) → Wp w mdL_law (d + 13) 1143 [none, none, none, none, none, none, none] [] t o M') (he30 : ∀ t : Gm, out = .inr (.inr (.inr (.inr (.inr (.inr (.inr (.inr (.inr (.inr (.inr (.inr (.inr (.inr (.inr (.inr (.inr (.inr (.inr (.inr (.inr (.inr (.inr (.inr (.inr (.inr (.inr (.inr (.inr (.inr (.inr (.inl t))))))))))))))))))))))))))))))) → Wp w mdL_law (d + 13) 1191 [none, none, none, none, none, none, none] [] t o M') (he31 : ∀ t : Gm, out = .inr (.inr (.inr (.inr (.inr (.inr (.inr (.inr (.inr (.inr (.inr (.inr (.inr (.inr (.inr (.inr (.inr (.inr (.inr (.inr (.inr (.inr (.inr (.inr (.inr (.inr (.inr (.inr (.inr (.inr (.inr (.inr (.inl t)))))))))))))))))))))))))))))))) → Wp w mdL_law (d + 13) 1208 [none, none, none, none, none, none, none] [] t o M') (he32 : ∀ t : Gm, out = .inr (.inr (.inr (.inr (.inr (.inr (.inr (.inr (.inr (.inr (.inr (.inr (.inr (.inr (.inr (.inr (.inr (.inr (.inr (.inr (.inr (.inr (.inr (.inr (.inr (.inr (.inr (.inr (.inr (.inr (.inr (.inr (.inr (.inl t))))))))))))))))))))))))))))))))) → Wp w mdL_law (d + 13) 1259 [none, none, none, none, none, none, none] [] t o M') (he33 : ∀ t : Gm, out = .inr (.inr (.inr (.inr (.inr (.inr (.inr (.inr (.inr (.inr (.inr (.inr (.inr (.inr (.inr (.inr (.inr (.inr (.inr (.inr (.inr (.inr (.inr (.inr (.inr (.inr (.inr (.inr (.inr (.inr (.inr (.inr (.inr (.inr (.inl t)))))))))))))))))))))))))))))))))) → Wp w mdL_law (d + 13) 1276 [none, none, none, none, none, none, none] [] t o M') (he34 : ∀ t : Gm, out = .inr (.inr (.inr (.inr (.inr (.inr (.inr (.inr (.inr (.inr (.inr (.inr (.inr (.inr (.inr (.inr (.inr (.inr (.inr (.inr (.inr (.inr (.inr (.inr (.inr (.inr (.inr (.inr (.inr (.inr (.inr (.inr (.inr (.inr (.inr (.inl t))))))))))))))))))))))))))))))))))) → Wp w mdL_law (d + 13) 1350 [none, none, none, none, none, none, none] [] t o M') (he35 : ∀ t : Gm, out = .inr (.inr (.inr (.inr (.inr (.inr (.inr (.inr (.inr (.inr (.inr (.inr (.inr (.inr (.inr (.inr (.inr (.inr (.inr (.inr (.inr (.inr (.inr (.inr (.inr (.inr (.inr (.inr (.inr (.inr (.inr (.inr (.inr (.inr (.inr (.inr (.inl t)))))))))))))))))))))))))))))))))))) → Wp w mdL_law (d + 13) 1367 [none, none, none, none, none, none, none] [] t o M') (he36 : ∀ t : Gm, out = .inr (.inr (.inr (.inr (.inr (.inr (.inr (.inr (.inr (.inr (.inr (.inr (.inr (.inr (.inr (.inr (.inr (.inr (.inr (.inr (.inr (.inr (.inr (.inr (.inr (.inr (.inr (.inr (.inr (.inr (.inr (.inr (.inr (.inr (.inr (.inr (.inr t)))))))))))))))))))))))))))))))))))) → Wp w mdL_law (d + 13) 1394 [none, none, none, none, none, none, none] [] t o M') : Wp w mdL_law (d + 13) 1210 [some (.inr 1), some (.inr x1), some (.inr x2), some (.inr x3), some (.inl x4), none, none] [] M o M' := by
  unfold L_law_J1210 at h
  refine wp_goto (tgt := 1396) dL_law_1210 (by decide) ?_
  exact wp_ls (lsS (lsS (lsS (lsS (lsS (lsN (lsN lsZ))))))) (L_law_J1396_ok hX h hc he0 he1 he2 he3 he4 he5 he6 he7 he8 he9 he10 he11 he12 he13 he14 he15 he16 he17 he18 he19 he20 he21 he22 he23 he24 he25 he26 he27 he28 he29 he30 he31 he32 he33 he34 he35 he36)

theorem L_law_J1278_ok {w : Gw} {d : Nat} {L : Nat} {xs : Nat → Int32} {x1 : Nat} {x2 : Nat} {x3 : Nat} {x4 : Int32} {M : Gm} (hX : va_X (rho w 1) L xs w.1 w.1.heap) {o : Go} {M' : Gm} {out : (Int32 × Gm) ⊕ Gm ⊕ Gm ⊕ Gm ⊕ Gm ⊕ Gm ⊕ Gm ⊕ Gm ⊕ Gm ⊕ Gm ⊕ Gm ⊕ Gm ⊕ Gm ⊕ Gm ⊕ Gm ⊕ Gm ⊕ Gm ⊕ Gm ⊕ Gm ⊕ Gm ⊕ Gm ⊕ Gm ⊕ Gm ⊕ Gm ⊕ Gm ⊕ Gm ⊕ Gm ⊕ Gm ⊕ Gm ⊕ Gm ⊕ Gm ⊕ Gm ⊕ Gm ⊕ Gm ⊕ Gm ⊕ Gm ⊕ Gm ⊕ Gm} (h : L_law_J1278 L xs x1 x2 x3 x4 M = some out) (hc : ∀ t : Int32 × Gm, out = .inl t → Wp w mdL_law (d + 13) 23 [some (.inr 1), some (.inr x1), some (.inr x2), some (.inr x3), some (.inl t.1), none, none] [] t.2 o M') (he0 : ∀ t : Gm, out = .inr (.inl t) → Wp w mdL_law (d + 13) 1402 [none, none, none, none, none, none, none] [] t o M') (he1 : ∀ t : Gm, out = .inr (.inr (.inl t)) → Wp w mdL_law (d + 13) 227 [none, none, none, none, none, none, none] [] t o M') (he2 : ∀ t : Gm, out = .inr (.inr (.inr (.inl t))) → Wp w mdL_law (d + 13) 263 [none, none, none, none, none, none, none] [] t o M') (he3 : ∀ t : Gm, out = .inr (.inr (.inr (.inr (.inl t)))) → Wp w mdL_law (d + 13) 280 [none, none, none, none, none, none, none] [] t o M') (he4 : ∀ t : Gm, out = .inr (.inr (.inr (.inr (.inr (.inl t))))) → Wp w mdL_law (d + 13) 296 [none, none, none, none, none, none, none] [] t o M') (he5 : ∀ t : Gm, out = .inr (.inr (.inr (.inr (.inr (.inr (.inl t)))))) → Wp w mdL_law (d + 13) 332 [none, none, none, none, none, none, none] [] t o M') (he6 : ∀ t : Gm, out = .inr (.inr (.inr (.inr (.inr (.inr (.inr (.inl t))))))) → Wp w mdL_law (d + 13) 349 [none, none, none, none, none, none, none] [] t o M') (he7 : ∀ t : Gm, out = .inr (.inr (.inr (.inr (.inr (.inr (.inr (.inr (.inl t)))))))) → Wp w mdL_law (d + 13) 400 [none, none, none, none, none, none, none] [] t o M') (he8 : ∀ t : Gm, out = .inr (.inr (.inr (.inr (.inr (.inr (.inr (.inr (.inr (.inl t))))))))) → Wp w mdL_law (d + 13) 417 [none, none, none, none, none, none, none] [] t o M') (he9 : ∀ t : Gm, out = .inr (.inr (.inr (.inr (.inr (.inr (.inr (.inr (.inr (.inr (.inl t)))))))))) → Wp w mdL_law (d + 13) 468 [none, none, none, none, none, none, none] [] t o M') (he10 : ∀ t : Gm, out = .inr (.inr (.inr (.inr (.inr (.inr (.inr (.inr (.inr (.inr (.inr (.inl t))))))))))) → Wp w mdL_law (d + 13) 485 [none, none, none, none, none, none, none] [] t o M') (he11 : ∀ t : Gm, out = .inr (.inr (.inr (.inr (.inr (.inr (.inr (.inr (.inr (.inr (.inr (.inr (.inl t)))))))))))) → Wp w mdL_law (d + 13) 536 [none, none, none, none, none, none, none] [] t o M') (he12 : ∀ t : Gm, out = .inr (.inr (.inr (.inr (.inr (.inr (.inr (.inr (.inr (.inr (.inr (.inr (.inr (.inl t))))))))))))) → Wp w mdL_law (d + 13) 553 [none, none, none, none, none, none, none] [] t o M') (he13 : ∀ t : Gm, out = .inr (.inr (.inr (.inr (.inr (.inr (.inr (.inr (.inr (.inr (.inr (.inr (.inr (.inr (.inl t)))))))))))))) → Wp w mdL_law (d + 13) 616 [none, none, none, none, none, none, none] [] t o M') (he14 : ∀ t : Gm, out = .inr (.inr (.inr (.inr (.inr (.inr (.inr (.inr (.inr (.inr (.inr (.inr (.inr (.inr (.inr (.inl t))))))))))))))) → Wp w mdL_law (d + 13) 633 [none, none, none, none, none, none, none] [] t o M') (he15 : ∀ t : Gm, out = .inr (.inr (.inr (.inr (.inr (.inr (.inr (.inr (.inr (.inr (.inr (.inr (.inr (.inr (.inr (.inr (.inl t)))))))))))))))) → Wp w mdL_law (d + 13) 684 [none, none, none, none, none, none, none] [] t o M') (he16 : ∀ t : Gm, out = .inr (.inr (.inr (.inr (.inr (.inr (.inr (.inr (.inr (.inr (.inr (.inr (.inr (.inr (.inr (.inr (.inr (.inl t))))))))))))))))) → Wp w mdL_law (d + 13) 701 [none, none, none, none, none, none, none] [] t o M') (he17 : ∀ t : Gm, out = .inr (.inr (.inr (.inr (.inr (.inr (.inr (.inr (.inr (.inr (.inr (.inr (.inr (.inr (.inr (.inr (.inr (.inr (.inl t)))))))))))))))))) → Wp w mdL_law (d + 13) 764 [none, none, none, none, none, none, none] [] t o M') (he18 : ∀ t : Gm, out = .inr (.inr (.inr (.inr (.inr (.inr (.inr (.inr (.inr (.inr (.inr (.inr (.inr (.inr (.inr (.inr (.inr (.inr (.inr (.inl t))))))))))))))))))) → Wp w mdL_law (d + 13) 781 [none, none, none, none, none, none, none] [] t o M') (he19 : ∀ t : Gm, out = .inr (.inr (.inr (.inr (.inr (.inr (.inr (.inr (.inr (.inr (.inr (.inr (.inr (.inr (.inr (.inr (.inr (.inr (.inr (.inr (.inl t)))))))))))))))))))) → Wp w mdL_law (d + 13) 844 [none, none, none, none, none, none, none] [] t o M') (he20 : ∀ t : Gm, out = .inr (.inr (.inr (.inr (.inr (.inr (.inr (.inr (.inr (.inr (.inr (.inr (.inr (.inr (.inr (.inr (.inr (.inr (.inr (.inr (.inr (.inl t))))))))))))))))))))) → Wp w mdL_law (d + 13) 861 [none, none, none, none, none, none, none] [] t o M') (he21 : ∀ t : Gm, out = .inr (.inr (.inr (.inr (.inr (.inr (.inr (.inr (.inr (.inr (.inr (.inr (.inr (.inr (.inr (.inr (.inr (.inr (.inr (.inr (.inr (.inr (.inl t)))))))))))))))))))))) → Wp w mdL_law (d + 13) 912 [none, none, none, none, none, none, none] [] t o M') (he22 : ∀ t : Gm, out = .inr (.inr (.inr (.inr (.inr (.inr (.inr (.inr (.inr (.inr (.inr (.inr (.inr (.inr (.inr (.inr (.inr (.inr (.inr (.inr (.inr (.inr (.inr (.inl t))))))))))))))))))))))) → Wp w mdL_law (d + 13) 929 [none, none, none, none, none, none, none] [] t o M') (he23 : ∀ t : Gm, out = .inr (.inr (.inr (.inr (.inr (.inr (.inr (.inr (.inr (.inr (.inr (.inr (.inr (.inr (.inr (.inr (.inr (.inr (.inr (.inr (.inr (.inr (.inr (.inr (.inl t)))))))))))))))))))))))) → Wp w mdL_law (d + 13) 957 [none, none, none, none, none, none, none] [] t o M') (he24 : ∀ t : Gm, out = .inr (.inr (.inr (.inr (.inr (.inr (.inr (.inr (.inr (.inr (.inr (.inr (.inr (.inr (.inr (.inr (.inr (.inr (.inr (.inr (.inr (.inr (.inr (.inr (.inr (.inl t))))))))))))))))))))))))) → Wp w mdL_law (d + 13) 994 [none, none, none, none, none, none, none] [] t o M') (he25 : ∀ t : Gm, out = .inr (.inr (.inr (.inr (.inr (.inr (.inr (.inr (.inr (.inr (.inr (.inr (.inr (.inr (.inr (.inr (.inr (.inr (.inr (.inr (.inr (.inr (.inr (.inr (.inr (.inr (.inl t)))))))))))))))))))))))))) → Wp w mdL_law (d + 13) 1031 [none, none, none, none, none, none, none] [] t o M') (he26 : ∀ t : Gm, out = .inr (.inr (.inr (.inr (.inr (.inr (.inr (.inr (.inr (.inr (.inr (.inr (.inr (.inr (.inr (.inr (.inr (.inr (.inr (.inr (.inr (.inr (.inr (.inr (.inr (.inr (.inr (.inl t))))))))))))))))))))))))))) → Wp w mdL_law (d + 13) 1056 [none, none, none, none, none, none, none] [] t o M') (he27 : ∀ t : Gm, out = .inr (.inr (.inr (.inr (.inr (.inr (.inr (.inr (.inr (.inr (.inr (.inr (.inr (.inr (.inr (.inr (.inr (.inr (.inr (.inr (.inr (.inr (.inr (.inr (.inr (.inr (.inr (.inr (.inl t)))))))))))))))))))))))))))) → Wp w mdL_law (d + 13) 1081 [none, none, none, none, none, none, none] [] t o M') (he28 : ∀ t : Gm, out = .inr (.inr (.inr (.inr (.inr (.inr (.inr (.inr (.inr (.inr (.inr (.inr (.inr (.inr (.inr (.inr (.inr (.inr (.inr (.inr (.inr (.inr (.inr (.inr (.inr (.inr (.inr (.inr (.inr (.inl t))))))))))))))))))))))))))))) → Wp w mdL_law (d + 13) 1094 [none, none, none, none, none, none, none] [] t o M') (he29 : ∀ t : Gm, out = .inr (.inr (.inr (.inr (.inr (.inr (.inr (.inr (.inr (.inr (.inr (.inr (.inr (.inr (.inr (.inr (.inr (.inr (.inr (.inr (.inr (.inr (.inr (.inr (.inr (.inr (.inr (.inr (.inr (.inr (.inl t)))))))))))))))))))))))))))))) → Wp w mdL_law (d + 13) 1143 [none, none, none, none, none, none, none] [] t o M') (he30 : ∀ t : Gm, out = .inr (.inr (.inr (.inr (.inr (.inr (.inr (.inr (.inr (.inr (.inr (.inr (.inr (.inr (.inr (.inr (.inr (.inr (.inr (.inr (.inr (.inr (.inr (.inr (.inr (.inr (.inr (.inr (.inr (.inr (.inr (.inl t))))))))))))))))))))))))))))))) → Wp w mdL_law (d + 13) 1191 [none, none, none, none, none, none, none] [] t o M') (he31 : ∀ t : Gm, out = .inr (.inr (.inr (.inr (.inr (.inr (.inr (.inr (.inr (.inr (.inr (.inr (.inr (.inr (.inr (.inr (.inr (.inr (.inr (.inr (.inr (.inr (.inr (.inr (.inr (.inr (.inr (.inr (.inr (.inr (.inr (.inr (.inl t)))))))))))))))))))))))))))))))) → Wp w mdL_law (d + 13) 1208 [none, none, none, none, none, none, none] [] t o M') (he32 : ∀ t : Gm, out = .inr (.inr (.inr (.inr (.inr (.inr (.inr (.inr (.inr (.inr (.inr (.inr (.inr (.inr (.inr (.inr (.inr (.inr (.inr (.inr (.inr (.inr (.inr (.inr (.inr (.inr (.inr (.inr (.inr (.inr (.inr (.inr (.inr (.inl t))))))))))))))))))))))))))))))))) → Wp w mdL_law (d + 13) 1259 [none, none, none, none, none, none, none] [] t o M') (he33 : ∀ t : Gm, out = .inr (.inr (.inr (.inr (.inr (.inr (.inr (.inr (.inr (.inr (.inr (.inr (.inr (.inr (.inr (.inr (.inr (.inr (.inr (.inr (.inr (.inr (.inr (.inr (.inr (.inr (.inr (.inr (.inr (.inr (.inr (.inr (.inr (.inr (.inl t)))))))))))))))))))))))))))))))))) → Wp w mdL_law (d + 13) 1276 [none, none, none, none, none, none, none] [] t o M') (he34 : ∀ t : Gm, out = .inr (.inr (.inr (.inr (.inr (.inr (.inr (.inr (.inr (.inr (.inr (.inr (.inr (.inr (.inr (.inr (.inr (.inr (.inr (.inr (.inr (.inr (.inr (.inr (.inr (.inr (.inr (.inr (.inr (.inr (.inr (.inr (.inr (.inr (.inr (.inl t))))))))))))))))))))))))))))))))))) → Wp w mdL_law (d + 13) 1350 [none, none, none, none, none, none, none] [] t o M') (he35 : ∀ t : Gm, out = .inr (.inr (.inr (.inr (.inr (.inr (.inr (.inr (.inr (.inr (.inr (.inr (.inr (.inr (.inr (.inr (.inr (.inr (.inr (.inr (.inr (.inr (.inr (.inr (.inr (.inr (.inr (.inr (.inr (.inr (.inr (.inr (.inr (.inr (.inr (.inr (.inl t)))))))))))))))))))))))))))))))))))) → Wp w mdL_law (d + 13) 1367 [none, none, none, none, none, none, none] [] t o M') (he36 : ∀ t : Gm, out = .inr (.inr (.inr (.inr (.inr (.inr (.inr (.inr (.inr (.inr (.inr (.inr (.inr (.inr (.inr (.inr (.inr (.inr (.inr (.inr (.inr (.inr (.inr (.inr (.inr (.inr (.inr (.inr (.inr (.inr (.inr (.inr (.inr (.inr (.inr (.inr (.inr t)))))))))))))))))))))))))))))))))))) → Wp w mdL_law (d + 13) 1394 [none, none, none, none, none, none, none] [] t o M') : Wp w mdL_law (d + 13) 1278 [some (.inr 1), some (.inr x1), some (.inr x2), some (.inr x3), some (.inl x4), none, none] [] M o M' := by
  unfold L_law_J1278 at h
  refine wp_goto (tgt := 1396) dL_law_1278 (by decide) ?_
  exact wp_ls (lsS (lsS (lsS (lsS (lsS (lsN (lsN lsZ))))))) (L_law_J1396_ok hX h hc he0 he1 he2 he3 he4 he5 he6 he7 he8 he9 he10 he11 he12 he13 he14 he15 he16 he17 he18 he19 he20 he21 he22 he23 he24 he25 he26 he27 he28 he29 he30 he31 he32 he33 he34 he35 he36)

theorem L_law_J1369_ok {w : Gw} {d : Nat} {L : Nat} {xs : Nat → Int32} {x1 : Nat} {x2 : Nat} {x3 : Nat} {x4 : Int32} {M : Gm} (hX : va_X (rho w 1) L xs w.1 w.1.heap) {o : Go} {M' : Gm} {out : (Int32 × Gm) ⊕ Gm ⊕ Gm ⊕ Gm ⊕ Gm ⊕ Gm ⊕ Gm ⊕ Gm ⊕ Gm ⊕ Gm ⊕ Gm ⊕ Gm ⊕ Gm ⊕ Gm ⊕ Gm ⊕ Gm ⊕ Gm ⊕ Gm ⊕ Gm ⊕ Gm ⊕ Gm ⊕ Gm ⊕ Gm ⊕ Gm ⊕ Gm ⊕ Gm ⊕ Gm ⊕ Gm ⊕ Gm ⊕ Gm ⊕ Gm ⊕ Gm ⊕ Gm ⊕ Gm ⊕ Gm ⊕ Gm ⊕ Gm ⊕ Gm} (h : L_law_J1369 L xs x1 x2 x3 x4 M = some out) (hc : ∀ t : Int32 × Gm, out = .inl t → Wp w mdL_law (d + 13) 23 [some (.inr 1), some (.inr x1), some (.inr x2), some (.inr x3), some (.inl t.1), none, none] [] t.2 o M') (he0 : ∀ t : Gm, out = .inr (.inl t) → Wp w mdL_law (d + 13) 1402 [none, none, none, none, none, none, none] [] t o M') (he1 : ∀ t : Gm, out = .inr (.inr (.inl t)) → Wp w mdL_law (d + 13) 227 [none, none, none, none, none, none, none] [] t o M') (he2 : ∀ t : Gm, out = .inr (.inr (.inr (.inl t))) → Wp w mdL_law (d + 13) 263 [none, none, none, none, none, none, none] [] t o M') (he3 : ∀ t : Gm, out = .inr (.inr (.inr (.inr (.inl t)))) → Wp w mdL_law (d + 13) 280 [none, none, none, none, none, none, none] [] t o M') (he4 : ∀ t : Gm, out = .inr (.inr (.inr (.inr (.inr (.inl t))))) → Wp w mdL_law (d + 13) 296 [none, none, none, none, none, none, none] [] t o M') (he5 : ∀ t : Gm, out = .inr (.inr (.inr (.inr (.inr (.inr (.inl t)))))) → Wp w mdL_law (d + 13) 332 [none, none, none, none, none, none, none] [] t o M') (he6 : ∀ t : Gm, out = .inr (.inr (.inr (.inr (.inr (.inr (.inr (.inl t))))))) → Wp w mdL_law (d + 13) 349 [none, none, none, none, none, none, none] [] t o M') (he7 : ∀ t : Gm, out = .inr (.inr (.inr (.inr (.inr (.inr (.inr (.inr (.inl t)))))))) → Wp w mdL_law (d + 13) 400 [none, none, none, none, none, none, none] [] t o M') (he8 : ∀ t : Gm, out = .inr (.inr (.inr (.inr (.inr (.inr (.inr (.inr (.inr (.inl t))))))))) → Wp w mdL_law (d + 13) 417 [none, none, none, none, none, none, none] [] t o M') (he9 : ∀ t : Gm, out = .inr (.inr (.inr (.inr (.inr (.inr (.inr (.inr (.inr (.inr (.inl t)))))))))) → Wp w mdL_law (d + 13) 468 [none, none, none, none, none, none, none] [] t o M') (he10 : ∀ t : Gm, out = .inr (.inr (.inr (.inr (.inr (.inr (.inr (.inr (.inr (.inr (.inr (.inl t))))))))))) → Wp w mdL_law (d + 13) 485 [none, none, none, none, none, none, none] [] t o M') (he11 : ∀ t : Gm, out = .inr (.inr (.inr (.inr (.inr (.inr (.inr (.inr (.inr (.inr (.inr (.inr (.inl t)))))))))))) → Wp w mdL_law (d + 13) 536 [none, none, none, none, none, none, none] [] t o M') (he12 : ∀ t : Gm, out = .inr (.inr (.inr (.inr (.inr (.inr (.inr (.inr (.inr (.inr (.inr (.inr (.inr (.inl t))))))))))))) → Wp w mdL_law (d + 13) 553 [none, none, none, none, none, none, none] [] t o M') (he13 : ∀ t : Gm, out = .inr (.inr (.inr (.inr (.inr (.inr (.inr (.inr (.inr (.inr (.inr (.inr (.inr (.inr (.inl t)))))))))))))) → Wp w mdL_law (d + 13) 616 [none, none, none, none, none, none, none] [] t o M') (he14 : ∀ t : Gm, out = .inr (.inr (.inr (.inr (.inr (.inr (.inr (.inr (.inr (.inr (.inr (.inr (.inr (.inr (.inr (.inl t))))))))))))))) → Wp w mdL_law (d + 13) 633 [none, none, none, none, none, none, none] [] t o M') (he15 : ∀ t : Gm, out = .inr (.inr (.inr (.inr (.inr (.inr (.inr (.inr (.inr (.inr (.inr (.inr (.inr (.inr (.inr (.inr (.inl t)))))))))))))))) → Wp w mdL_law (d + 13) 684 [none, none, none, none, none, none, none] [] t o M') (he16 : ∀ t : Gm, out = .inr (.inr (.inr (.inr (.inr (.inr (.inr (.inr (.inr (.inr (.inr (.inr (.inr (.inr (.inr (.inr (.inr (.inl t))))))))))))))))) → Wp w mdL_law (d + 13) 701 [none, none, none, none, none, none, none] [] t o M') (he17 : ∀ t : Gm, out = .inr (.inr (.inr (.inr (.inr (.inr (.inr (.inr (.inr (.inr (.inr (.inr (.inr (.inr (.inr (.inr (.inr (.inr (.inl t)))))))))))))))))) → Wp w mdL_law (d + 13) 764 [none, none, none, none, none, none, none] [] t o M') (he18 : ∀ t : Gm, out = .inr (.inr (.inr (.inr (.inr (.inr (.inr (.inr (.inr (.inr (.inr (.inr (.inr (.inr (.inr (.inr (.inr (.inr (.inr (.inl t))))))))))))))))))) → Wp w mdL_law (d + 13) 781 [none, none, none, none, none, none, none] [] t o M') (he19 : ∀ t : Gm, out = .inr (.inr (.inr (.inr (.inr (.inr (.inr (.inr (.inr (.inr (.inr (.inr (.inr (.inr (.inr (.inr (.inr (.inr (.inr (.inr (.inl t)))))))))))))))))))) → Wp w mdL_law (d + 13) 844 [none, none, none, none, none, none, none] [] t o M') (he20 : ∀ t : Gm, out = .inr (.inr (.inr (.inr (.inr (.inr (.inr (.inr (.inr (.inr (.inr (.inr (.inr (.inr (.inr (.inr (.inr (.inr (.inr (.inr (.inr (.inl t))))))))))))))))))))) → Wp w mdL_law (d + 13) 861 [none, none, none, none, none, none, none] [] t o M') (he21 : ∀ t : Gm, out = .inr (.inr (.inr (.inr (.inr (.inr (.inr (.inr (.inr (.inr (.inr (.inr (.inr (.inr (.inr (.inr (.inr (.inr (.inr (.inr (.inr (.inr (.inl t)))))))))))))))))))))) → Wp w mdL_law (d + 13) 912 [none, none, none, none, none, none, none] [] t o M') (he22 : ∀ t : Gm, out = .inr (.inr (.inr (.inr (.inr (.inr (.inr (.inr (.inr (.inr (.inr (.inr (.inr (.inr (.inr (.inr (.inr (.inr (.inr (.inr (.inr (.inr (.inr (.inl t))))))))))))))))))))))) → Wp w mdL_law (d + 13) 929 [none, none, none, none, none, none, none] [] t o M') (he23 : ∀ t : Gm, out = .inr (.inr (.inr (.inr (.inr (.inr (.inr (.inr (.inr (.inr (.inr (.inr (.inr (.inr (.inr (.inr (.inr (.inr (.inr (.inr (.inr (.inr (.inr (.inr (.inl t)))))))))))))))))))))))) → Wp w mdL_law (d + 13) 957 [none, none, none, none, none, none, none] [] t o M') (he24 : ∀ t : Gm, out = .inr (.inr (.inr (.inr (.inr (.inr (.inr (.inr (.inr (.inr (.inr (.inr (.inr (.inr (.inr (.inr (.inr (.inr (.inr (.inr (.inr (.inr (.inr (.inr (.inr (.inl t))))))))))))))))))))))))) → Wp w mdL_law (d + 13) 994 [none, none, none, none, none, none, none] [] t o M') (he25 : ∀ t : Gm, out = .inr (.inr (.inr (.inr (.inr (.inr (.inr (.inr (.inr (.inr (.inr (.inr (.inr (.inr (.inr (.inr (.inr (.inr (.inr (.inr (.inr (.inr (.inr (.inr (.inr (.inr (.inl t)))))))))))))))))))))))))) → Wp w mdL_law (d + 13) 1031 [none, none, none, none, none, none, none] [] t o M') (he26 : ∀ t : Gm, out = .inr (.inr (.inr (.inr (.inr (.inr (.inr (.inr (.inr (.inr (.inr (.inr (.inr (.inr (.inr (.inr (.inr (.inr (.inr (.inr (.inr (.inr (.inr (.inr (.inr (.inr (.inr (.inl t))))))))))))))))))))))))))) → Wp w mdL_law (d + 13) 1056 [none, none, none, none, none, none, none] [] t o M') (he27 : ∀ t : Gm, out = .inr (.inr (.inr (.inr (.inr (.inr (.inr (.inr (.inr (.inr (.inr (.inr (.inr (.inr (.inr (.inr (.inr (.inr (.inr (.inr (.inr (.inr (.inr (.inr (.inr (.inr (.inr (.inr (.inl t)))))))))))))))))))))))))))) → Wp w mdL_law (d + 13) 1081 [none, none, none, none, none, none, none] [] t o M') (he28 : ∀ t : Gm, out = .inr (.inr (.inr (.inr (.inr (.inr (.inr (.inr (.inr (.inr (.inr (.inr (.inr (.inr (.inr (.inr (.inr (.inr (.inr (.inr (.inr (.inr (.inr (.inr (.inr (.inr (.inr (.inr (.inr (.inl t))))))))))))))))))))))))))))) → Wp w mdL_law (d + 13) 1094 [none, none, none, none, none, none, none] [] t o M') (he29 : ∀ t : Gm, out = .inr (.inr (.inr (.inr (.inr (.inr (.inr (.inr (.inr (.inr (.inr (.inr (.inr (.inr (.inr (.inr (.inr (.inr (.inr (.inr (.inr (.inr (.inr (.inr (.inr (.inr (.inr (.inr (.inr (.inr (.inl t)))))))))))))))))))))))))))))) → Wp w mdL_law (d + 13) 1143 [none, none, none, none, none, none, none] [] t o M') (he30 : ∀ t : Gm, out = .inr (.inr (.inr (.inr (.inr (.inr (.inr (.inr (.inr (.inr (.inr (.inr (.inr (.inr (.inr (.inr (.inr (.inr (.inr (.inr (.inr (.inr (.inr (.inr (.inr (.inr (.inr (.inr (.inr (.inr (.inr (.inl t))))))))))))))))))))))))))))))) → Wp w mdL_law (d + 13) 1191 [none, none, none, none, none, none, none] [] t o M') (he31 : ∀ t : Gm, out = .inr (.inr (.inr (.inr (.inr (.inr (.inr (.inr (.inr (.inr (.inr (.inr (.inr (.inr (.inr (.inr (.inr (.inr (.inr (.inr (.inr (.inr (.inr (.inr (.inr (.inr (.inr (.inr (.inr (.inr (.inr (.inr (.inl t)))))))))))))))))))))))))))))))) → Wp w mdL_law (d + 13) 1208 [none, none, none, none, none, none, none] [] t o M') (he32 : ∀ t : Gm, out = .inr (.inr (.inr (.inr (.inr (.inr (.inr (.inr (.inr (.inr (.inr (.inr (.inr (.inr (.inr (.inr (.inr (.inr (.inr (.inr (.inr (.inr (.inr (.inr (.inr (.inr (.inr (.inr (.inr (.inr (.inr (.inr (.inr (.inl t))))))))))))))))))))))))))))))))) → Wp w mdL_law (d + 13) 1259 [none, none, none, none, none, none, none] [] t o M') (he33 : ∀ t : Gm, out = .inr (.inr (.inr (.inr (.inr (.inr (.inr (.inr (.inr (.inr (.inr (.inr (.inr (.inr (.inr (.inr (.inr (.inr (.inr (.inr (.inr (.inr (.inr (.inr (.inr (.inr (.inr (.inr (.inr (.inr (.inr (.inr (.inr (.inr (.inl t)))))))))))))))))))))))))))))))))) → Wp w mdL_law (d + 13) 1276 [none, none, none, none, none, none, none] [] t o M') (he34 : ∀ t : Gm, out = .inr (.inr (.inr (.inr (.inr (.inr (.inr (.inr (.inr (.inr (.inr (.inr (.inr (.inr (.inr (.inr (.inr (.inr (.inr (.inr (.inr (.inr (.inr (.inr (.inr (.inr (.inr (.inr (.inr (.inr (.inr (.inr (.inr (.inr (.inr (.inl t))))))))))))))))))))))))))))))))))) → Wp w mdL_law (d + 13) 1350 [none, none, none, none, none, none, none] [] t o M') (he35 : ∀ t : Gm, out = .inr (.inr (.inr (.inr (.inr (.inr (.inr (.inr (.inr (.inr (.inr (.inr (.inr (.inr (.inr (.inr (.inr (.inr (.inr (.inr (.inr (.inr (.inr (.inr (.inr (.inr (.inr (.inr (.inr (.inr (.inr (.inr (.inr (.inr (.inr (.inr (.inl t)))))))))))))))))))))))))))))))))))) → Wp w mdL_law (d + 13) 1367 [none, none, none, none, none, none, none] [] t o M') (he36 : ∀ t : Gm, out = .inr (.inr (.inr (.inr (.inr (.inr (.inr (.inr (.inr (.inr (.inr (.inr (.inr (.inr (.inr (.inr (.inr (.inr (.inr (.inr (.inr (.inr (.inr (.inr (.inr (.inr (.inr (.inr (.inr (.inr (.inr (.inr (.inr (.inr (.inr (.inr (.inr t)))))))))))))))))))))))))))))))))))) → Wp w mdL_law (d + 13) 1394 [none, none, none, none, none, none, none] [] t o M') : Wp w mdL_law (d + 13) 1369 [some (.inr 1), some (.inr x1), some (.inr x2), some (.inr x3), some (.inl x4), none, none] [] M o M' := by
  unfold L_law_J1369 at h
  refine wp_goto (tgt := 1396) dL_law_1369 (by decide) ?_
  exact wp_ls (lsS (lsS (lsS (lsS (lsS (lsN (lsN lsZ))))))) (L_law_J1396_ok hX h hc he0 he1 he2 he3 he4 he5 he6 he7 he8 he9 he10 he11 he12 he13 he14 he15 he16 he17 he18 he19 he20 he21 he22 he23 he24 he25 he26 he27 he28 he29 he30 he31 he32 he33 he34 he35 he36)

theorem L_law_B23_ok {w : Gw} {d : Nat} {L : Nat} {xs : Nat → Int32} {x1 : Nat} {x2 : Nat} {x3 : Nat} {q : Int32 × Gm} (hX : va_X (rho w 1) L xs w.1 w.1.heap) {o : Go} {M' : Gm} {out : (Int32 × Gm) ⊕ Gm ⊕ Gm ⊕ Gm ⊕ Gm ⊕ Gm ⊕ Gm ⊕ Gm ⊕ Gm ⊕ Gm ⊕ Gm ⊕ Gm ⊕ Gm ⊕ Gm ⊕ Gm ⊕ Gm ⊕ Gm ⊕ Gm ⊕ Gm ⊕ Gm ⊕ Gm ⊕ Gm ⊕ Gm ⊕ Gm ⊕ Gm ⊕ Gm ⊕ Gm ⊕ Gm ⊕ Gm ⊕ Gm ⊕ Gm ⊕ Gm ⊕ Gm ⊕ Gm ⊕ Gm ⊕ Gm ⊕ Gm ⊕ Gm} (h : L_law_B23 L xs x1 x2 x3 q = some out) (hc : ∀ t : Int32 × Gm, out = .inl t → Wp w mdL_law (d + 13) 23 [some (.inr 1), some (.inr x1), some (.inr x2), some (.inr x3), some (.inl t.1), none, none] [] t.2 o M') (he0 : ∀ t : Gm, out = .inr (.inl t) → Wp w mdL_law (d + 13) 1402 [none, none, none, none, none, none, none] [] t o M') (he1 : ∀ t : Gm, out = .inr (.inr (.inl t)) → Wp w mdL_law (d + 13) 227 [none, none, none, none, none, none, none] [] t o M') (he2 : ∀ t : Gm, out = .inr (.inr (.inr (.inl t))) → Wp w mdL_law (d + 13) 263 [none, none, none, none, none, none, none] [] t o M') (he3 : ∀ t : Gm, out = .inr (.inr (.inr (.inr (.inl t)))) → Wp w mdL_law (d + 13) 280 [none, none, none, none, none, none, none] [] t o M') (he4 : ∀ t : Gm, out = .inr (.inr (.inr (.inr (.inr (.inl t))))) → Wp w mdL_law (d + 13) 296 [none, none, none, none, none, none, none] [] t o M') (he5 : ∀ t : Gm, out = .inr (.inr (.inr (.inr (.inr (.inr (.inl t)))))) → Wp w mdL_law (d + 13) 332 [none, none, none, none, none, none, none] [] t o M') (he6 : ∀ t : Gm, out = .inr (.inr (.inr (.inr (.inr (.inr (.inr (.inl t))))))) → Wp w mdL_law (d + 13) 349 [none, none, none, none, none, none, none] [] t o M') (he7 : ∀ t : Gm, out = .inr (.inr (.inr (.inr (.inr (.inr (.inr (.inr (.inl t)))))))) → Wp w mdL_law (d + 13) 400 [none, none, none, none, none, none, none] [] t o M') (he8 : ∀ t : Gm, out = .inr (.inr (.inr (.inr (.inr (.inr (.inr (.inr (.inr (.inl t))))))))) → Wp w mdL_law (d + 13) 417 [none, none, none, none, none, none, none] [] t o M') (he9 : ∀ t : Gm, out = .inr (.inr (.inr (.inr (.inr (.inr (.inr (.inr (.inr (.inr (.inl t)))))))))) → Wp w mdL_law (d + 13) 468 [none, none, none, none, none, none, none] [] t o M') (he10 : ∀ t : Gm, out = .inr (.inr (.inr (.inr (.inr (.inr (.inr (.inr (.inr (.inr (.inr (.inl t))))))))))) → Wp w mdL_law (d + 13) 485 [none, none, none, none, none, none, none] [] t o M') (he11 : ∀ t : Gm, out = .inr (.inr (.inr (.inr (.inr (.inr (.inr (.inr (.inr (.inr (.inr (.inr (.inl t)))))))))))) → Wp w mdL_law (d + 13) 536 [none, none, none, none, none, none, none] [] t o M') (he12 : ∀ t : Gm, out = .inr (.inr (.inr (.inr (.inr (.inr (.inr (.inr (.inr (.inr (.inr (.inr (.inr (.inl t))))))))))))) → Wp w mdL_law (d + 13) 553 [none, none, none, none, none, none, none] [] t o M') (he13 : ∀ t : Gm, out = .inr (.inr (.inr (.inr (.inr (.inr (.inr (.inr (.inr (.inr (.inr (.inr (.inr (.inr (.inl t)))))))))))))) → Wp w mdL_law (d + 13) 616 [none, none, none, none, none, none, none] [] t o M') (he14 : ∀ t : Gm, out = .inr (.inr (.inr (.inr (.inr (.inr (.inr (.inr (.inr (.inr (.inr (.inr (.inr (.inr (.inr (.inl t))))))))))))))) → Wp w mdL_law (d + 13) 633 [none, none, none, none, none, none, none] [] t o M') (he15 : ∀ t : Gm, out = .inr (.inr (.inr (.inr (.inr (.inr (.inr (.inr (.inr (.inr (.inr (.inr (.inr (.inr (.inr (.inr (.inl t)))))))))))))))) → Wp w mdL_law (d + 13) 684 [none, none, none, none, none, none, none] [] t o M') (he16 : ∀ t : Gm, out = .inr (.inr (.inr (.inr (.inr (.inr (.inr (.inr (.inr (.inr (.inr (.inr (.inr (.inr (.inr (.inr (.inr (.inl t))))))))))))))))) → Wp w mdL_law (d + 13) 701 [none, none, none, none, none, none, none] [] t o M') (he17 : ∀ t : Gm, out = .inr (.inr (.inr (.inr (.inr (.inr (.inr (.inr (.inr (.inr (.inr (.inr (.inr (.inr (.inr (.inr (.inr (.inr (.inl t)))))))))))))))))) → Wp w mdL_law (d + 13) 764 [none, none, none, none, none, none, none] [] t o M') (he18 : ∀ t : Gm, out = .inr (.inr (.inr (.inr (.inr (.inr (.inr (.inr (.inr (.inr (.inr (.inr (.inr (.inr (.inr (.inr (.inr (.inr (.inr (.inl t))))))))))))))))))) → Wp w mdL_law (d + 13) 781 [none, none, none, none, none, none, none] [] t o M') (he19 : ∀ t : Gm, out = .inr (.inr (.inr (.inr (.inr (.inr (.inr (.inr (.inr (.inr (.inr (.inr (.inr (.inr (.inr (.inr (.inr (.inr (.inr (.inr (.inl t)))))))))))))))))))) → Wp w mdL_law (d + 13) 844 [none, none, none, none, none, none, none] [] t o M') (he20 : ∀ t : Gm, out = .inr (.inr (.inr (.inr (.inr (.inr (.inr (.inr (.inr (.inr (.inr (.inr (.inr (.inr (.inr (.inr (.inr (.inr (.inr (.inr (.inr (.inl t))))))))))))))))))))) → Wp w mdL_law (d + 13) 861 [none, none, none, none, none, none, none] [] t o M') (he21 : ∀ t : Gm, out = .inr (.inr (.inr (.inr (.inr (.inr (.inr (.inr (.inr (.inr (.inr (.inr (.inr (.inr (.inr (.inr (.inr (.inr (.inr (.inr (.inr (.inr (.inl t)))))))))))))))))))))) → Wp w mdL_law (d + 13) 912 [none, none, none, none, none, none, none] [] t o M') (he22 : ∀ t : Gm, out = .inr (.inr (.inr (.inr (.inr (.inr (.inr (.inr (.inr (.inr (.inr (.inr (.inr (.inr (.inr (.inr (.inr (.inr (.inr (.inr (.inr (.inr (.inr (.inl t))))))))))))))))))))))) → Wp w mdL_law (d + 13) 929 [none, none, none, none, none, none, none] [] t o M') (he23 : ∀ t : Gm, out = .inr (.inr (.inr (.inr (.inr (.inr (.inr (.inr (.inr (.inr (.inr (.inr (.inr (.inr (.inr (.inr (.inr (.inr (.inr (.inr (.inr (.inr (.inr (.inr (.inl t)))))))))))))))))))))))) → Wp w mdL_law (d + 13) 957 [none, none, none, none, none, none, none] [] t o M') (he24 : ∀ t : Gm, out = .inr (.inr (.inr (.inr (.inr (.inr (.inr (.inr (.inr (.inr (.inr (.inr (.inr (.inr (.inr (.inr (.inr (.inr (.inr (.inr (.inr (.inr (.inr (.inr (.inr (.inl t))))))))))))))))))))))))) → Wp w mdL_law (d + 13) 994 [none, none, none, none, none, none, none] [] t o M') (he25 : ∀ t : Gm, out = .inr (.inr (.inr (.inr (.inr (.inr (.inr (.inr (.inr (.inr (.inr (.inr (.inr (.inr (.inr (.inr (.inr (.inr (.inr (.inr (.inr (.inr (.inr (.inr (.inr (.inr (.inl t)))))))))))))))))))))))))) → Wp w mdL_law (d + 13) 1031 [none, none, none, none, none, none, none] [] t o M') (he26 : ∀ t : Gm, out = .inr (.inr (.inr (.inr (.inr (.inr (.inr (.inr (.inr (.inr (.inr (.inr (.inr (.inr (.inr (.inr (.inr (.inr (.inr (.inr (.inr (.inr (.inr (.inr (.inr (.inr (.inr (.inl t))))))))))))))))))))))))))) → Wp w mdL_law (d + 13) 1056 [none, none, none, none, none, none, none] [] t o M') (he27 : ∀ t : Gm, out = .inr (.inr (.inr (.inr (.inr (.inr (.inr (.inr (.inr (.inr (.inr (.inr (.inr (.inr (.inr (.inr (.inr (.inr (.inr (.inr (.inr (.inr (.inr (.inr (.inr (.inr (.inr (.inr (.inl t)))))))))))))))))))))))))))) → Wp w mdL_law (d + 13) 1081 [none, none, none, none, none, none, none] [] t o M') (he28 : ∀ t : Gm, out = .inr (.inr (.inr (.inr (.inr (.inr (.inr (.inr (.inr (.inr (.inr (.inr (.inr (.inr (.inr (.inr (.inr (.inr (.inr (.inr (.inr (.inr (.inr (.inr (.inr (.inr (.inr (.inr (.inr (.inl t))))))))))))))))))))))))))))) → Wp w mdL_law (d + 13) 1094 [none, none, none, none, none, none, none] [] t o M') (he29 : ∀ t : Gm, out = .inr (.inr (.inr (.inr (.inr (.inr (.inr (.inr (.inr (.inr (.inr (.inr (.inr (.inr (.inr (.inr (.inr (.inr (.inr (.inr (.inr (.inr (.inr (.inr (.inr (.inr (.inr (.inr (.inr (.inr (.inl t)))))))))))))))))))))))))))))) → Wp w mdL_law (d + 13) 1143 [none, none, none, none, none, none, none] [] t o M') (he30 : ∀ t : Gm, out = .inr (.inr (.inr (.inr (.inr (.inr (.inr (.inr (.inr (.inr (.inr (.inr (.inr (.inr (.inr (.inr (.inr (.inr (.inr (.inr (.inr (.inr (.inr (.inr (.inr (.inr (.inr (.inr (.inr (.inr (.inr (.inl t))))))))))))))))))))))))))))))) → Wp w mdL_law (d + 13) 1191 [none, none, none, none, none, none, none] [] t o M') (he31 : ∀ t : Gm, out = .inr (.inr (.inr (.inr (.inr (.inr (.inr (.inr (.inr (.inr (.inr (.inr (.inr (.inr (.inr (.inr (.inr (.inr (.inr (.inr (.inr (.inr (.inr (.inr (.inr (.inr (.inr (.inr (.inr (.inr (.inr (.inr (.inl t)))))))))))))))))))))))))))))))) → Wp w mdL_law (d + 13) 1208 [none, none, none, none, none, none, none] [] t o M') (he32 : ∀ t : Gm, out = .inr (.inr (.inr (.inr (.inr (.inr (.inr (.inr (.inr (.inr (.inr (.inr (.inr (.inr (.inr (.inr (.inr (.inr (.inr (.inr (.inr (.inr (.inr (.inr (.inr (.inr (.inr (.inr (.inr (.inr (.inr (.inr (.inr (.inl t))))))))))))))))))))))))))))))))) → Wp w mdL_law (d + 13) 1259 [none, none, none, none, none, none, none] [] t o M') (he33 : ∀ t : Gm, out = .inr (.inr (.inr (.inr (.inr (.inr (.inr (.inr (.inr (.inr (.inr (.inr (.inr (.inr (.inr (.inr (.inr (.inr (.inr (.inr (.inr (.inr (.inr (.inr (.inr (.inr (.inr (.inr (.inr (.inr (.inr (.inr (.inr (.inr (.inl t)))))))))))))))))))))))))))))))))) → Wp w mdL_law (d + 13) 1276 [none, none, none, none, none, none, none] [] t o M') (he34 : ∀ t : Gm, out = .inr (.inr (.inr (.inr (.inr (.inr (.inr (.inr (.inr (.inr (.inr (.inr (.inr (.inr (.inr (.inr (.inr (.inr (.inr (.inr (.inr (.inr (.inr (.inr (.inr (.inr (.inr (.inr (.inr (.inr (.inr (.inr (.inr (.inr (.inr (.inl t))))))))))))))))))))))))))))))))))) → Wp w mdL_law (d + 13) 1350 [none, none, none, none, none, none, none] [] t o M') (he35 : ∀ t : Gm, out = .inr (.inr (.inr (.inr (.inr (.inr (.inr (.inr (.inr (.inr (.inr (.inr (.inr (.inr (.inr (.inr (.inr (.inr (.inr (.inr (.inr (.inr (.inr (.inr (.inr (.inr (.inr (.inr (.inr (.inr (.inr (.inr (.inr (.inr (.inr (.inr (.inl t)))))))))))))))))))))))))))))))))))) → Wp w mdL_law (d + 13) 1367 [none, none, none, none, none, none, none] [] t o M') (he36 : ∀ t : Gm, out = .inr (.inr (.inr (.inr (.inr (.inr (.inr (.inr (.inr (.inr (.inr (.inr (.inr (.inr (.inr (.inr (.inr (.inr (.inr (.inr (.inr (.inr (.inr (.inr (.inr (.inr (.inr (.inr (.inr (.inr (.inr (.inr (.inr (.inr (.inr (.inr (.inr t)))))))))))))))))))))))))))))))))))) → Wp w mdL_law (d + 13) 1394 [none, none, none, none, none, none, none] [] t o M') : Wp w mdL_law (d + 13) 23 [some (.inr 1), some (.inr x1), some (.inr x2), some (.inr x3), some (.inl q.1), none, none] [] q.2 o M' := by
  unfold L_law_B23 at h
  refine wp_iload dL_law_23 rfl ?_
  refine wp_aload_n dL_law_25 rfl ?_
  refine wp_scL hX dL_law_26 ?_
  refine wp_bipush (v := 6) dL_law_27 (by decide) ?_
  refine wp_isub dL_law_29 ?_
  refine wp_icmp_gt (tgt := 1402) dL_law_30 (by decide) (fun hc_ => ?_) (fun hc_ => ?_)
  · replace h := ite_t hc_ h
    cases h
    exact wp_ls (lsN (lsN (lsN (lsN (lsN (lsN (lsN lsZ))))))) (he0 q.2 rfl)
  · replace h := ite_f hc_ h
    refine wp_aload_n dL_law_33 rfl ?_
    refine wp_iload dL_law_34 rfl ?_
    obtain ⟨v1, e2, h⟩ := bnd h
    refine wp_scA hX dL_law_36 e2 ?_
    refine wp_bipush (v := 31) dL_law_37 (by decide) ?_
    refine wp_iand dL_law_39 ?_
    by_cases cz0 : (v1 &&& 31) = 0
    · replace h := ite_t cz0 h
      refine wp_tableIn (tgt := 156) dL_law_40 0 (by rw [cz0]; decide) (by decide) rfl (by decide) ?_
      refine wp_aload_n dL_law_156 rfl ?_
      refine wp_aload_n dL_law_157 rfl ?_
      refine wp_iload dL_law_158 rfl ?_
      refine wp_iconst (v := 1) dL_law_160 (by decide) ?_
      refine wp_iadd dL_law_161 ?_
      obtain ⟨v3, e4, h⟩ := bnd h
      refine wp_scA hX dL_law_162 e4 ?_
      refine wp_aload_n dL_law_163 rfl ?_
      refine wp_iload dL_law_164 rfl ?_
      refine wp_iconst (v := 2) dL_law_166 (by decide) ?_
      refine wp_iadd dL_law_167 ?_
      obtain ⟨v5, e6, h⟩ := bnd h
      refine wp_scA hX dL_law_168 e6 ?_
      refine wp_aload_n dL_law_169 rfl ?_
      refine wp_iload dL_law_170 rfl ?_
      refine wp_iconst (v := 3) dL_law_172 (by decide) ?_
      refine wp_iadd dL_law_173 ?_
      obtain ⟨v7, e8, h⟩ := bnd h
      refine wp_scA hX dL_law_174 e8 ?_
      refine wp_aload_n dL_law_175 rfl ?_
      refine wp_iload dL_law_176 rfl ?_
      refine wp_iconst (v := 4) dL_law_178 (by decide) ?_
      refine wp_iadd dL_law_179 ?_
      obtain ⟨v9, e10, h⟩ := bnd h
      refine wp_scA hX dL_law_180 e10 ?_
      refine wp_aload_n dL_law_181 rfl ?_
      refine wp_iload dL_law_182 rfl ?_
      refine wp_iconst (v := 5) dL_law_184 (by decide) ?_
      refine wp_iadd dL_law_185 ?_
      obtain ⟨v11, e12, h⟩ := bnd h
      refine wp_scA hX dL_law_186 e12 ?_
      obtain ⟨q13, e14, h⟩ := bnd h
      refine wp_callV (As := [.inl v3, .inl v5, .inl v7, .inl v9, .inl v11]) dL_law_187 (sh_X11_feed_ok (d := d + 11) e14) okX11_feed nnX11_feed vvX11_feed ml_RL_59 rfl (Nat.le_of_ble_eq_true rfl) ?_
      refine wp_aload_n dL_law_190 rfl ?_
      refine wp_aload_n dL_law_191 rfl ?_
      refine wp_iload dL_law_192 rfl ?_
      refine wp_iconst (v := 1) dL_law_194 (by decide) ?_
      refine wp_iadd dL_law_195 ?_
      obtain ⟨v15, e16, h⟩ := bnd h
      refine wp_scA hX dL_law_196 e16 ?_
      refine wp_aload_n dL_law_197 rfl ?_
      refine wp_iload dL_law_198 rfl ?_
      refine wp_iconst (v := 2) dL_law_200 (by decide) ?_
      refine wp_iadd dL_law_201 ?_
      obtain ⟨v17, e18, h⟩ := bnd h
      refine wp_scA hX dL_law_202 e18 ?_
      refine wp_aload_n dL_law_203 rfl ?_
      refine wp_iload dL_law_204 rfl ?_
      refine wp_iconst (v := 3) dL_law_206 (by decide) ?_
      refine wp_iadd dL_law_207 ?_
      obtain ⟨v19, e20, h⟩ := bnd h
      refine wp_scA hX dL_law_208 e20 ?_
      refine wp_aload_n dL_law_209 rfl ?_
      refine wp_iload dL_law_210 rfl ?_
      refine wp_iconst (v := 4) dL_law_212 (by decide) ?_
      refine wp_iadd dL_law_213 ?_
      obtain ⟨v21, e22, h⟩ := bnd h
      refine wp_scA hX dL_law_214 e22 ?_
      refine wp_aload_n dL_law_215 rfl ?_
      refine wp_iload dL_law_216 rfl ?_
      refine wp_iconst (v := 5) dL_law_218 (by decide) ?_
      refine wp_iadd dL_law_219 ?_
      obtain ⟨v23, e24, h⟩ := bnd h
      refine wp_scA hX dL_law_220 e24 ?_
      obtain ⟨q25, e26, h⟩ := bnd h
      refine wp_callV (As := [.inl v15, .inl v17, .inl v19, .inl v21, .inl v23]) dL_law_221 (sh_X12_feed_ok (d := d + 12) e26) okX12_feed nnX12_feed vvX12_feed ml_RL_63 rfl (Nat.le_of_ble_eq_true rfl) ?_
      refine wp_icmp_eq (tgt := 1396) dL_law_224 (by decide) (fun hc_ => ?_) (fun hc_ => ?_)
      · replace h := ite_t hc_ h
        exact wp_ls (lsS (lsS (lsS (lsS (lsS (lsN (lsN lsZ))))))) (L_law_J1396_ok hX h hc he0 he1 he2 he3 he4 he5 he6 he7 he8 he9 he10 he11 he12 he13 he14 he15 he16 he17 he18 he19 he20 he21 he22 he23 he24 he25 he26 he27 he28 he29 he30 he31 he32 he33 he34 he35 he36)
      · replace h := ite_f hc_ h
        cases h
        exact wp_ls (lsN (lsN (lsN (lsN (lsN (lsN (lsN lsZ))))))) (he1 q25.2 rfl)
    replace h := ite_f cz0 h
    by_cases cz1 : (v1 &&& 31) = 1
    · replace h := ite_t cz1 h
      refine wp_tableIn (tgt := 229) dL_law_40 1 (by rw [cz1]; decide) (by decide) rfl (by decide) ?_
      refine wp_aload_n dL_law_229 rfl ?_
      refine wp_aload_n dL_law_230 rfl ?_
      refine wp_iload dL_law_231 rfl ?_
      refine wp_iconst (v := 1) dL_law_233 (by decide) ?_
      refine wp_iadd dL_law_234 ?_
      obtain ⟨v27, e28, h⟩ := bnd h
      refine wp_scA hX dL_law_235 e28 ?_
      refine wp_aload_n dL_law_236 rfl ?_
      obtain ⟨q29, e30, h⟩ := bnd h
      refine wp_callSH (As := [.inr x1, .inl v27, .inr x3]) dL_law_237 (sh_L_plan_ok (d := d) e30) okL_plan nnL_plan ssL_plan ml_RL_64 rfl (Nat.le_of_ble_eq_true rfl) ?_
      refine wp_istore dL_law_240 (Nat.le_of_ble_eq_true rfl) ?_
      refine wp_aload_n dL_law_242 rfl ?_
      refine wp_aload_n dL_law_243 rfl ?_
      refine wp_iload dL_law_244 rfl ?_
      refine wp_iconst (v := 1) dL_law_246 (by decide) ?_
      refine wp_iadd dL_law_247 ?_
      obtain ⟨v31, e32, h⟩ := bnd h
      refine wp_scA hX dL_law_248 e32 ?_
      obtain ⟨q33, e34, h⟩ := bnd h
      refine wp_callV (As := [.inl v31]) dL_law_249 (sh_X12_plan_ok (d := d + 1) e34) okX12_plan nnX12_plan vvX12_plan ml_RL_69 rfl (Nat.le_of_ble_eq_true rfl) ?_
      refine wp_istore dL_law_252 (Nat.le_of_ble_eq_true rfl) ?_
      refine wp_aload_n dL_law_254 rfl ?_
      obtain ⟨q35, e36, h⟩ := bnd h
      refine wp_callV (As := []) dL_law_255 (sh_X12_thrown_ok (d := d + 12) e36) okX12_thrown nnX12_thrown vvX12_thrown ml_RL_70 rfl (Nat.le_of_ble_eq_true rfl) ?_
      refine wp_iload dL_law_258 rfl ?_
      refine wp_icmp_eq (tgt := 265) dL_law_260 (by decide) (fun hc_ => ?_) (fun hc_ => ?_)
      · replace h := ite_t hc_ h
        refine wp_iload dL_law_265 rfl ?_
        refine wp_if_ne (tgt := 282) dL_law_267 (by decide) (fun hc_ => ?_) (fun hc_ => ?_)
        · replace h := ite_f hc_ h
          exact wp_ls (lsS (lsS (lsS (lsS (lsS (lsN (lsN lsZ))))))) (L_law_J282_ok hX h hc he0 he1 he2 he3 he4 he5 he6 he7 he8 he9 he10 he11 he12 he13 he14 he15 he16 he17 he18 he19 he20 he21 he22 he23 he24 he25 he26 he27 he28 he29 he30 he31 he32 he33 he34 he35 he36)
        · replace h := ite_t hc_ h
          refine wp_aload_n dL_law_270 rfl ?_
          refine wp_iconst (v := 0) dL_law_271 (by decide) ?_
          obtain ⟨v37, e38, h⟩ := bnd h
          refine wp_lneq (tgt := 282) dL_law_272 dL_law_273 dL_law_275 dL_law_276 dL_law_277 e38 (by decide) rfl (fun hc_ => ?_) (fun hc_ => ?_)
          · replace h := ite_t hc_ h
            exact wp_ls (lsS (lsS (lsS (lsS (lsS (lsN (lsN lsZ))))))) (L_law_J282_ok hX h hc he0 he1 he2 he3 he4 he5 he6 he7 he8 he9 he10 he11 he12 he13 he14 he15 he16 he17 he18 he19 he20 he21 he22 he23 he24 he25 he26 he27 he28 he29 he30 he31 he32 he33 he34 he35 he36)
          · replace h := ite_f hc_ h
            cases h
            exact wp_ls (lsN (lsN (lsN (lsN (lsN (lsN (lsN lsZ))))))) (he3 q33.2 rfl)
      · replace h := ite_f hc_ h
        cases h
        exact wp_ls (lsN (lsN (lsN (lsN (lsN (lsN (lsN lsZ))))))) (he2 q33.2 rfl)
    replace h := ite_f cz1 h
    by_cases cz2 : (v1 &&& 31) = 2
    · replace h := ite_t cz2 h
      refine wp_tableIn (tgt := 285) dL_law_40 2 (by rw [cz2]; decide) (by decide) rfl (by decide) ?_
      refine wp_aload_n dL_law_285 rfl ?_
      obtain ⟨q39, e40, h⟩ := bnd h
      refine wp_callV (As := []) dL_law_286 (sh_X11_fault_ok (d := d + 12) e40) okX11_fault nnX11_fault vvX11_fault ml_RL_74 rfl (Nat.le_of_ble_eq_true rfl) ?_
      refine wp_aload_n dL_law_289 rfl ?_
      obtain ⟨q41, e42, h⟩ := bnd h
      refine wp_callV (As := []) dL_law_290 (sh_X12_fault_ok (d := d + 12) e42) okX12_fault nnX12_fault vvX12_fault ml_RL_77 rfl (Nat.le_of_ble_eq_true rfl) ?_
      refine wp_icmp_eq (tgt := 1396) dL_law_293 (by decide) (fun hc_ => ?_) (fun hc_ => ?_)
      · replace h := ite_t hc_ h
        exact wp_ls (lsS (lsS (lsS (lsS (lsS (lsN (lsN lsZ))))))) (L_law_J1396_ok hX h hc he0 he1 he2 he3 he4 he5 he6 he7 he8 he9 he10 he11 he12 he13 he14 he15 he16 he17 he18 he19 he20 he21 he22 he23 he24 he25 he26 he27 he28 he29 he30 he31 he32 he33 he34 he35 he36)
      · replace h := ite_f hc_ h
        cases h
        exact wp_ls (lsN (lsN (lsN (lsN (lsN (lsN (lsN lsZ))))))) (he4 q41.2 rfl)
    replace h := ite_f cz2 h
    by_cases cz3 : (v1 &&& 31) = 3
    · replace h := ite_t cz3 h
      refine wp_tableIn (tgt := 298) dL_law_40 3 (by rw [cz3]; decide) (by decide) rfl (by decide) ?_
      refine wp_aload_n dL_law_298 rfl ?_
      refine wp_aload_n dL_law_299 rfl ?_
      refine wp_iload dL_law_300 rfl ?_
      refine wp_iconst (v := 1) dL_law_302 (by decide) ?_
      refine wp_iadd dL_law_303 ?_
      obtain ⟨v43, e44, h⟩ := bnd h
      refine wp_scA hX dL_law_304 e44 ?_
      refine wp_aload_n dL_law_305 rfl ?_
      obtain ⟨q45, e46, h⟩ := bnd h
      refine wp_callSH (As := [.inr x1, .inl v43, .inr x3]) dL_law_306 (sh_L_count_ok (d := d + 4) e46) okL_count nnL_count ssL_count ml_RL_78 rfl (Nat.le_of_ble_eq_true rfl) ?_
      refine wp_istore dL_law_309 (Nat.le_of_ble_eq_true rfl) ?_
      refine wp_aload_n dL_law_311 rfl ?_
      refine wp_aload_n dL_law_312 rfl ?_
      refine wp_iload dL_law_313 rfl ?_
      refine wp_iconst (v := 1) dL_law_315 (by decide) ?_
      refine wp_iadd dL_law_316 ?_
      obtain ⟨v47, e48, h⟩ := bnd h
      refine wp_scA hX dL_law_317 e48 ?_
      obtain ⟨q49, e50, h⟩ := bnd h
      refine wp_callV (As := [.inl v47]) dL_law_318 (sh_X12_count_ok (d := d + 5) e50) okX12_count nnX12_count vvX12_count ml_RL_80 rfl (Nat.le_of_ble_eq_true rfl) ?_
      refine wp_istore dL_law_321 (Nat.le_of_ble_eq_true rfl) ?_
      refine wp_aload_n dL_law_323 rfl ?_
      obtain ⟨q51, e52, h⟩ := bnd h
      refine wp_callV (As := []) dL_law_324 (sh_X12_thrown_ok (d := d + 12) e52) okX12_thrown nnX12_thrown vvX12_thrown ml_RL_70 rfl (Nat.le_of_ble_eq_true rfl) ?_
      refine wp_iload dL_law_327 rfl ?_
      refine wp_icmp_eq (tgt := 334) dL_law_329 (by decide) (fun hc_ => ?_) (fun hc_ => ?_)
      · replace h := ite_t hc_ h
        refine wp_iload dL_law_334 rfl ?_
        refine wp_if_ne (tgt := 351) dL_law_336 (by decide) (fun hc_ => ?_) (fun hc_ => ?_)
        · replace h := ite_f hc_ h
          exact wp_ls (lsS (lsS (lsS (lsS (lsS (lsN (lsN lsZ))))))) (L_law_J351_ok hX h hc he0 he1 he2 he3 he4 he5 he6 he7 he8 he9 he10 he11 he12 he13 he14 he15 he16 he17 he18 he19 he20 he21 he22 he23 he24 he25 he26 he27 he28 he29 he30 he31 he32 he33 he34 he35 he36)
        · replace h := ite_t hc_ h
          refine wp_aload_n dL_law_339 rfl ?_
          refine wp_iconst (v := 0) dL_law_340 (by decide) ?_
          obtain ⟨v53, e54, h⟩ := bnd h
          refine wp_lneq (tgt := 351) dL_law_341 dL_law_342 dL_law_344 dL_law_345 dL_law_346 e54 (by decide) rfl (fun hc_ => ?_) (fun hc_ => ?_)
          · replace h := ite_t hc_ h
            exact wp_ls (lsS (lsS (lsS (lsS (lsS (lsN (lsN lsZ))))))) (L_law_J351_ok hX h hc he0 he1 he2 he3 he4 he5 he6 he7 he8 he9 he10 he11 he12 he13 he14 he15 he16 he17 he18 he19 he20 he21 he22 he23 he24 he25 he26 he27 he28 he29 he30 he31 he32 he33 he34 he35 he36)
          · replace h := ite_f hc_ h
            cases h
            exact wp_ls (lsN (lsN (lsN (lsN (lsN (lsN (lsN lsZ))))))) (he6 q49.2 rfl)
      · replace h := ite_f hc_ h
        cases h
        exact wp_ls (lsN (lsN (lsN (lsN (lsN (lsN (lsN lsZ))))))) (he5 q49.2 rfl)
    replace h := ite_f cz3 h
    by_cases cz4 : (v1 &&& 31) = 4
    · replace h := ite_t cz4 h
      refine wp_tableIn (tgt := 354) dL_law_40 4 (by rw [cz4]; decide) (by decide) rfl (by decide) ?_
      refine wp_aload_n dL_law_354 rfl ?_
      refine wp_aload_n dL_law_355 rfl ?_
      refine wp_iload dL_law_356 rfl ?_
      refine wp_iconst (v := 1) dL_law_358 (by decide) ?_
      refine wp_iadd dL_law_359 ?_
      obtain ⟨v55, e56, h⟩ := bnd h
      refine wp_scA hX dL_law_360 e56 ?_
      refine wp_aload_n dL_law_361 rfl ?_
      refine wp_iload dL_law_362 rfl ?_
      refine wp_iconst (v := 2) dL_law_364 (by decide) ?_
      refine wp_iadd dL_law_365 ?_
      obtain ⟨v57, e58, h⟩ := bnd h
      refine wp_scA hX dL_law_366 e58 ?_
      refine wp_aload_n dL_law_367 rfl ?_
      obtain ⟨q59, e60, h⟩ := bnd h
      refine wp_callSH (As := [.inr x1, .inl v55, .inl v57, .inr x3]) dL_law_368 (sh_L_zone_ok (d := d + 4) e60) okL_zone nnL_zone ssL_zone ml_RL_81 rfl (Nat.le_of_ble_eq_true rfl) ?_
      refine wp_istore dL_law_371 (Nat.le_of_ble_eq_true rfl) ?_
      refine wp_aload_n dL_law_373 rfl ?_
      refine wp_aload_n dL_law_374 rfl ?_
      refine wp_iload dL_law_375 rfl ?_
      refine wp_iconst (v := 1) dL_law_377 (by decide) ?_
      refine wp_iadd dL_law_378 ?_
      obtain ⟨v61, e62, h⟩ := bnd h
      refine wp_scA hX dL_law_379 e62 ?_
      refine wp_aload_n dL_law_380 rfl ?_
      refine wp_iload dL_law_381 rfl ?_
      refine wp_iconst (v := 2) dL_law_383 (by decide) ?_
      refine wp_iadd dL_law_384 ?_
      obtain ⟨v63, e64, h⟩ := bnd h
      refine wp_scA hX dL_law_385 e64 ?_
      obtain ⟨q65, e66, h⟩ := bnd h
      refine wp_callV (As := [.inl v61, .inl v63]) dL_law_386 (sh_X12_zone_ok (d := d + 10) e66) okX12_zone nnX12_zone vvX12_zone ml_RL_84 rfl (Nat.le_of_ble_eq_true rfl) ?_
      refine wp_istore dL_law_389 (Nat.le_of_ble_eq_true rfl) ?_
      refine wp_aload_n dL_law_391 rfl ?_
      obtain ⟨q67, e68, h⟩ := bnd h
      refine wp_callV (As := []) dL_law_392 (sh_X12_thrown_ok (d := d + 12) e68) okX12_thrown nnX12_thrown vvX12_thrown ml_RL_70 rfl (Nat.le_of_ble_eq_true rfl) ?_
      refine wp_iload dL_law_395 rfl ?_
      refine wp_icmp_eq (tgt := 402) dL_law_397 (by decide) (fun hc_ => ?_) (fun hc_ => ?_)
      · replace h := ite_t hc_ h
        refine wp_iload dL_law_402 rfl ?_
        refine wp_if_ne (tgt := 419) dL_law_404 (by decide) (fun hc_ => ?_) (fun hc_ => ?_)
        · replace h := ite_f hc_ h
          exact wp_ls (lsS (lsS (lsS (lsS (lsS (lsN (lsN lsZ))))))) (L_law_J419_ok hX h hc he0 he1 he2 he3 he4 he5 he6 he7 he8 he9 he10 he11 he12 he13 he14 he15 he16 he17 he18 he19 he20 he21 he22 he23 he24 he25 he26 he27 he28 he29 he30 he31 he32 he33 he34 he35 he36)
        · replace h := ite_t hc_ h
          refine wp_aload_n dL_law_407 rfl ?_
          refine wp_iconst (v := 0) dL_law_408 (by decide) ?_
          obtain ⟨v69, e70, h⟩ := bnd h
          refine wp_lneq (tgt := 419) dL_law_409 dL_law_410 dL_law_412 dL_law_413 dL_law_414 e70 (by decide) rfl (fun hc_ => ?_) (fun hc_ => ?_)
          · replace h := ite_t hc_ h
            exact wp_ls (lsS (lsS (lsS (lsS (lsS (lsN (lsN lsZ))))))) (L_law_J419_ok hX h hc he0 he1 he2 he3 he4 he5 he6 he7 he8 he9 he10 he11 he12 he13 he14 he15 he16 he17 he18 he19 he20 he21 he22 he23 he24 he25 he26 he27 he28 he29 he30 he31 he32 he33 he34 he35 he36)
          · replace h := ite_f hc_ h
            cases h
            exact wp_ls (lsN (lsN (lsN (lsN (lsN (lsN (lsN lsZ))))))) (he8 q65.2 rfl)
      · replace h := ite_f hc_ h
        cases h
        exact wp_ls (lsN (lsN (lsN (lsN (lsN (lsN (lsN lsZ))))))) (he7 q65.2 rfl)
    replace h := ite_f cz4 h
    by_cases cz5 : (v1 &&& 31) = 5
    · replace h := ite_t cz5 h
      refine wp_tableIn (tgt := 422) dL_law_40 5 (by rw [cz5]; decide) (by decide) rfl (by decide) ?_
      refine wp_aload_n dL_law_422 rfl ?_
      refine wp_aload_n dL_law_423 rfl ?_
      refine wp_iload dL_law_424 rfl ?_
      refine wp_iconst (v := 1) dL_law_426 (by decide) ?_
      refine wp_iadd dL_law_427 ?_
      obtain ⟨v71, e72, h⟩ := bnd h
      refine wp_scA hX dL_law_428 e72 ?_
      refine wp_aload_n dL_law_429 rfl ?_
      refine wp_iload dL_law_430 rfl ?_
      refine wp_iconst (v := 2) dL_law_432 (by decide) ?_
      refine wp_iadd dL_law_433 ?_
      obtain ⟨v73, e74, h⟩ := bnd h
      refine wp_scA hX dL_law_434 e74 ?_
      refine wp_aload_n dL_law_435 rfl ?_
      obtain ⟨q75, e76, h⟩ := bnd h
      refine wp_callSH (As := [.inr x1, .inl v71, .inl v73, .inr x3]) dL_law_436 (sh_L_trip_ok (d := d + 4) e76) okL_trip nnL_trip ssL_trip ml_RL_85 rfl (Nat.le_of_ble_eq_true rfl) ?_
      refine wp_istore dL_law_439 (Nat.le_of_ble_eq_true rfl) ?_
      refine wp_aload_n dL_law_441 rfl ?_
      refine wp_aload_n dL_law_442 rfl ?_
      refine wp_iload dL_law_443 rfl ?_
      refine wp_iconst (v := 1) dL_law_445 (by decide) ?_
      refine wp_iadd dL_law_446 ?_
      obtain ⟨v77, e78, h⟩ := bnd h
      refine wp_scA hX dL_law_447 e78 ?_
      refine wp_aload_n dL_law_448 rfl ?_
      refine wp_iload dL_law_449 rfl ?_
      refine wp_iconst (v := 2) dL_law_451 (by decide) ?_
      refine wp_iadd dL_law_452 ?_
      obtain ⟨v79, e80, h⟩ := bnd h
      refine wp_scA hX dL_law_453 e80 ?_
      obtain ⟨q81, e82, h⟩ := bnd h
      refine wp_callV (As := [.inl v77, .inl v79]) dL_law_454 (sh_X12_trip_ok (d := d + 10) e82) okX12_trip nnX12_trip vvX12_trip ml_RL_87 rfl (Nat.le_of_ble_eq_true rfl) ?_
      refine wp_istore dL_law_457 (Nat.le_of_ble_eq_true rfl) ?_
      refine wp_aload_n dL_law_459 rfl ?_
      obtain ⟨q83, e84, h⟩ := bnd h
      refine wp_callV (As := []) dL_law_460 (sh_X12_thrown_ok (d := d + 12) e84) okX12_thrown nnX12_thrown vvX12_thrown ml_RL_70 rfl (Nat.le_of_ble_eq_true rfl) ?_
      refine wp_iload dL_law_463 rfl ?_
      refine wp_icmp_eq (tgt := 470) dL_law_465 (by decide) (fun hc_ => ?_) (fun hc_ => ?_)
      · replace h := ite_t hc_ h
        refine wp_iload dL_law_470 rfl ?_
        refine wp_if_ne (tgt := 487) dL_law_472 (by decide) (fun hc_ => ?_) (fun hc_ => ?_)
        · replace h := ite_f hc_ h
          exact wp_ls (lsS (lsS (lsS (lsS (lsS (lsN (lsN lsZ))))))) (L_law_J487_ok hX h hc he0 he1 he2 he3 he4 he5 he6 he7 he8 he9 he10 he11 he12 he13 he14 he15 he16 he17 he18 he19 he20 he21 he22 he23 he24 he25 he26 he27 he28 he29 he30 he31 he32 he33 he34 he35 he36)
        · replace h := ite_t hc_ h
          refine wp_aload_n dL_law_475 rfl ?_
          refine wp_iconst (v := 0) dL_law_476 (by decide) ?_
          obtain ⟨v85, e86, h⟩ := bnd h
          refine wp_lneq (tgt := 487) dL_law_477 dL_law_478 dL_law_480 dL_law_481 dL_law_482 e86 (by decide) rfl (fun hc_ => ?_) (fun hc_ => ?_)
          · replace h := ite_t hc_ h
            exact wp_ls (lsS (lsS (lsS (lsS (lsS (lsN (lsN lsZ))))))) (L_law_J487_ok hX h hc he0 he1 he2 he3 he4 he5 he6 he7 he8 he9 he10 he11 he12 he13 he14 he15 he16 he17 he18 he19 he20 he21 he22 he23 he24 he25 he26 he27 he28 he29 he30 he31 he32 he33 he34 he35 he36)
          · replace h := ite_f hc_ h
            cases h
            exact wp_ls (lsN (lsN (lsN (lsN (lsN (lsN (lsN lsZ))))))) (he10 q81.2 rfl)
      · replace h := ite_f hc_ h
        cases h
        exact wp_ls (lsN (lsN (lsN (lsN (lsN (lsN (lsN lsZ))))))) (he9 q81.2 rfl)
    replace h := ite_f cz5 h
    by_cases cz6 : (v1 &&& 31) = 6
    · replace h := ite_t cz6 h
      refine wp_tableIn (tgt := 490) dL_law_40 6 (by rw [cz6]; decide) (by decide) rfl (by decide) ?_
      refine wp_aload_n dL_law_490 rfl ?_
      refine wp_aload_n dL_law_491 rfl ?_
      refine wp_iload dL_law_492 rfl ?_
      refine wp_iconst (v := 1) dL_law_494 (by decide) ?_
      refine wp_iadd dL_law_495 ?_
      obtain ⟨v87, e88, h⟩ := bnd h
      refine wp_scA hX dL_law_496 e88 ?_
      refine wp_aload_n dL_law_497 rfl ?_
      refine wp_iload dL_law_498 rfl ?_
      refine wp_iconst (v := 2) dL_law_500 (by decide) ?_
      refine wp_iadd dL_law_501 ?_
      obtain ⟨v89, e90, h⟩ := bnd h
      refine wp_scA hX dL_law_502 e90 ?_
      refine wp_aload_n dL_law_503 rfl ?_
      obtain ⟨q91, e92, h⟩ := bnd h
      refine wp_callSH (As := [.inr x1, .inl v87, .inl v89, .inr x3]) dL_law_504 (sh_L_device_ok (d := d + 4) e92) okL_device nnL_device ssL_device ml_RL_88 rfl (Nat.le_of_ble_eq_true rfl) ?_
      refine wp_istore dL_law_507 (Nat.le_of_ble_eq_true rfl) ?_
      refine wp_aload_n dL_law_509 rfl ?_
      refine wp_aload_n dL_law_510 rfl ?_
      refine wp_iload dL_law_511 rfl ?_
      refine wp_iconst (v := 1) dL_law_513 (by decide) ?_
      refine wp_iadd dL_law_514 ?_
      obtain ⟨v93, e94, h⟩ := bnd h
      refine wp_scA hX dL_law_515 e94 ?_
      refine wp_aload_n dL_law_516 rfl ?_
      refine wp_iload dL_law_517 rfl ?_
      refine wp_iconst (v := 2) dL_law_519 (by decide) ?_
      refine wp_iadd dL_law_520 ?_
      obtain ⟨v95, e96, h⟩ := bnd h
      refine wp_scA hX dL_law_521 e96 ?_
      obtain ⟨q97, e98, h⟩ := bnd h
      refine wp_callV (As := [.inl v93, .inl v95]) dL_law_522 (sh_X12_device_ok (d := d + 10) e98) okX12_device nnX12_device vvX12_device ml_RL_90 rfl (Nat.le_of_ble_eq_true rfl) ?_
      refine wp_istore dL_law_525 (Nat.le_of_ble_eq_true rfl) ?_
      refine wp_aload_n dL_law_527 rfl ?_
      obtain ⟨q99, e100, h⟩ := bnd h
      refine wp_callV (As := []) dL_law_528 (sh_X12_thrown_ok (d := d + 12) e100) okX12_thrown nnX12_thrown vvX12_thrown ml_RL_70 rfl (Nat.le_of_ble_eq_true rfl) ?_
      refine wp_iload dL_law_531 rfl ?_
      refine wp_icmp_eq (tgt := 538) dL_law_533 (by decide) (fun hc_ => ?_) (fun hc_ => ?_)
      · replace h := ite_t hc_ h
        refine wp_iload dL_law_538 rfl ?_
        refine wp_if_ne (tgt := 555) dL_law_540 (by decide) (fun hc_ => ?_) (fun hc_ => ?_)
        · replace h := ite_f hc_ h
          exact wp_ls (lsS (lsS (lsS (lsS (lsS (lsN (lsN lsZ))))))) (L_law_J555_ok hX h hc he0 he1 he2 he3 he4 he5 he6 he7 he8 he9 he10 he11 he12 he13 he14 he15 he16 he17 he18 he19 he20 he21 he22 he23 he24 he25 he26 he27 he28 he29 he30 he31 he32 he33 he34 he35 he36)
        · replace h := ite_t hc_ h
          refine wp_aload_n dL_law_543 rfl ?_
          refine wp_iconst (v := 0) dL_law_544 (by decide) ?_
          obtain ⟨v101, e102, h⟩ := bnd h
          refine wp_lneq (tgt := 555) dL_law_545 dL_law_546 dL_law_548 dL_law_549 dL_law_550 e102 (by decide) rfl (fun hc_ => ?_) (fun hc_ => ?_)
          · replace h := ite_t hc_ h
            exact wp_ls (lsS (lsS (lsS (lsS (lsS (lsN (lsN lsZ))))))) (L_law_J555_ok hX h hc he0 he1 he2 he3 he4 he5 he6 he7 he8 he9 he10 he11 he12 he13 he14 he15 he16 he17 he18 he19 he20 he21 he22 he23 he24 he25 he26 he27 he28 he29 he30 he31 he32 he33 he34 he35 he36)
          · replace h := ite_f hc_ h
            cases h
            exact wp_ls (lsN (lsN (lsN (lsN (lsN (lsN (lsN lsZ))))))) (he12 q97.2 rfl)
      · replace h := ite_f hc_ h
        cases h
        exact wp_ls (lsN (lsN (lsN (lsN (lsN (lsN (lsN lsZ))))))) (he11 q97.2 rfl)
    replace h := ite_f cz6 h
    by_cases cz7 : (v1 &&& 31) = 7
    · replace h := ite_t cz7 h
      refine wp_tableIn (tgt := 558) dL_law_40 7 (by rw [cz7]; decide) (by decide) rfl (by decide) ?_
      refine wp_aload_n dL_law_558 rfl ?_
      refine wp_aload_n dL_law_559 rfl ?_
      refine wp_iload dL_law_560 rfl ?_
      refine wp_iconst (v := 1) dL_law_562 (by decide) ?_
      refine wp_iadd dL_law_563 ?_
      obtain ⟨v103, e104, h⟩ := bnd h
      refine wp_scA hX dL_law_564 e104 ?_
      refine wp_aload_n dL_law_565 rfl ?_
      refine wp_iload dL_law_566 rfl ?_
      refine wp_iconst (v := 2) dL_law_568 (by decide) ?_
      refine wp_iadd dL_law_569 ?_
      obtain ⟨v105, e106, h⟩ := bnd h
      refine wp_scA hX dL_law_570 e106 ?_
      refine wp_aload_n dL_law_571 rfl ?_
      refine wp_iload dL_law_572 rfl ?_
      refine wp_iconst (v := 3) dL_law_574 (by decide) ?_
      refine wp_iadd dL_law_575 ?_
      obtain ⟨v107, e108, h⟩ := bnd h
      refine wp_scA hX dL_law_576 e108 ?_
      refine wp_aload_n dL_law_577 rfl ?_
      obtain ⟨q109, e110, h⟩ := bnd h
      refine wp_callSH (As := [.inr x1, .inl v103, .inl v105, .inl v107, .inr x3]) dL_law_578 (sh_L_bind_ok (d := d + 4) e110) okL_bind nnL_bind ssL_bind ml_RL_91 rfl (Nat.le_of_ble_eq_true rfl) ?_
      refine wp_istore dL_law_581 (Nat.le_of_ble_eq_true rfl) ?_
      refine wp_aload_n dL_law_583 rfl ?_
      refine wp_aload_n dL_law_584 rfl ?_
      refine wp_iload dL_law_585 rfl ?_
      refine wp_iconst (v := 1) dL_law_587 (by decide) ?_
      refine wp_iadd dL_law_588 ?_
      obtain ⟨v111, e112, h⟩ := bnd h
      refine wp_scA hX dL_law_589 e112 ?_
      refine wp_aload_n dL_law_590 rfl ?_
      refine wp_iload dL_law_591 rfl ?_
      refine wp_iconst (v := 2) dL_law_593 (by decide) ?_
      refine wp_iadd dL_law_594 ?_
      obtain ⟨v113, e114, h⟩ := bnd h
      refine wp_scA hX dL_law_595 e114 ?_
      refine wp_aload_n dL_law_596 rfl ?_
      refine wp_iload dL_law_597 rfl ?_
      refine wp_iconst (v := 3) dL_law_599 (by decide) ?_
      refine wp_iadd dL_law_600 ?_
      obtain ⟨v115, e116, h⟩ := bnd h
      refine wp_scA hX dL_law_601 e116 ?_
      obtain ⟨q117, e118, h⟩ := bnd h
      refine wp_callV (As := [.inl v111, .inl v113, .inl v115]) dL_law_602 (sh_X12_bind_ok (d := d + 10) e118) okX12_bind nnX12_bind vvX12_bind ml_RL_94 rfl (Nat.le_of_ble_eq_true rfl) ?_
      refine wp_istore dL_law_605 (Nat.le_of_ble_eq_true rfl) ?_
      refine wp_aload_n dL_law_607 rfl ?_
      obtain ⟨q119, e120, h⟩ := bnd h
      refine wp_callV (As := []) dL_law_608 (sh_X12_thrown_ok (d := d + 12) e120) okX12_thrown nnX12_thrown vvX12_thrown ml_RL_70 rfl (Nat.le_of_ble_eq_true rfl) ?_
      refine wp_iload dL_law_611 rfl ?_
      refine wp_icmp_eq (tgt := 618) dL_law_613 (by decide) (fun hc_ => ?_) (fun hc_ => ?_)
      · replace h := ite_t hc_ h
        refine wp_iload dL_law_618 rfl ?_
        refine wp_if_ne (tgt := 635) dL_law_620 (by decide) (fun hc_ => ?_) (fun hc_ => ?_)
        · replace h := ite_f hc_ h
          exact wp_ls (lsS (lsS (lsS (lsS (lsS (lsN (lsN lsZ))))))) (L_law_J635_ok hX h hc he0 he1 he2 he3 he4 he5 he6 he7 he8 he9 he10 he11 he12 he13 he14 he15 he16 he17 he18 he19 he20 he21 he22 he23 he24 he25 he26 he27 he28 he29 he30 he31 he32 he33 he34 he35 he36)
        · replace h := ite_t hc_ h
          refine wp_aload_n dL_law_623 rfl ?_
          refine wp_iconst (v := 0) dL_law_624 (by decide) ?_
          obtain ⟨v121, e122, h⟩ := bnd h
          refine wp_lneq (tgt := 635) dL_law_625 dL_law_626 dL_law_628 dL_law_629 dL_law_630 e122 (by decide) rfl (fun hc_ => ?_) (fun hc_ => ?_)
          · replace h := ite_t hc_ h
            exact wp_ls (lsS (lsS (lsS (lsS (lsS (lsN (lsN lsZ))))))) (L_law_J635_ok hX h hc he0 he1 he2 he3 he4 he5 he6 he7 he8 he9 he10 he11 he12 he13 he14 he15 he16 he17 he18 he19 he20 he21 he22 he23 he24 he25 he26 he27 he28 he29 he30 he31 he32 he33 he34 he35 he36)
          · replace h := ite_f hc_ h
            cases h
            exact wp_ls (lsN (lsN (lsN (lsN (lsN (lsN (lsN lsZ))))))) (he14 q117.2 rfl)
      · replace h := ite_f hc_ h
        cases h
        exact wp_ls (lsN (lsN (lsN (lsN (lsN (lsN (lsN lsZ))))))) (he13 q117.2 rfl)
    replace h := ite_f cz7 h
    by_cases cz8 : (v1 &&& 31) = 8
    · replace h := ite_t cz8 h
      refine wp_tableIn (tgt := 638) dL_law_40 8 (by rw [cz8]; decide) (by decide) rfl (by decide) ?_
      refine wp_aload_n dL_law_638 rfl ?_
      refine wp_aload_n dL_law_639 rfl ?_
      refine wp_iload dL_law_640 rfl ?_
      refine wp_iconst (v := 1) dL_law_642 (by decide) ?_
      refine wp_iadd dL_law_643 ?_
      obtain ⟨v123, e124, h⟩ := bnd h
      refine wp_scA hX dL_law_644 e124 ?_
      refine wp_aload_n dL_law_645 rfl ?_
      refine wp_iload dL_law_646 rfl ?_
      refine wp_iconst (v := 2) dL_law_648 (by decide) ?_
      refine wp_iadd dL_law_649 ?_
      obtain ⟨v125, e126, h⟩ := bnd h
      refine wp_scA hX dL_law_650 e126 ?_
      refine wp_aload_n dL_law_651 rfl ?_
      obtain ⟨q127, e128, h⟩ := bnd h
      refine wp_callSH (As := [.inr x1, .inl v123, .inl v125, .inr x3]) dL_law_652 (sh_L_log_ok (d := d + 4) e128) okL_log nnL_log ssL_log ml_RL_95 rfl (Nat.le_of_ble_eq_true rfl) ?_
      refine wp_istore dL_law_655 (Nat.le_of_ble_eq_true rfl) ?_
      refine wp_aload_n dL_law_657 rfl ?_
      refine wp_aload_n dL_law_658 rfl ?_
      refine wp_iload dL_law_659 rfl ?_
      refine wp_iconst (v := 1) dL_law_661 (by decide) ?_
      refine wp_iadd dL_law_662 ?_
      obtain ⟨v129, e130, h⟩ := bnd h
      refine wp_scA hX dL_law_663 e130 ?_
      refine wp_aload_n dL_law_664 rfl ?_
      refine wp_iload dL_law_665 rfl ?_
      refine wp_iconst (v := 2) dL_law_667 (by decide) ?_
      refine wp_iadd dL_law_668 ?_
      obtain ⟨v131, e132, h⟩ := bnd h
      refine wp_scA hX dL_law_669 e132 ?_
      obtain ⟨q133, e134, h⟩ := bnd h
      refine wp_callV (As := [.inl v129, .inl v131]) dL_law_670 (sh_X12_log_ok (d := d + 11) e134) okX12_log nnX12_log vvX12_log ml_RL_97 rfl (Nat.le_of_ble_eq_true rfl) ?_
      refine wp_istore dL_law_673 (Nat.le_of_ble_eq_true rfl) ?_
      refine wp_aload_n dL_law_675 rfl ?_
      obtain ⟨q135, e136, h⟩ := bnd h
      refine wp_callV (As := []) dL_law_676 (sh_X12_thrown_ok (d := d + 12) e136) okX12_thrown nnX12_thrown vvX12_thrown ml_RL_70 rfl (Nat.le_of_ble_eq_true rfl) ?_
      refine wp_iload dL_law_679 rfl ?_
      refine wp_icmp_eq (tgt := 686) dL_law_681 (by decide) (fun hc_ => ?_) (fun hc_ => ?_)
      · replace h := ite_t hc_ h
        refine wp_iload dL_law_686 rfl ?_
        refine wp_if_ne (tgt := 703) dL_law_688 (by decide) (fun hc_ => ?_) (fun hc_ => ?_)
        · replace h := ite_f hc_ h
          exact wp_ls (lsS (lsS (lsS (lsS (lsS (lsN (lsN lsZ))))))) (L_law_J703_ok hX h hc he0 he1 he2 he3 he4 he5 he6 he7 he8 he9 he10 he11 he12 he13 he14 he15 he16 he17 he18 he19 he20 he21 he22 he23 he24 he25 he26 he27 he28 he29 he30 he31 he32 he33 he34 he35 he36)
        · replace h := ite_t hc_ h
          refine wp_aload_n dL_law_691 rfl ?_
          refine wp_iconst (v := 0) dL_law_692 (by decide) ?_
          obtain ⟨v137, e138, h⟩ := bnd h
          refine wp_lneq (tgt := 703) dL_law_693 dL_law_694 dL_law_696 dL_law_697 dL_law_698 e138 (by decide) rfl (fun hc_ => ?_) (fun hc_ => ?_)
          · replace h := ite_t hc_ h
            exact wp_ls (lsS (lsS (lsS (lsS (lsS (lsN (lsN lsZ))))))) (L_law_J703_ok hX h hc he0 he1 he2 he3 he4 he5 he6 he7 he8 he9 he10 he11 he12 he13 he14 he15 he16 he17 he18 he19 he20 he21 he22 he23 he24 he25 he26 he27 he28 he29 he30 he31 he32 he33 he34 he35 he36)
          · replace h := ite_f hc_ h
            cases h
            exact wp_ls (lsN (lsN (lsN (lsN (lsN (lsN (lsN lsZ))))))) (he16 q133.2 rfl)
      · replace h := ite_f hc_ h
        cases h
        exact wp_ls (lsN (lsN (lsN (lsN (lsN (lsN (lsN lsZ))))))) (he15 q133.2 rfl)
    replace h := ite_f cz8 h
    by_cases cz9 : (v1 &&& 31) = 9
    · replace h := ite_t cz9 h
      refine wp_tableIn (tgt := 706) dL_law_40 9 (by rw [cz9]; decide) (by decide) rfl (by decide) ?_
      refine wp_aload_n dL_law_706 rfl ?_
      refine wp_aload_n dL_law_707 rfl ?_
      refine wp_iload dL_law_708 rfl ?_
      refine wp_iconst (v := 1) dL_law_710 (by decide) ?_
      refine wp_iadd dL_law_711 ?_
      obtain ⟨v139, e140, h⟩ := bnd h
      refine wp_scA hX dL_law_712 e140 ?_
      refine wp_aload_n dL_law_713 rfl ?_
      refine wp_iload dL_law_714 rfl ?_
      refine wp_iconst (v := 2) dL_law_716 (by decide) ?_
      refine wp_iadd dL_law_717 ?_
      obtain ⟨v141, e142, h⟩ := bnd h
      refine wp_scA hX dL_law_718 e142 ?_
      refine wp_aload_n dL_law_719 rfl ?_
      refine wp_iload dL_law_720 rfl ?_
      refine wp_iconst (v := 3) dL_law_722 (by decide) ?_
      refine wp_iadd dL_law_723 ?_
      obtain ⟨v143, e144, h⟩ := bnd h
      refine wp_scA hX dL_law_724 e144 ?_
      refine wp_aload_n dL_law_725 rfl ?_
      obtain ⟨q145, e146, h⟩ := bnd h
      refine wp_callSH (As := [.inr x1, .inl v139, .inl v141, .inl v143, .inr x3]) dL_law_726 (sh_L_ahead_ok (d := d + 4) e146) okL_ahead nnL_ahead ssL_ahead ml_RL_98 rfl (Nat.le_of_ble_eq_true rfl) ?_
      refine wp_istore dL_law_729 (Nat.le_of_ble_eq_true rfl) ?_
      refine wp_aload_n dL_law_731 rfl ?_
      refine wp_aload_n dL_law_732 rfl ?_
      refine wp_iload dL_law_733 rfl ?_
      refine wp_iconst (v := 1) dL_law_735 (by decide) ?_
      refine wp_iadd dL_law_736 ?_
      obtain ⟨v147, e148, h⟩ := bnd h
      refine wp_scA hX dL_law_737 e148 ?_
      refine wp_aload_n dL_law_738 rfl ?_
      refine wp_iload dL_law_739 rfl ?_
      refine wp_iconst (v := 2) dL_law_741 (by decide) ?_
      refine wp_iadd dL_law_742 ?_
      obtain ⟨v149, e150, h⟩ := bnd h
      refine wp_scA hX dL_law_743 e150 ?_
      refine wp_aload_n dL_law_744 rfl ?_
      refine wp_iload dL_law_745 rfl ?_
      refine wp_iconst (v := 3) dL_law_747 (by decide) ?_
      refine wp_iadd dL_law_748 ?_
      obtain ⟨v151, e152, h⟩ := bnd h
      refine wp_scA hX dL_law_749 e152 ?_
      obtain ⟨q153, e154, h⟩ := bnd h
      refine wp_callV (As := [.inl v147, .inl v149, .inl v151]) dL_law_750 (sh_X12_ahead_ok (d := d + 7) e154) okX12_ahead nnX12_ahead vvX12_ahead ml_RL_100 rfl (Nat.le_of_ble_eq_true rfl) ?_
      refine wp_istore dL_law_753 (Nat.le_of_ble_eq_true rfl) ?_
      refine wp_aload_n dL_law_755 rfl ?_
      obtain ⟨q155, e156, h⟩ := bnd h
      refine wp_callV (As := []) dL_law_756 (sh_X12_thrown_ok (d := d + 12) e156) okX12_thrown nnX12_thrown vvX12_thrown ml_RL_70 rfl (Nat.le_of_ble_eq_true rfl) ?_
      refine wp_iload dL_law_759 rfl ?_
      refine wp_icmp_eq (tgt := 766) dL_law_761 (by decide) (fun hc_ => ?_) (fun hc_ => ?_)
      · replace h := ite_t hc_ h
        refine wp_iload dL_law_766 rfl ?_
        refine wp_if_ne (tgt := 783) dL_law_768 (by decide) (fun hc_ => ?_) (fun hc_ => ?_)
        · replace h := ite_f hc_ h
          exact wp_ls (lsS (lsS (lsS (lsS (lsS (lsN (lsN lsZ))))))) (L_law_J783_ok hX h hc he0 he1 he2 he3 he4 he5 he6 he7 he8 he9 he10 he11 he12 he13 he14 he15 he16 he17 he18 he19 he20 he21 he22 he23 he24 he25 he26 he27 he28 he29 he30 he31 he32 he33 he34 he35 he36)
        · replace h := ite_t hc_ h
          refine wp_aload_n dL_law_771 rfl ?_
          refine wp_iconst (v := 0) dL_law_772 (by decide) ?_
          obtain ⟨v157, e158, h⟩ := bnd h
          refine wp_lneq (tgt := 783) dL_law_773 dL_law_774 dL_law_776 dL_law_777 dL_law_778 e158 (by decide) rfl (fun hc_ => ?_) (fun hc_ => ?_)
          · replace h := ite_t hc_ h
            exact wp_ls (lsS (lsS (lsS (lsS (lsS (lsN (lsN lsZ))))))) (L_law_J783_ok hX h hc he0 he1 he2 he3 he4 he5 he6 he7 he8 he9 he10 he11 he12 he13 he14 he15 he16 he17 he18 he19 he20 he21 he22 he23 he24 he25 he26 he27 he28 he29 he30 he31 he32 he33 he34 he35 he36)
          · replace h := ite_f hc_ h
            cases h
            exact wp_ls (lsN (lsN (lsN (lsN (lsN (lsN (lsN lsZ))))))) (he18 q153.2 rfl)
      · replace h := ite_f hc_ h
        cases h
        exact wp_ls (lsN (lsN (lsN (lsN (lsN (lsN (lsN lsZ))))))) (he17 q153.2 rfl)
    replace h := ite_f cz9 h
    by_cases cz10 : (v1 &&& 31) = 10
    · replace h := ite_t cz10 h
      refine wp_tableIn (tgt := 786) dL_law_40 10 (by rw [cz10]; decide) (by decide) rfl (by decide) ?_
      refine wp_aload_n dL_law_786 rfl ?_
      refine wp_aload_n dL_law_787 rfl ?_
      refine wp_iload dL_law_788 rfl ?_
      refine wp_iconst (v := 1) dL_law_790 (by decide) ?_
      refine wp_iadd dL_law_791 ?_
      obtain ⟨v159, e160, h⟩ := bnd h
      refine wp_scA hX dL_law_792 e160 ?_
      refine wp_aload_n dL_law_793 rfl ?_
      refine wp_iload dL_law_794 rfl ?_
      refine wp_iconst (v := 2) dL_law_796 (by decide) ?_
      refine wp_iadd dL_law_797 ?_
      obtain ⟨v161, e162, h⟩ := bnd h
      refine wp_scA hX dL_law_798 e162 ?_
      refine wp_aload_n dL_law_799 rfl ?_
      refine wp_iload dL_law_800 rfl ?_
      refine wp_iconst (v := 3) dL_law_802 (by decide) ?_
      refine wp_iadd dL_law_803 ?_
      obtain ⟨v163, e164, h⟩ := bnd h
      refine wp_scA hX dL_law_804 e164 ?_
      refine wp_aload_n dL_law_805 rfl ?_
      obtain ⟨q165, e166, h⟩ := bnd h
      refine wp_callSH (As := [.inr x1, .inl v159, .inl v161, .inl v163, .inr x3]) dL_law_806 (sh_L_bears_ok (d := d + 4) e166) okL_bears nnL_bears ssL_bears ml_RL_101 rfl (Nat.le_of_ble_eq_true rfl) ?_
      refine wp_istore dL_law_809 (Nat.le_of_ble_eq_true rfl) ?_
      refine wp_aload_n dL_law_811 rfl ?_
      refine wp_aload_n dL_law_812 rfl ?_
      refine wp_iload dL_law_813 rfl ?_
      refine wp_iconst (v := 1) dL_law_815 (by decide) ?_
      refine wp_iadd dL_law_816 ?_
      obtain ⟨v167, e168, h⟩ := bnd h
      refine wp_scA hX dL_law_817 e168 ?_
      refine wp_aload_n dL_law_818 rfl ?_
      refine wp_iload dL_law_819 rfl ?_
      refine wp_iconst (v := 2) dL_law_821 (by decide) ?_
      refine wp_iadd dL_law_822 ?_
      obtain ⟨v169, e170, h⟩ := bnd h
      refine wp_scA hX dL_law_823 e170 ?_
      refine wp_aload_n dL_law_824 rfl ?_
      refine wp_iload dL_law_825 rfl ?_
      refine wp_iconst (v := 3) dL_law_827 (by decide) ?_
      refine wp_iadd dL_law_828 ?_
      obtain ⟨v171, e172, h⟩ := bnd h
      refine wp_scA hX dL_law_829 e172 ?_
      obtain ⟨q173, e174, h⟩ := bnd h
      refine wp_callV (As := [.inl v167, .inl v169, .inl v171]) dL_law_830 (sh_X12_bears_ok (d := d + 6) e174) okX12_bears nnX12_bears vvX12_bears ml_RL_103 rfl (Nat.le_of_ble_eq_true rfl) ?_
      refine wp_istore dL_law_833 (Nat.le_of_ble_eq_true rfl) ?_
      refine wp_aload_n dL_law_835 rfl ?_
      obtain ⟨q175, e176, h⟩ := bnd h
      refine wp_callV (As := []) dL_law_836 (sh_X12_thrown_ok (d := d + 12) e176) okX12_thrown nnX12_thrown vvX12_thrown ml_RL_70 rfl (Nat.le_of_ble_eq_true rfl) ?_
      refine wp_iload dL_law_839 rfl ?_
      refine wp_icmp_eq (tgt := 846) dL_law_841 (by decide) (fun hc_ => ?_) (fun hc_ => ?_)
      · replace h := ite_t hc_ h
        refine wp_iload dL_law_846 rfl ?_
        refine wp_if_ne (tgt := 863) dL_law_848 (by decide) (fun hc_ => ?_) (fun hc_ => ?_)
        · replace h := ite_f hc_ h
          exact wp_ls (lsS (lsS (lsS (lsS (lsS (lsN (lsN lsZ))))))) (L_law_J863_ok hX h hc he0 he1 he2 he3 he4 he5 he6 he7 he8 he9 he10 he11 he12 he13 he14 he15 he16 he17 he18 he19 he20 he21 he22 he23 he24 he25 he26 he27 he28 he29 he30 he31 he32 he33 he34 he35 he36)
        · replace h := ite_t hc_ h
          refine wp_aload_n dL_law_851 rfl ?_
          refine wp_iconst (v := 0) dL_law_852 (by decide) ?_
          obtain ⟨v177, e178, h⟩ := bnd h
          refine wp_lneq (tgt := 863) dL_law_853 dL_law_854 dL_law_856 dL_law_857 dL_law_858 e178 (by decide) rfl (fun hc_ => ?_) (fun hc_ => ?_)
          · replace h := ite_t hc_ h
            exact wp_ls (lsS (lsS (lsS (lsS (lsS (lsN (lsN lsZ))))))) (L_law_J863_ok hX h hc he0 he1 he2 he3 he4 he5 he6 he7 he8 he9 he10 he11 he12 he13 he14 he15 he16 he17 he18 he19 he20 he21 he22 he23 he24 he25 he26 he27 he28 he29 he30 he31 he32 he33 he34 he35 he36)
          · replace h := ite_f hc_ h
            cases h
            exact wp_ls (lsN (lsN (lsN (lsN (lsN (lsN (lsN lsZ))))))) (he20 q173.2 rfl)
      · replace h := ite_f hc_ h
        cases h
        exact wp_ls (lsN (lsN (lsN (lsN (lsN (lsN (lsN lsZ))))))) (he19 q173.2 rfl)
    replace h := ite_f cz10 h
    by_cases cz11 : (v1 &&& 31) = 11
    · replace h := ite_t cz11 h
      refine wp_tableIn (tgt := 866) dL_law_40 11 (by rw [cz11]; decide) (by decide) rfl (by decide) ?_
      refine wp_aload_n dL_law_866 rfl ?_
      refine wp_aload_n dL_law_867 rfl ?_
      refine wp_iload dL_law_868 rfl ?_
      refine wp_iconst (v := 1) dL_law_870 (by decide) ?_
      refine wp_iadd dL_law_871 ?_
      obtain ⟨v179, e180, h⟩ := bnd h
      refine wp_scA hX dL_law_872 e180 ?_
      refine wp_aload_n dL_law_873 rfl ?_
      refine wp_iload dL_law_874 rfl ?_
      refine wp_iconst (v := 2) dL_law_876 (by decide) ?_
      refine wp_iadd dL_law_877 ?_
      obtain ⟨v181, e182, h⟩ := bnd h
      refine wp_scA hX dL_law_878 e182 ?_
      refine wp_aload_n dL_law_879 rfl ?_
      obtain ⟨q183, e184, h⟩ := bnd h
      refine wp_callSH (As := [.inr x1, .inl v179, .inl v181, .inr x3]) dL_law_880 (sh_L_flips_ok (d := d + 4) e184) okL_flips nnL_flips ssL_flips ml_RL_104 rfl (Nat.le_of_ble_eq_true rfl) ?_
      refine wp_istore dL_law_883 (Nat.le_of_ble_eq_true rfl) ?_
      refine wp_aload_n dL_law_885 rfl ?_
      refine wp_aload_n dL_law_886 rfl ?_
      refine wp_iload dL_law_887 rfl ?_
      refine wp_iconst (v := 1) dL_law_889 (by decide) ?_
      refine wp_iadd dL_law_890 ?_
      obtain ⟨v185, e186, h⟩ := bnd h
      refine wp_scA hX dL_law_891 e186 ?_
      refine wp_aload_n dL_law_892 rfl ?_
      refine wp_iload dL_law_893 rfl ?_
      refine wp_iconst (v := 2) dL_law_895 (by decide) ?_
      refine wp_iadd dL_law_896 ?_
      obtain ⟨v187, e188, h⟩ := bnd h
      refine wp_scA hX dL_law_897 e188 ?_
      obtain ⟨q189, e190, h⟩ := bnd h
      refine wp_callV (As := [.inl v185, .inl v187]) dL_law_898 (sh_X12_flips_ok (d := d + 7) e190) okX12_flips nnX12_flips vvX12_flips ml_RL_106 rfl (Nat.le_of_ble_eq_true rfl) ?_
      refine wp_istore dL_law_901 (Nat.le_of_ble_eq_true rfl) ?_
      refine wp_aload_n dL_law_903 rfl ?_
      obtain ⟨q191, e192, h⟩ := bnd h
      refine wp_callV (As := []) dL_law_904 (sh_X12_thrown_ok (d := d + 12) e192) okX12_thrown nnX12_thrown vvX12_thrown ml_RL_70 rfl (Nat.le_of_ble_eq_true rfl) ?_
      refine wp_iload dL_law_907 rfl ?_
      refine wp_icmp_eq (tgt := 914) dL_law_909 (by decide) (fun hc_ => ?_) (fun hc_ => ?_)
      · replace h := ite_t hc_ h
        refine wp_iload dL_law_914 rfl ?_
        refine wp_if_ne (tgt := 931) dL_law_916 (by decide) (fun hc_ => ?_) (fun hc_ => ?_)
        · replace h := ite_f hc_ h
          exact wp_ls (lsS (lsS (lsS (lsS (lsS (lsN (lsN lsZ))))))) (L_law_J931_ok hX h hc he0 he1 he2 he3 he4 he5 he6 he7 he8 he9 he10 he11 he12 he13 he14 he15 he16 he17 he18 he19 he20 he21 he22 he23 he24 he25 he26 he27 he28 he29 he30 he31 he32 he33 he34 he35 he36)
        · replace h := ite_t hc_ h
          refine wp_aload_n dL_law_919 rfl ?_
          refine wp_iconst (v := 0) dL_law_920 (by decide) ?_
          obtain ⟨v193, e194, h⟩ := bnd h
          refine wp_lneq (tgt := 931) dL_law_921 dL_law_922 dL_law_924 dL_law_925 dL_law_926 e194 (by decide) rfl (fun hc_ => ?_) (fun hc_ => ?_)
          · replace h := ite_t hc_ h
            exact wp_ls (lsS (lsS (lsS (lsS (lsS (lsN (lsN lsZ))))))) (L_law_J931_ok hX h hc he0 he1 he2 he3 he4 he5 he6 he7 he8 he9 he10 he11 he12 he13 he14 he15 he16 he17 he18 he19 he20 he21 he22 he23 he24 he25 he26 he27 he28 he29 he30 he31 he32 he33 he34 he35 he36)
          · replace h := ite_f hc_ h
            cases h
            exact wp_ls (lsN (lsN (lsN (lsN (lsN (lsN (lsN lsZ))))))) (he22 q189.2 rfl)
      · replace h := ite_f hc_ h
        cases h
        exact wp_ls (lsN (lsN (lsN (lsN (lsN (lsN (lsN lsZ))))))) (he21 q189.2 rfl)
    replace h := ite_f cz11 h
    by_cases cz12 : (v1 &&& 31) = 12
    · replace h := ite_t cz12 h
      refine wp_tableIn (tgt := 934) dL_law_40 12 (by rw [cz12]; decide) (by decide) rfl (by decide) ?_
      refine wp_aload_n dL_law_934 rfl ?_
      refine wp_aload_n dL_law_935 rfl ?_
      refine wp_iload dL_law_936 rfl ?_
      refine wp_iconst (v := 1) dL_law_938 (by decide) ?_
      refine wp_iadd dL_law_939 ?_
      obtain ⟨v195, e196, h⟩ := bnd h
      refine wp_scA hX dL_law_940 e196 ?_
      obtain ⟨q197, e198, h⟩ := bnd h
      refine wp_callV (As := [.inl v195]) dL_law_941 (sh_X11_minutes_ok (d := d + 7) e198) okX11_minutes nnX11_minutes vvX11_minutes ml_RL_107 rfl (Nat.le_of_ble_eq_true rfl) ?_
      refine wp_aload_n dL_law_944 rfl ?_
      refine wp_aload_n dL_law_945 rfl ?_
      refine wp_iload dL_law_946 rfl ?_
      refine wp_iconst (v := 1) dL_law_948 (by decide) ?_
      refine wp_iadd dL_law_949 ?_
      obtain ⟨v199, e200, h⟩ := bnd h
      refine wp_scA hX dL_law_950 e200 ?_
      obtain ⟨q201, e202, h⟩ := bnd h
      refine wp_callV (As := [.inl v199]) dL_law_951 (sh_X12_minutes_ok (d := d + 7) e202) okX12_minutes nnX12_minutes vvX12_minutes ml_RL_110 rfl (Nat.le_of_ble_eq_true rfl) ?_
      refine wp_icmp_eq (tgt := 1396) dL_law_954 (by decide) (fun hc_ => ?_) (fun hc_ => ?_)
      · replace h := ite_t hc_ h
        exact wp_ls (lsS (lsS (lsS (lsS (lsS (lsN (lsN lsZ))))))) (L_law_J1396_ok hX h hc he0 he1 he2 he3 he4 he5 he6 he7 he8 he9 he10 he11 he12 he13 he14 he15 he16 he17 he18 he19 he20 he21 he22 he23 he24 he25 he26 he27 he28 he29 he30 he31 he32 he33 he34 he35 he36)
      · replace h := ite_f hc_ h
        cases h
        exact wp_ls (lsN (lsN (lsN (lsN (lsN (lsN (lsN lsZ))))))) (he23 q201.2 rfl)
    replace h := ite_f cz12 h
    by_cases cz13 : (v1 &&& 31) = 13
    · replace h := ite_t cz13 h
      refine wp_tableIn (tgt := 959) dL_law_40 13 (by rw [cz13]; decide) (by decide) rfl (by decide) ?_
      refine wp_aload_n dL_law_959 rfl ?_
      refine wp_aload_n dL_law_960 rfl ?_
      refine wp_iload dL_law_961 rfl ?_
      refine wp_iconst (v := 1) dL_law_963 (by decide) ?_
      refine wp_iadd dL_law_964 ?_
      obtain ⟨v203, e204, h⟩ := bnd h
      refine wp_scA hX dL_law_965 e204 ?_
      refine wp_aload_n dL_law_966 rfl ?_
      refine wp_iload dL_law_967 rfl ?_
      refine wp_iconst (v := 2) dL_law_969 (by decide) ?_
      refine wp_iadd dL_law_970 ?_
      obtain ⟨v205, e206, h⟩ := bnd h
      refine wp_scA hX dL_law_971 e206 ?_
      obtain ⟨q207, e208, h⟩ := bnd h
      refine wp_callV (As := [.inl v203, .inl v205]) dL_law_972 (sh_X11_load_ok (d := d + 8) e208) okX11_load nnX11_load vvX11_load ml_RL_111 rfl (Nat.le_of_ble_eq_true rfl) ?_
      refine wp_aload_n dL_law_975 rfl ?_
      refine wp_aload_n dL_law_976 rfl ?_
      refine wp_iload dL_law_977 rfl ?_
      refine wp_iconst (v := 1) dL_law_979 (by decide) ?_
      refine wp_iadd dL_law_980 ?_
      obtain ⟨v209, e210, h⟩ := bnd h
      refine wp_scA hX dL_law_981 e210 ?_
      refine wp_aload_n dL_law_982 rfl ?_
      refine wp_iload dL_law_983 rfl ?_
      refine wp_iconst (v := 2) dL_law_985 (by decide) ?_
      refine wp_iadd dL_law_986 ?_
      obtain ⟨v211, e212, h⟩ := bnd h
      refine wp_scA hX dL_law_987 e212 ?_
      obtain ⟨q213, e214, h⟩ := bnd h
      refine wp_callV (As := [.inl v209, .inl v211]) dL_law_988 (sh_X12_load_ok (d := d + 10) e214) okX12_load nnX12_load vvX12_load ml_RL_114 rfl (Nat.le_of_ble_eq_true rfl) ?_
      refine wp_icmp_eq (tgt := 1396) dL_law_991 (by decide) (fun hc_ => ?_) (fun hc_ => ?_)
      · replace h := ite_t hc_ h
        exact wp_ls (lsS (lsS (lsS (lsS (lsS (lsN (lsN lsZ))))))) (L_law_J1396_ok hX h hc he0 he1 he2 he3 he4 he5 he6 he7 he8 he9 he10 he11 he12 he13 he14 he15 he16 he17 he18 he19 he20 he21 he22 he23 he24 he25 he26 he27 he28 he29 he30 he31 he32 he33 he34 he35 he36)
      · replace h := ite_f hc_ h
        cases h
        exact wp_ls (lsN (lsN (lsN (lsN (lsN (lsN (lsN lsZ))))))) (he24 q213.2 rfl)
    replace h := ite_f cz13 h
    by_cases cz14 : (v1 &&& 31) = 14
    · replace h := ite_t cz14 h
      refine wp_tableIn (tgt := 996) dL_law_40 14 (by rw [cz14]; decide) (by decide) rfl (by decide) ?_
      refine wp_aload_n dL_law_996 rfl ?_
      refine wp_aload_n dL_law_997 rfl ?_
      refine wp_iload dL_law_998 rfl ?_
      refine wp_iconst (v := 1) dL_law_1000 (by decide) ?_
      refine wp_iadd dL_law_1001 ?_
      obtain ⟨v215, e216, h⟩ := bnd h
      refine wp_scA hX dL_law_1002 e216 ?_
      refine wp_aload_n dL_law_1003 rfl ?_
      refine wp_iload dL_law_1004 rfl ?_
      refine wp_iconst (v := 2) dL_law_1006 (by decide) ?_
      refine wp_iadd dL_law_1007 ?_
      obtain ⟨v217, e218, h⟩ := bnd h
      refine wp_scA hX dL_law_1008 e218 ?_
      obtain ⟨q219, e220, h⟩ := bnd h
      refine wp_callV (As := [.inl v215, .inl v217]) dL_law_1009 (sh_X11_hold_ok (d := d + 8) e220) okX11_hold nnX11_hold vvX11_hold ml_RL_115 rfl (Nat.le_of_ble_eq_true rfl) ?_
      refine wp_aload_n dL_law_1012 rfl ?_
      refine wp_aload_n dL_law_1013 rfl ?_
      refine wp_iload dL_law_1014 rfl ?_
      refine wp_iconst (v := 1) dL_law_1016 (by decide) ?_
      refine wp_iadd dL_law_1017 ?_
      obtain ⟨v221, e222, h⟩ := bnd h
      refine wp_scA hX dL_law_1018 e222 ?_
      refine wp_aload_n dL_law_1019 rfl ?_
      refine wp_iload dL_law_1020 rfl ?_
      refine wp_iconst (v := 2) dL_law_1022 (by decide) ?_
      refine wp_iadd dL_law_1023 ?_
      obtain ⟨v223, e224, h⟩ := bnd h
      refine wp_scA hX dL_law_1024 e224 ?_
      obtain ⟨q225, e226, h⟩ := bnd h
      refine wp_callV (As := [.inl v221, .inl v223]) dL_law_1025 (sh_X12_hold_ok (d := d + 10) e226) okX12_hold nnX12_hold vvX12_hold ml_RL_118 rfl (Nat.le_of_ble_eq_true rfl) ?_
      refine wp_icmp_eq (tgt := 1396) dL_law_1028 (by decide) (fun hc_ => ?_) (fun hc_ => ?_)
      · replace h := ite_t hc_ h
        exact wp_ls (lsS (lsS (lsS (lsS (lsS (lsN (lsN lsZ))))))) (L_law_J1396_ok hX h hc he0 he1 he2 he3 he4 he5 he6 he7 he8 he9 he10 he11 he12 he13 he14 he15 he16 he17 he18 he19 he20 he21 he22 he23 he24 he25 he26 he27 he28 he29 he30 he31 he32 he33 he34 he35 he36)
      · replace h := ite_f hc_ h
        cases h
        exact wp_ls (lsN (lsN (lsN (lsN (lsN (lsN (lsN lsZ))))))) (he25 q225.2 rfl)
    replace h := ite_f cz14 h
    by_cases cz15 : (v1 &&& 31) = 15
    · replace h := ite_t cz15 h
      refine wp_tableIn (tgt := 1033) dL_law_40 15 (by rw [cz15]; decide) (by decide) rfl (by decide) ?_
      refine wp_aload_n dL_law_1033 rfl ?_
      refine wp_aload_n dL_law_1034 rfl ?_
      refine wp_iload dL_law_1035 rfl ?_
      refine wp_iconst (v := 1) dL_law_1037 (by decide) ?_
      refine wp_iadd dL_law_1038 ?_
      obtain ⟨v227, e228, h⟩ := bnd h
      refine wp_scA hX dL_law_1039 e228 ?_
      obtain ⟨q229, e230, h⟩ := bnd h
      refine wp_callV (As := [.inl v227]) dL_law_1040 (sh_X11_start_ok (d := d + 8) e230) okX11_start nnX11_start vvX11_start ml_RL_119 rfl (Nat.le_of_ble_eq_true rfl) ?_
      refine wp_aload_n dL_law_1043 rfl ?_
      refine wp_aload_n dL_law_1044 rfl ?_
      refine wp_iload dL_law_1045 rfl ?_
      refine wp_iconst (v := 1) dL_law_1047 (by decide) ?_
      refine wp_iadd dL_law_1048 ?_
      obtain ⟨v231, e232, h⟩ := bnd h
      refine wp_scA hX dL_law_1049 e232 ?_
      obtain ⟨q233, e234, h⟩ := bnd h
      refine wp_callV (As := [.inl v231]) dL_law_1050 (sh_X12_start_ok (d := d + 10) e234) okX12_start nnX12_start vvX12_start ml_RL_122 rfl (Nat.le_of_ble_eq_true rfl) ?_
      refine wp_icmp_eq (tgt := 1396) dL_law_1053 (by decide) (fun hc_ => ?_) (fun hc_ => ?_)
      · replace h := ite_t hc_ h
        exact wp_ls (lsS (lsS (lsS (lsS (lsS (lsN (lsN lsZ))))))) (L_law_J1396_ok hX h hc he0 he1 he2 he3 he4 he5 he6 he7 he8 he9 he10 he11 he12 he13 he14 he15 he16 he17 he18 he19 he20 he21 he22 he23 he24 he25 he26 he27 he28 he29 he30 he31 he32 he33 he34 he35 he36)
      · replace h := ite_f hc_ h
        cases h
        exact wp_ls (lsN (lsN (lsN (lsN (lsN (lsN (lsN lsZ))))))) (he26 q233.2 rfl)
    replace h := ite_f cz15 h
    by_cases cz16 : (v1 &&& 31) = 16
    · replace h := ite_t cz16 h
      refine wp_tableIn (tgt := 1058) dL_law_40 16 (by rw [cz16]; decide) (by decide) rfl (by decide) ?_
      refine wp_aload_n dL_law_1058 rfl ?_
      refine wp_aload_n dL_law_1059 rfl ?_
      refine wp_iload dL_law_1060 rfl ?_
      refine wp_iconst (v := 1) dL_law_1062 (by decide) ?_
      refine wp_iadd dL_law_1063 ?_
      obtain ⟨v235, e236, h⟩ := bnd h
      refine wp_scA hX dL_law_1064 e236 ?_
      obtain ⟨q237, e238, h⟩ := bnd h
      refine wp_callV (As := [.inl v235]) dL_law_1065 (sh_X11_foresee_ok (d := d + 8) e238) okX11_foresee nnX11_foresee vvX11_foresee ml_RL_123 rfl (Nat.le_of_ble_eq_true rfl) ?_
      refine wp_aload_n dL_law_1068 rfl ?_
      refine wp_aload_n dL_law_1069 rfl ?_
      refine wp_iload dL_law_1070 rfl ?_
      refine wp_iconst (v := 1) dL_law_1072 (by decide) ?_
      refine wp_iadd dL_law_1073 ?_
      obtain ⟨v239, e240, h⟩ := bnd h
      refine wp_scA hX dL_law_1074 e240 ?_
      obtain ⟨q241, e242, h⟩ := bnd h
      refine wp_callV (As := [.inl v239]) dL_law_1075 (sh_X12_foresee_ok (d := d + 11) e242) okX12_foresee nnX12_foresee vvX12_foresee ml_RL_126 rfl (Nat.le_of_ble_eq_true rfl) ?_
      refine wp_icmp_eq (tgt := 1396) dL_law_1078 (by decide) (fun hc_ => ?_) (fun hc_ => ?_)
      · replace h := ite_t hc_ h
        exact wp_ls (lsS (lsS (lsS (lsS (lsS (lsN (lsN lsZ))))))) (L_law_J1396_ok hX h hc he0 he1 he2 he3 he4 he5 he6 he7 he8 he9 he10 he11 he12 he13 he14 he15 he16 he17 he18 he19 he20 he21 he22 he23 he24 he25 he26 he27 he28 he29 he30 he31 he32 he33 he34 he35 he36)
      · replace h := ite_f hc_ h
        cases h
        exact wp_ls (lsN (lsN (lsN (lsN (lsN (lsN (lsN lsZ))))))) (he27 q241.2 rfl)
    replace h := ite_f cz16 h
    by_cases cz17 : (v1 &&& 31) = 17
    · replace h := ite_t cz17 h
      refine wp_tableIn (tgt := 1083) dL_law_40 17 (by rw [cz17]; decide) (by decide) rfl (by decide) ?_
      refine wp_aload_n dL_law_1083 rfl ?_
      obtain ⟨q243, e244, h⟩ := bnd h
      refine wp_callV (As := []) dL_law_1084 (sh_X11_undo_ok (d := d + 8) e244) okX11_undo nnX11_undo vvX11_undo ml_RL_127 rfl (Nat.le_of_ble_eq_true rfl) ?_
      refine wp_aload_n dL_law_1087 rfl ?_
      obtain ⟨q245, e246, h⟩ := bnd h
      refine wp_callV (As := []) dL_law_1088 (sh_X12_undo_ok (d := d + 12) e246) okX12_undo nnX12_undo vvX12_undo ml_RL_130 rfl (Nat.le_of_ble_eq_true rfl) ?_
      refine wp_icmp_eq (tgt := 1396) dL_law_1091 (by decide) (fun hc_ => ?_) (fun hc_ => ?_)
      · replace h := ite_t hc_ h
        exact wp_ls (lsS (lsS (lsS (lsS (lsS (lsN (lsN lsZ))))))) (L_law_J1396_ok hX h hc he0 he1 he2 he3 he4 he5 he6 he7 he8 he9 he10 he11 he12 he13 he14 he15 he16 he17 he18 he19 he20 he21 he22 he23 he24 he25 he26 he27 he28 he29 he30 he31 he32 he33 he34 he35 he36)
      · replace h := ite_f hc_ h
        cases h
        exact wp_ls (lsN (lsN (lsN (lsN (lsN (lsN (lsN lsZ))))))) (he28 q245.2 rfl)
    replace h := ite_f cz17 h
    by_cases cz18 : (v1 &&& 31) = 18
    · replace h := ite_t cz18 h
      refine wp_tableIn (tgt := 1096) dL_law_40 18 (by rw [cz18]; decide) (by decide) rfl (by decide) ?_
      refine wp_aload_n dL_law_1096 rfl ?_
      refine wp_aload_n dL_law_1097 rfl ?_
      refine wp_iload dL_law_1098 rfl ?_
      refine wp_iconst (v := 1) dL_law_1100 (by decide) ?_
      refine wp_iadd dL_law_1101 ?_
      obtain ⟨v247, e248, h⟩ := bnd h
      refine wp_scA hX dL_law_1102 e248 ?_
      refine wp_aload_n dL_law_1103 rfl ?_
      refine wp_iload dL_law_1104 rfl ?_
      refine wp_iconst (v := 2) dL_law_1106 (by decide) ?_
      refine wp_iadd dL_law_1107 ?_
      obtain ⟨v249, e250, h⟩ := bnd h
      refine wp_scA hX dL_law_1108 e250 ?_
      refine wp_aload_n dL_law_1109 rfl ?_
      refine wp_iload dL_law_1110 rfl ?_
      refine wp_iconst (v := 3) dL_law_1112 (by decide) ?_
      refine wp_iadd dL_law_1113 ?_
      obtain ⟨v251, e252, h⟩ := bnd h
      refine wp_scA hX dL_law_1114 e252 ?_
      obtain ⟨q253, e254, h⟩ := bnd h
      refine wp_callV (As := [.inl v247, .inl v249, .inl v251]) dL_law_1115 (sh_X11_note_ok (d := d + 11) e254) okX11_note nnX11_note vvX11_note ml_RL_131 rfl (Nat.le_of_ble_eq_true rfl) ?_
      refine wp_aload_n dL_law_1118 rfl ?_
      refine wp_aload_n dL_law_1119 rfl ?_
      refine wp_iload dL_law_1120 rfl ?_
      refine wp_iconst (v := 1) dL_law_1122 (by decide) ?_
      refine wp_iadd dL_law_1123 ?_
      obtain ⟨v255, e256, h⟩ := bnd h
      refine wp_scA hX dL_law_1124 e256 ?_
      refine wp_aload_n dL_law_1125 rfl ?_
      refine wp_iload dL_law_1126 rfl ?_
      refine wp_iconst (v := 2) dL_law_1128 (by decide) ?_
      refine wp_iadd dL_law_1129 ?_
      obtain ⟨v257, e258, h⟩ := bnd h
      refine wp_scA hX dL_law_1130 e258 ?_
      refine wp_aload_n dL_law_1131 rfl ?_
      refine wp_iload dL_law_1132 rfl ?_
      refine wp_iconst (v := 3) dL_law_1134 (by decide) ?_
      refine wp_iadd dL_law_1135 ?_
      obtain ⟨v259, e260, h⟩ := bnd h
      refine wp_scA hX dL_law_1136 e260 ?_
      obtain ⟨q261, e262, h⟩ := bnd h
      refine wp_callV (As := [.inl v255, .inl v257, .inl v259]) dL_law_1137 (sh_X12_note_ok (d := d + 10) e262) okX12_note nnX12_note vvX12_note ml_RL_134 rfl (Nat.le_of_ble_eq_true rfl) ?_
      refine wp_icmp_eq (tgt := 1396) dL_law_1140 (by decide) (fun hc_ => ?_) (fun hc_ => ?_)
      · replace h := ite_t hc_ h
        exact wp_ls (lsS (lsS (lsS (lsS (lsS (lsN (lsN lsZ))))))) (L_law_J1396_ok hX h hc he0 he1 he2 he3 he4 he5 he6 he7 he8 he9 he10 he11 he12 he13 he14 he15 he16 he17 he18 he19 he20 he21 he22 he23 he24 he25 he26 he27 he28 he29 he30 he31 he32 he33 he34 he35 he36)
      · replace h := ite_f hc_ h
        cases h
        exact wp_ls (lsN (lsN (lsN (lsN (lsN (lsN (lsN lsZ))))))) (he29 q261.2 rfl)
    replace h := ite_f cz18 h
    by_cases cz19 : (v1 &&& 31) = 19
    · replace h := ite_t cz19 h
      refine wp_tableIn (tgt := 1145) dL_law_40 19 (by rw [cz19]; decide) (by decide) rfl (by decide) ?_
      refine wp_aload_n dL_law_1145 rfl ?_
      refine wp_aload_n dL_law_1146 rfl ?_
      refine wp_iload dL_law_1147 rfl ?_
      refine wp_iconst (v := 1) dL_law_1149 (by decide) ?_
      refine wp_iadd dL_law_1150 ?_
      obtain ⟨v263, e264, h⟩ := bnd h
      refine wp_scA hX dL_law_1151 e264 ?_
      refine wp_aload_n dL_law_1152 rfl ?_
      refine wp_iload dL_law_1153 rfl ?_
      refine wp_iconst (v := 2) dL_law_1155 (by decide) ?_
      refine wp_iadd dL_law_1156 ?_
      obtain ⟨v265, e266, h⟩ := bnd h
      refine wp_scA hX dL_law_1157 e266 ?_
      refine wp_aload_n dL_law_1158 rfl ?_
      obtain ⟨q267, e268, h⟩ := bnd h
      refine wp_callSH (As := [.inr x1, .inl v263, .inl v265, .inr x3]) dL_law_1159 (sh_L_fits_ok (d := d + 4) e268) okL_fits nnL_fits ssL_fits ml_RL_135 rfl (Nat.le_of_ble_eq_true rfl) ?_
      refine wp_istore dL_law_1162 (Nat.le_of_ble_eq_true rfl) ?_
      refine wp_aload_n dL_law_1164 rfl ?_
      refine wp_aload_n dL_law_1165 rfl ?_
      refine wp_iload dL_law_1166 rfl ?_
      refine wp_iconst (v := 1) dL_law_1168 (by decide) ?_
      refine wp_iadd dL_law_1169 ?_
      obtain ⟨v269, e270, h⟩ := bnd h
      refine wp_scA hX dL_law_1170 e270 ?_
      refine wp_aload_n dL_law_1171 rfl ?_
      refine wp_iload dL_law_1172 rfl ?_
      refine wp_iconst (v := 2) dL_law_1174 (by decide) ?_
      refine wp_iadd dL_law_1175 ?_
      obtain ⟨v271, e272, h⟩ := bnd h
      refine wp_scA hX dL_law_1176 e272 ?_
      obtain ⟨q273, e274, h⟩ := bnd h
      refine wp_callV (As := [.inl v269, .inl v271]) dL_law_1177 (sh_X12_fits_ok (d := d + 6) e274) okX12_fits nnX12_fits vvX12_fits ml_RL_137 rfl (Nat.le_of_ble_eq_true rfl) ?_
      refine wp_istore dL_law_1180 (Nat.le_of_ble_eq_true rfl) ?_
      refine wp_aload_n dL_law_1182 rfl ?_
      obtain ⟨q275, e276, h⟩ := bnd h
      refine wp_callV (As := []) dL_law_1183 (sh_X12_thrown_ok (d := d + 12) e276) okX12_thrown nnX12_thrown vvX12_thrown ml_RL_70 rfl (Nat.le_of_ble_eq_true rfl) ?_
      refine wp_iload dL_law_1186 rfl ?_
      refine wp_icmp_eq (tgt := 1193) dL_law_1188 (by decide) (fun hc_ => ?_) (fun hc_ => ?_)
      · replace h := ite_t hc_ h
        refine wp_iload dL_law_1193 rfl ?_
        refine wp_if_ne (tgt := 1210) dL_law_1195 (by decide) (fun hc_ => ?_) (fun hc_ => ?_)
        · replace h := ite_f hc_ h
          exact wp_ls (lsS (lsS (lsS (lsS (lsS (lsN (lsN lsZ))))))) (L_law_J1210_ok hX h hc he0 he1 he2 he3 he4 he5 he6 he7 he8 he9 he10 he11 he12 he13 he14 he15 he16 he17 he18 he19 he20 he21 he22 he23 he24 he25 he26 he27 he28 he29 he30 he31 he32 he33 he34 he35 he36)
        · replace h := ite_t hc_ h
          refine wp_aload_n dL_law_1198 rfl ?_
          refine wp_iconst (v := 0) dL_law_1199 (by decide) ?_
          obtain ⟨v277, e278, h⟩ := bnd h
          refine wp_lneq (tgt := 1210) dL_law_1200 dL_law_1201 dL_law_1203 dL_law_1204 dL_law_1205 e278 (by decide) rfl (fun hc_ => ?_) (fun hc_ => ?_)
          · replace h := ite_t hc_ h
            exact wp_ls (lsS (lsS (lsS (lsS (lsS (lsN (lsN lsZ))))))) (L_law_J1210_ok hX h hc he0 he1 he2 he3 he4 he5 he6 he7 he8 he9 he10 he11 he12 he13 he14 he15 he16 he17 he18 he19 he20 he21 he22 he23 he24 he25 he26 he27 he28 he29 he30 he31 he32 he33 he34 he35 he36)
          · replace h := ite_f hc_ h
            cases h
            exact wp_ls (lsN (lsN (lsN (lsN (lsN (lsN (lsN lsZ))))))) (he31 q273.2 rfl)
      · replace h := ite_f hc_ h
        cases h
        exact wp_ls (lsN (lsN (lsN (lsN (lsN (lsN (lsN lsZ))))))) (he30 q273.2 rfl)
    replace h := ite_f cz19 h
    by_cases cz20 : (v1 &&& 31) = 20
    · replace h := ite_t cz20 h
      refine wp_tableIn (tgt := 1213) dL_law_40 20 (by rw [cz20]; decide) (by decide) rfl (by decide) ?_
      refine wp_aload_n dL_law_1213 rfl ?_
      refine wp_aload_n dL_law_1214 rfl ?_
      refine wp_iload dL_law_1215 rfl ?_
      refine wp_iconst (v := 1) dL_law_1217 (by decide) ?_
      refine wp_iadd dL_law_1218 ?_
      obtain ⟨v279, e280, h⟩ := bnd h
      refine wp_scA hX dL_law_1219 e280 ?_
      refine wp_aload_n dL_law_1220 rfl ?_
      refine wp_iload dL_law_1221 rfl ?_
      refine wp_iconst (v := 2) dL_law_1223 (by decide) ?_
      refine wp_iadd dL_law_1224 ?_
      obtain ⟨v281, e282, h⟩ := bnd h
      refine wp_scA hX dL_law_1225 e282 ?_
      refine wp_aload_n dL_law_1226 rfl ?_
      obtain ⟨q283, e284, h⟩ := bnd h
      refine wp_callSH (As := [.inr x1, .inl v279, .inl v281, .inr x3]) dL_law_1227 (sh_L_look_ok (d := d + 4) e284) okL_look nnL_look ssL_look ml_RL_138 rfl (Nat.le_of_ble_eq_true rfl) ?_
      refine wp_istore dL_law_1230 (Nat.le_of_ble_eq_true rfl) ?_
      refine wp_aload_n dL_law_1232 rfl ?_
      refine wp_aload_n dL_law_1233 rfl ?_
      refine wp_iload dL_law_1234 rfl ?_
      refine wp_iconst (v := 1) dL_law_1236 (by decide) ?_
      refine wp_iadd dL_law_1237 ?_
      obtain ⟨v285, e286, h⟩ := bnd h
      refine wp_scA hX dL_law_1238 e286 ?_
      refine wp_aload_n dL_law_1239 rfl ?_
      refine wp_iload dL_law_1240 rfl ?_
      refine wp_iconst (v := 2) dL_law_1242 (by decide) ?_
      refine wp_iadd dL_law_1243 ?_
      obtain ⟨v287, e288, h⟩ := bnd h
      refine wp_scA hX dL_law_1244 e288 ?_
      obtain ⟨q289, e290, h⟩ := bnd h
      refine wp_callV (As := [.inl v285, .inl v287]) dL_law_1245 (sh_X12_look_ok (d := d + 6) e290) okX12_look nnX12_look vvX12_look ml_RL_140 rfl (Nat.le_of_ble_eq_true rfl) ?_
      refine wp_istore dL_law_1248 (Nat.le_of_ble_eq_true rfl) ?_
      refine wp_aload_n dL_law_1250 rfl ?_
      obtain ⟨q291, e292, h⟩ := bnd h
      refine wp_callV (As := []) dL_law_1251 (sh_X12_thrown_ok (d := d + 12) e292) okX12_thrown nnX12_thrown vvX12_thrown ml_RL_70 rfl (Nat.le_of_ble_eq_true rfl) ?_
      refine wp_iload dL_law_1254 rfl ?_
      refine wp_icmp_eq (tgt := 1261) dL_law_1256 (by decide) (fun hc_ => ?_) (fun hc_ => ?_)
      · replace h := ite_t hc_ h
        refine wp_iload dL_law_1261 rfl ?_
        refine wp_if_ne (tgt := 1278) dL_law_1263 (by decide) (fun hc_ => ?_) (fun hc_ => ?_)
        · replace h := ite_f hc_ h
          exact wp_ls (lsS (lsS (lsS (lsS (lsS (lsN (lsN lsZ))))))) (L_law_J1278_ok hX h hc he0 he1 he2 he3 he4 he5 he6 he7 he8 he9 he10 he11 he12 he13 he14 he15 he16 he17 he18 he19 he20 he21 he22 he23 he24 he25 he26 he27 he28 he29 he30 he31 he32 he33 he34 he35 he36)
        · replace h := ite_t hc_ h
          refine wp_aload_n dL_law_1266 rfl ?_
          refine wp_iconst (v := 0) dL_law_1267 (by decide) ?_
          obtain ⟨v293, e294, h⟩ := bnd h
          refine wp_lneq (tgt := 1278) dL_law_1268 dL_law_1269 dL_law_1271 dL_law_1272 dL_law_1273 e294 (by decide) rfl (fun hc_ => ?_) (fun hc_ => ?_)
          · replace h := ite_t hc_ h
            exact wp_ls (lsS (lsS (lsS (lsS (lsS (lsN (lsN lsZ))))))) (L_law_J1278_ok hX h hc he0 he1 he2 he3 he4 he5 he6 he7 he8 he9 he10 he11 he12 he13 he14 he15 he16 he17 he18 he19 he20 he21 he22 he23 he24 he25 he26 he27 he28 he29 he30 he31 he32 he33 he34 he35 he36)
          · replace h := ite_f hc_ h
            cases h
            exact wp_ls (lsN (lsN (lsN (lsN (lsN (lsN (lsN lsZ))))))) (he33 q289.2 rfl)
      · replace h := ite_f hc_ h
        cases h
        exact wp_ls (lsN (lsN (lsN (lsN (lsN (lsN (lsN lsZ))))))) (he32 q289.2 rfl)
    replace h := ite_f cz20 h
    by_cases cz21 : (v1 &&& 31) = 21
    · replace h := ite_t cz21 h
      refine wp_tableIn (tgt := 1281) dL_law_40 21 (by rw [cz21]; decide) (by decide) rfl (by decide) ?_
      refine wp_aload_n dL_law_1281 rfl ?_
      obtain ⟨q295, e296, h⟩ := bnd h
      refine wp_callV (As := []) dL_law_1282 (sh_X11_forget_ok (d := d + 12) e296) okX11_forget nnX11_forget vvX11_forget ml_RL_141 rfl (Nat.le_of_ble_eq_true rfl) ?_
      refine wp_aload_n dL_law_1285 rfl ?_
      obtain ⟨q297, e298, h⟩ := bnd h
      refine wp_callV (As := []) dL_law_1286 (sh_X12_forget_ok (d := d + 12) e298) okX12_forget nnX12_forget vvX12_forget ml_RL_144 rfl (Nat.le_of_ble_eq_true rfl) ?_
      refine wp_goto (tgt := 1396) dL_law_1289 (by decide) ?_
      exact wp_ls (lsS (lsS (lsS (lsS (lsS (lsN (lsN lsZ))))))) (L_law_J1396_ok hX h hc he0 he1 he2 he3 he4 he5 he6 he7 he8 he9 he10 he11 he12 he13 he14 he15 he16 he17 he18 he19 he20 he21 he22 he23 he24 he25 he26 he27 he28 he29 he30 he31 he32 he33 he34 he35 he36)
    replace h := ite_f cz21 h
    by_cases cz22 : (v1 &&& 31) = 22
    · replace h := ite_t cz22 h
      refine wp_tableIn (tgt := 1292) dL_law_40 22 (by rw [cz22]; decide) (by decide) rfl (by decide) ?_
      refine wp_aload_n dL_law_1292 rfl ?_
      refine wp_aload_n dL_law_1293 rfl ?_
      refine wp_iload dL_law_1294 rfl ?_
      refine wp_iconst (v := 1) dL_law_1296 (by decide) ?_
      refine wp_iadd dL_law_1297 ?_
      obtain ⟨v299, e300, h⟩ := bnd h
      refine wp_scA hX dL_law_1298 e300 ?_
      refine wp_aload_n dL_law_1299 rfl ?_
      refine wp_iload dL_law_1300 rfl ?_
      refine wp_iconst (v := 2) dL_law_1302 (by decide) ?_
      refine wp_iadd dL_law_1303 ?_
      obtain ⟨v301, e302, h⟩ := bnd h
      refine wp_scA hX dL_law_1304 e302 ?_
      refine wp_aload_n dL_law_1305 rfl ?_
      refine wp_iload dL_law_1306 rfl ?_
      refine wp_iconst (v := 3) dL_law_1308 (by decide) ?_
      refine wp_iadd dL_law_1309 ?_
      obtain ⟨v303, e304, h⟩ := bnd h
      refine wp_scA hX dL_law_1310 e304 ?_
      refine wp_aload_n dL_law_1311 rfl ?_
      obtain ⟨q305, e306, h⟩ := bnd h
      refine wp_callSH (As := [.inr x1, .inl v299, .inl v301, .inl v303, .inr x3]) dL_law_1312 (sh_L_years_ok (d := d + 4) e306) okL_years nnL_years ssL_years ml_RL_145 rfl (Nat.le_of_ble_eq_true rfl) ?_
      refine wp_istore dL_law_1315 (Nat.le_of_ble_eq_true rfl) ?_
      refine wp_aload_n dL_law_1317 rfl ?_
      refine wp_aload_n dL_law_1318 rfl ?_
      refine wp_iload dL_law_1319 rfl ?_
      refine wp_iconst (v := 1) dL_law_1321 (by decide) ?_
      refine wp_iadd dL_law_1322 ?_
      obtain ⟨v307, e308, h⟩ := bnd h
      refine wp_scA hX dL_law_1323 e308 ?_
      refine wp_aload_n dL_law_1324 rfl ?_
      refine wp_iload dL_law_1325 rfl ?_
      refine wp_iconst (v := 2) dL_law_1327 (by decide) ?_
      refine wp_iadd dL_law_1328 ?_
      obtain ⟨v309, e310, h⟩ := bnd h
      refine wp_scA hX dL_law_1329 e310 ?_
      refine wp_aload_n dL_law_1330 rfl ?_
      refine wp_iload dL_law_1331 rfl ?_
      refine wp_iconst (v := 3) dL_law_1333 (by decide) ?_
      refine wp_iadd dL_law_1334 ?_
      obtain ⟨v311, e312, h⟩ := bnd h
      refine wp_scA hX dL_law_1335 e312 ?_
      obtain ⟨q313, e314, h⟩ := bnd h
      refine wp_callV (As := [.inl v307, .inl v309, .inl v311]) dL_law_1336 (sh_X12_years_ok (d := d + 7) e314) okX12_years nnX12_years vvX12_years ml_RL_147 rfl (Nat.le_of_ble_eq_true rfl) ?_
      refine wp_istore dL_law_1339 (Nat.le_of_ble_eq_true rfl) ?_
      refine wp_aload_n dL_law_1341 rfl ?_
      obtain ⟨q315, e316, h⟩ := bnd h
      refine wp_callV (As := []) dL_law_1342 (sh_X12_thrown_ok (d := d + 12) e316) okX12_thrown nnX12_thrown vvX12_thrown ml_RL_70 rfl (Nat.le_of_ble_eq_true rfl) ?_
      refine wp_iload dL_law_1345 rfl ?_
      refine wp_icmp_eq (tgt := 1352) dL_law_1347 (by decide) (fun hc_ => ?_) (fun hc_ => ?_)
      · replace h := ite_t hc_ h
        refine wp_iload dL_law_1352 rfl ?_
        refine wp_if_ne (tgt := 1369) dL_law_1354 (by decide) (fun hc_ => ?_) (fun hc_ => ?_)
        · replace h := ite_f hc_ h
          exact wp_ls (lsS (lsS (lsS (lsS (lsS (lsN (lsN lsZ))))))) (L_law_J1369_ok hX h hc he0 he1 he2 he3 he4 he5 he6 he7 he8 he9 he10 he11 he12 he13 he14 he15 he16 he17 he18 he19 he20 he21 he22 he23 he24 he25 he26 he27 he28 he29 he30 he31 he32 he33 he34 he35 he36)
        · replace h := ite_t hc_ h
          refine wp_aload_n dL_law_1357 rfl ?_
          refine wp_iconst (v := 0) dL_law_1358 (by decide) ?_
          obtain ⟨v317, e318, h⟩ := bnd h
          refine wp_lneq (tgt := 1369) dL_law_1359 dL_law_1360 dL_law_1362 dL_law_1363 dL_law_1364 e318 (by decide) rfl (fun hc_ => ?_) (fun hc_ => ?_)
          · replace h := ite_t hc_ h
            exact wp_ls (lsS (lsS (lsS (lsS (lsS (lsN (lsN lsZ))))))) (L_law_J1369_ok hX h hc he0 he1 he2 he3 he4 he5 he6 he7 he8 he9 he10 he11 he12 he13 he14 he15 he16 he17 he18 he19 he20 he21 he22 he23 he24 he25 he26 he27 he28 he29 he30 he31 he32 he33 he34 he35 he36)
          · replace h := ite_f hc_ h
            cases h
            exact wp_ls (lsN (lsN (lsN (lsN (lsN (lsN (lsN lsZ))))))) (he35 q313.2 rfl)
      · replace h := ite_f hc_ h
        cases h
        exact wp_ls (lsN (lsN (lsN (lsN (lsN (lsN (lsN lsZ))))))) (he34 q313.2 rfl)
    replace h := ite_f cz22 h
    by_cases cz23 : (v1 &&& 31) = 23
    · replace h := ite_t cz23 h
      refine wp_tableIn (tgt := 1372) dL_law_40 23 (by rw [cz23]; decide) (by decide) rfl (by decide) ?_
      refine wp_aload_n dL_law_1372 rfl ?_
      obtain ⟨q319, e320, h⟩ := bnd h
      refine wp_callV (As := []) dL_law_1373 (sh_X11_image_ok (d := d + 8) e320) okX11_image nnX11_image vvX11_image ml_RL_148 rfl (Nat.le_of_ble_eq_true rfl) ?_
      refine wp_aload_n dL_law_1376 rfl ?_
      obtain ⟨q321, e322, h⟩ := bnd h
      refine wp_callV (As := []) dL_law_1377 (sh_X12_image_ok (d := d + 11) e322) okX12_image nnX12_image vvX12_image ml_RL_151 rfl (Nat.le_of_ble_eq_true rfl) ?_
      refine wp_goto (tgt := 1396) dL_law_1380 (by decide) ?_
      exact wp_ls (lsS (lsS (lsS (lsS (lsS (lsN (lsN lsZ))))))) (L_law_J1396_ok hX h hc he0 he1 he2 he3 he4 he5 he6 he7 he8 he9 he10 he11 he12 he13 he14 he15 he16 he17 he18 he19 he20 he21 he22 he23 he24 he25 he26 he27 he28 he29 he30 he31 he32 he33 he34 he35 he36)
    replace h := ite_f cz23 h
    by_cases cz24 : (v1 &&& 31) = 24
    · replace h := ite_t cz24 h
      refine wp_tableIn (tgt := 1383) dL_law_40 24 (by rw [cz24]; decide) (by decide) rfl (by decide) ?_
      refine wp_aload_n dL_law_1383 rfl ?_
      obtain ⟨q323, e324, h⟩ := bnd h
      refine wp_callV (As := []) dL_law_1384 (sh_X11_restore_ok (d := d + 8) e324) okX11_restore nnX11_restore vvX11_restore ml_RL_152 rfl (Nat.le_of_ble_eq_true rfl) ?_
      refine wp_aload_n dL_law_1387 rfl ?_
      obtain ⟨q325, e326, h⟩ := bnd h
      refine wp_callV (As := []) dL_law_1388 (sh_X12_restore_ok (d := d + 11) e326) okX12_restore nnX12_restore vvX12_restore ml_RL_156 rfl (Nat.le_of_ble_eq_true rfl) ?_
      refine wp_icmp_eq (tgt := 1396) dL_law_1391 (by decide) (fun hc_ => ?_) (fun hc_ => ?_)
      · replace h := ite_t hc_ h
        exact wp_ls (lsS (lsS (lsS (lsS (lsS (lsN (lsN lsZ))))))) (L_law_J1396_ok hX h hc he0 he1 he2 he3 he4 he5 he6 he7 he8 he9 he10 he11 he12 he13 he14 he15 he16 he17 he18 he19 he20 he21 he22 he23 he24 he25 he26 he27 he28 he29 he30 he31 he32 he33 he34 he35 he36)
      · replace h := ite_f hc_ h
        cases h
        exact wp_ls (lsN (lsN (lsN (lsN (lsN (lsN (lsN lsZ))))))) (he36 q325.2 rfl)
    replace h := ite_f cz24 h
    refine wp_tableOut (tgt := 1396) dL_law_40 (by have g0 := lv_neT cz0 (show (0 : Int32).toInt = 0 by decide); have g1 := lv_neT cz1 (show (1 : Int32).toInt = 1 by decide); have g2 := lv_neT cz2 (show (2 : Int32).toInt = 2 by decide); have g3 := lv_neT cz3 (show (3 : Int32).toInt = 3 by decide); have g4 := lv_neT cz4 (show (4 : Int32).toInt = 4 by decide); have g5 := lv_neT cz5 (show (5 : Int32).toInt = 5 by decide); have g6 := lv_neT cz6 (show (6 : Int32).toInt = 6 by decide); have g7 := lv_neT cz7 (show (7 : Int32).toInt = 7 by decide); have g8 := lv_neT cz8 (show (8 : Int32).toInt = 8 by decide); have g9 := lv_neT cz9 (show (9 : Int32).toInt = 9 by decide); have g10 := lv_neT cz10 (show (10 : Int32).toInt = 10 by decide); have g11 := lv_neT cz11 (show (11 : Int32).toInt = 11 by decide); have g12 := lv_neT cz12 (show (12 : Int32).toInt = 12 by decide); have g13 := lv_neT cz13 (show (13 : Int32).toInt = 13 by decide); have g14 := lv_neT cz14 (show (14 : Int32).toInt = 14 by decide); have g15 := lv_neT cz15 (show (15 : Int32).toInt = 15 by decide); have g16 := lv_neT cz16 (show (16 : Int32).toInt = 16 by decide); have g17 := lv_neT cz17 (show (17 : Int32).toInt = 17 by decide); have g18 := lv_neT cz18 (show (18 : Int32).toInt = 18 by decide); have g19 := lv_neT cz19 (show (19 : Int32).toInt = 19 by decide); have g20 := lv_neT cz20 (show (20 : Int32).toInt = 20 by decide); have g21 := lv_neT cz21 (show (21 : Int32).toInt = 21 by decide); have g22 := lv_neT cz22 (show (22 : Int32).toInt = 22 by decide); have g23 := lv_neT cz23 (show (23 : Int32).toInt = 23 by decide); have g24 := lv_neT cz24 (show (24 : Int32).toInt = 24 by decide); omega) (by decide) ?_
    exact wp_ls (lsS (lsS (lsS (lsS (lsS (lsN (lsN lsZ))))))) (L_law_J1396_ok hX h hc he0 he1 he2 he3 he4 he5 he6 he7 he8 he9 he10 he11 he12 he13 he14 he15 he16 he17 he18 he19 he20 he21 he22 he23 he24 he25 he26 he27 he28 he29 he30 he31 he32 he33 he34 he35 he36)

theorem L_law_B23_lp {w : Gw} {d : Nat} {L : Nat} {xs : Nat → Int32} {x1 : Nat} {x2 : Nat} {x3 : Nat} (hX : va_X (rho w 1) L xs w.1 w.1.heap) {o : Go} {M' : Gm} {r : Gm ⊕ Gm ⊕ Gm ⊕ Gm ⊕ Gm ⊕ Gm ⊕ Gm ⊕ Gm ⊕ Gm ⊕ Gm ⊕ Gm ⊕ Gm ⊕ Gm ⊕ Gm ⊕ Gm ⊕ Gm ⊕ Gm ⊕ Gm ⊕ Gm ⊕ Gm ⊕ Gm ⊕ Gm ⊕ Gm ⊕ Gm ⊕ Gm ⊕ Gm ⊕ Gm ⊕ Gm ⊕ Gm ⊕ Gm ⊕ Gm ⊕ Gm ⊕ Gm ⊕ Gm ⊕ Gm ⊕ Gm ⊕ Gm} : ∀ (n : Nat) (q : Int32 × Gm), lp (L_law_B23 L xs x1 x2 x3) n q = some r → (∀ t : Gm, r = (.inl t) → Wp w mdL_law (d + 13) 1402 [none, none, none, none, none, none, none] [] t o M') → (∀ t : Gm, r = (.inr (.inl t)) → Wp w mdL_law (d + 13) 227 [none, none, none, none, none, none, none] [] t o M') → (∀ t : Gm, r = (.inr (.inr (.inl t))) → Wp w mdL_law (d + 13) 263 [none, none, none, none, none, none, none] [] t o M') → (∀ t : Gm, r = (.inr (.inr (.inr (.inl t)))) → Wp w mdL_law (d + 13) 280 [none, none, none, none, none, none, none] [] t o M') → (∀ t : Gm, r = (.inr (.inr (.inr (.inr (.inl t))))) → Wp w mdL_law (d + 13) 296 [none, none, none, none, none, none, none] [] t o M') → (∀ t : Gm, r = (.inr (.inr (.inr (.inr (.inr (.inl t)))))) → Wp w mdL_law (d + 13) 332 [none, none, none, none, none, none, none] [] t o M') → (∀ t : Gm, r = (.inr (.inr (.inr (.inr (.inr (.inr (.inl t))))))) → Wp w mdL_law (d + 13) 349 [none, none, none, none, none, none, none] [] t o M') → (∀ t : Gm, r = (.inr (.inr (.inr (.inr (.inr (.inr (.inr (.inl t)))))))) → Wp w mdL_law (d + 13) 400 [none, none, none, none, none, none, none] [] t o M') → (∀ t : Gm, r = (.inr (.inr (.inr (.inr (.inr (.inr (.inr (.inr (.inl t))))))))) → Wp w mdL_law (d + 13) 417 [none, none, none, none, none, none, none] [] t o M') → (∀ t : Gm, r = (.inr (.inr (.inr (.inr (.inr (.inr (.inr (.inr (.inr (.inl t)))))))))) → Wp w mdL_law (d + 13) 468 [none, none, none, none, none, none, none] [] t o M') → (∀ t : Gm, r = (.inr (.inr (.inr (.inr (.inr (.inr (.inr (.inr (.inr (.inr (.inl t))))))))))) → Wp w mdL_law (d + 13) 485 [none, none, none, none, none, none, none] [] t o M') → (∀ t : Gm, r = (.inr (.inr (.inr (.inr (.inr (.inr (.inr (.inr (.inr (.inr (.inr (.inl t)))))))))))) → Wp w mdL_law (d + 13) 536 [none, none, none, none, none, none, none] [] t o M') → (∀ t : Gm, r = (.inr (.inr (.inr (.inr (.inr (.inr (.inr (.inr (.inr (.inr (.inr (.inr (.inl t))))))))))))) → Wp w mdL_law (d + 13) 553 [none, none, none, none, none, none, none] [] t o M') → (∀ t : Gm, r = (.inr (.inr (.inr (.inr (.inr (.inr (.inr (.inr (.inr (.inr (.inr (.inr (.inr (.inl t)))))))))))))) → Wp w mdL_law (d + 13) 616 [none, none, none, none, none, none, none] [] t o M') → (∀ t : Gm, r = (.inr (.inr (.inr (.inr (.inr (.inr (.inr (.inr (.inr (.inr (.inr (.inr (.inr (.inr (.inl t))))))))))))))) → Wp w mdL_law (d + 13) 633 [none, none, none, none, none, none, none] [] t o M') → (∀ t : Gm, r = (.inr (.inr (.inr (.inr (.inr (.inr (.inr (.inr (.inr (.inr (.inr (.inr (.inr (.inr (.inr (.inl t)))))))))))))))) → Wp w mdL_law (d + 13) 684 [none, none, none, none, none, none, none] [] t o M') → (∀ t : Gm, r = (.inr (.inr (.inr (.inr (.inr (.inr (.inr (.inr (.inr (.inr (.inr (.inr (.inr (.inr (.inr (.inr (.inl t))))))))))))))))) → Wp w mdL_law (d + 13) 701 [none, none, none, none, none, none, none] [] t o M') → (∀ t : Gm, r = (.inr (.inr (.inr (.inr (.inr (.inr (.inr (.inr (.inr (.inr (.inr (.inr (.inr (.inr (.inr (.inr (.inr (.inl t)))))))))))))))))) → Wp w mdL_law (d + 13) 764 [none, none, none, none, none, none, none] [] t o M') → (∀ t : Gm, r = (.inr (.inr (.inr (.inr (.inr (.inr (.inr (.inr (.inr (.inr (.inr (.inr (.inr (.inr (.inr (.inr (.inr (.inr (.inl t))))))))))))))))))) → Wp w mdL_law (d + 13) 781 [none, none, none, none, none, none, none] [] t o M') → (∀ t : Gm, r = (.inr (.inr (.inr (.inr (.inr (.inr (.inr (.inr (.inr (.inr (.inr (.inr (.inr (.inr (.inr (.inr (.inr (.inr (.inr (.inl t)))))))))))))))))))) → Wp w mdL_law (d + 13) 844 [none, none, none, none, none, none, none] [] t o M') → (∀ t : Gm, r = (.inr (.inr (.inr (.inr (.inr (.inr (.inr (.inr (.inr (.inr (.inr (.inr (.inr (.inr (.inr (.inr (.inr (.inr (.inr (.inr (.inl t))))))))))))))))))))) → Wp w mdL_law (d + 13) 861 [none, none, none, none, none, none, none] [] t o M') → (∀ t : Gm, r = (.inr (.inr (.inr (.inr (.inr (.inr (.inr (.inr (.inr (.inr (.inr (.inr (.inr (.inr (.inr (.inr (.inr (.inr (.inr (.inr (.inr (.inl t)))))))))))))))))))))) → Wp w mdL_law (d + 13) 912 [none, none, none, none, none, none, none] [] t o M') → (∀ t : Gm, r = (.inr (.inr (.inr (.inr (.inr (.inr (.inr (.inr (.inr (.inr (.inr (.inr (.inr (.inr (.inr (.inr (.inr (.inr (.inr (.inr (.inr (.inr (.inl t))))))))))))))))))))))) → Wp w mdL_law (d + 13) 929 [none, none, none, none, none, none, none] [] t o M') → (∀ t : Gm, r = (.inr (.inr (.inr (.inr (.inr (.inr (.inr (.inr (.inr (.inr (.inr (.inr (.inr (.inr (.inr (.inr (.inr (.inr (.inr (.inr (.inr (.inr (.inr (.inl t)))))))))))))))))))))))) → Wp w mdL_law (d + 13) 957 [none, none, none, none, none, none, none] [] t o M') → (∀ t : Gm, r = (.inr (.inr (.inr (.inr (.inr (.inr (.inr (.inr (.inr (.inr (.inr (.inr (.inr (.inr (.inr (.inr (.inr (.inr (.inr (.inr (.inr (.inr (.inr (.inr (.inl t))))))))))))))))))))))))) → Wp w mdL_law (d + 13) 994 [none, none, none, none, none, none, none] [] t o M') → (∀ t : Gm, r = (.inr (.inr (.inr (.inr (.inr (.inr (.inr (.inr (.inr (.inr (.inr (.inr (.inr (.inr (.inr (.inr (.inr (.inr (.inr (.inr (.inr (.inr (.inr (.inr (.inr (.inl t)))))))))))))))))))))))))) → Wp w mdL_law (d + 13) 1031 [none, none, none, none, none, none, none] [] t o M') → (∀ t : Gm, r = (.inr (.inr (.inr (.inr (.inr (.inr (.inr (.inr (.inr (.inr (.inr (.inr (.inr (.inr (.inr (.inr (.inr (.inr (.inr (.inr (.inr (.inr (.inr (.inr (.inr (.inr (.inl t))))))))))))))))))))))))))) → Wp w mdL_law (d + 13) 1056 [none, none, none, none, none, none, none] [] t o M') → (∀ t : Gm, r = (.inr (.inr (.inr (.inr (.inr (.inr (.inr (.inr (.inr (.inr (.inr (.inr (.inr (.inr (.inr (.inr (.inr (.inr (.inr (.inr (.inr (.inr (.inr (.inr (.inr (.inr (.inr (.inl t)))))))))))))))))))))))))))) → Wp w mdL_law (d + 13) 1081 [none, none, none, none, none, none, none] [] t o M') → (∀ t : Gm, r = (.inr (.inr (.inr (.inr (.inr (.inr (.inr (.inr (.inr (.inr (.inr (.inr (.inr (.inr (.inr (.inr (.inr (.inr (.inr (.inr (.inr (.inr (.inr (.inr (.inr (.inr (.inr (.inr (.inl t))))))))))))))))))))))))))))) → Wp w mdL_law (d + 13) 1094 [none, none, none, none, none, none, none] [] t o M') → (∀ t : Gm, r = (.inr (.inr (.inr (.inr (.inr (.inr (.inr (.inr (.inr (.inr (.inr (.inr (.inr (.inr (.inr (.inr (.inr (.inr (.inr (.inr (.inr (.inr (.inr (.inr (.inr (.inr (.inr (.inr (.inr (.inl t)))))))))))))))))))))))))))))) → Wp w mdL_law (d + 13) 1143 [none, none, none, none, none, none, none] [] t o M') → (∀ t : Gm, r = (.inr (.inr (.inr (.inr (.inr (.inr (.inr (.inr (.inr (.inr (.inr (.inr (.inr (.inr (.inr (.inr (.inr (.inr (.inr (.inr (.inr (.inr (.inr (.inr (.inr (.inr (.inr (.inr (.inr (.inr (.inl t))))))))))))))))))))))))))))))) → Wp w mdL_law (d + 13) 1191 [none, none, none, none, none, none, none] [] t o M') → (∀ t : Gm, r = (.inr (.inr (.inr (.inr (.inr (.inr (.inr (.inr (.inr (.inr (.inr (.inr (.inr (.inr (.inr (.inr (.inr (.inr (.inr (.inr (.inr (.inr (.inr (.inr (.inr (.inr (.inr (.inr (.inr (.inr (.inr (.inl t)))))))))))))))))))))))))))))))) → Wp w mdL_law (d + 13) 1208 [none, none, none, none, none, none, none] [] t o M') → (∀ t : Gm, r = (.inr (.inr (.inr (.inr (.inr (.inr (.inr (.inr (.inr (.inr (.inr (.inr (.inr (.inr (.inr (.inr (.inr (.inr (.inr (.inr (.inr (.inr (.inr (.inr (.inr (.inr (.inr (.inr (.inr (.inr (.inr (.inr (.inl t))))))))))))))))))))))))))))))))) → Wp w mdL_law (d + 13) 1259 [none, none, none, none, none, none, none] [] t o M') → (∀ t : Gm, r = (.inr (.inr (.inr (.inr (.inr (.inr (.inr (.inr (.inr (.inr (.inr (.inr (.inr (.inr (.inr (.inr (.inr (.inr (.inr (.inr (.inr (.inr (.inr (.inr (.inr (.inr (.inr (.inr (.inr (.inr (.inr (.inr (.inr (.inl t)))))))))))))))))))))))))))))))))) → Wp w mdL_law (d + 13) 1276 [none, none, none, none, none, none, none] [] t o M') → (∀ t : Gm, r = (.inr (.inr (.inr (.inr (.inr (.inr (.inr (.inr (.inr (.inr (.inr (.inr (.inr (.inr (.inr (.inr (.inr (.inr (.inr (.inr (.inr (.inr (.inr (.inr (.inr (.inr (.inr (.inr (.inr (.inr (.inr (.inr (.inr (.inr (.inl t))))))))))))))))))))))))))))))))))) → Wp w mdL_law (d + 13) 1350 [none, none, none, none, none, none, none] [] t o M') → (∀ t : Gm, r = (.inr (.inr (.inr (.inr (.inr (.inr (.inr (.inr (.inr (.inr (.inr (.inr (.inr (.inr (.inr (.inr (.inr (.inr (.inr (.inr (.inr (.inr (.inr (.inr (.inr (.inr (.inr (.inr (.inr (.inr (.inr (.inr (.inr (.inr (.inr (.inl t)))))))))))))))))))))))))))))))))))) → Wp w mdL_law (d + 13) 1367 [none, none, none, none, none, none, none] [] t o M') → (∀ t : Gm, r = (.inr (.inr (.inr (.inr (.inr (.inr (.inr (.inr (.inr (.inr (.inr (.inr (.inr (.inr (.inr (.inr (.inr (.inr (.inr (.inr (.inr (.inr (.inr (.inr (.inr (.inr (.inr (.inr (.inr (.inr (.inr (.inr (.inr (.inr (.inr (.inr t)))))))))))))))))))))))))))))))))))) → Wp w mdL_law (d + 13) 1394 [none, none, none, none, none, none, none] [] t o M') → Wp w mdL_law (d + 13) 23 [some (.inr 1), some (.inr x1), some (.inr x2), some (.inr x3), some (.inl q.1), none, none] [] q.2 o M' := by
  intro n
  induction n with
  | zero => intro q h; cases h
  | succ n ih =>
    intro q h he0 he1 he2 he3 he4 he5 he6 he7 he8 he9 he10 he11 he12 he13 he14 he15 he16 he17 he18 he19 he20 he21 he22 he23 he24 he25 he26 he27 he28 he29 he30 he31 he32 he33 he34 he35 he36
    cases hb : L_law_B23 L xs x1 x2 x3 q with
    | none => rw [lp_succ, hb] at h; cases h
    | some out =>
      rw [lp_succ, hb] at h
      exact L_law_B23_ok hX hb (fun t e => ih t (by rw [e] at h; exact h) he0 he1 he2 he3 he4 he5 he6 he7 he8 he9 he10 he11 he12 he13 he14 he15 he16 he17 he18 he19 he20 he21 he22 he23 he24 he25 he26 he27 he28 he29 he30 he31 he32 he33 he34 he35 he36) (fun t e => he0 t (by rw [e] at h; cases h; rfl)) (fun t e => he1 t (by rw [e] at h; cases h; rfl)) (fun t e => he2 t (by rw [e] at h; cases h; rfl)) (fun t e => he3 t (by rw [e] at h; cases h; rfl)) (fun t e => he4 t (by rw [e] at h; cases h; rfl)) (fun t e => he5 t (by rw [e] at h; cases h; rfl)) (fun t e => he6 t (by rw [e] at h; cases h; rfl)) (fun t e => he7 t (by rw [e] at h; cases h; rfl)) (fun t e => he8 t (by rw [e] at h; cases h; rfl)) (fun t e => he9 t (by rw [e] at h; cases h; rfl)) (fun t e => he10 t (by rw [e] at h; cases h; rfl)) (fun t e => he11 t (by rw [e] at h; cases h; rfl)) (fun t e => he12 t (by rw [e] at h; cases h; rfl)) (fun t e => he13 t (by rw [e] at h; cases h; rfl)) (fun t e => he14 t (by rw [e] at h; cases h; rfl)) (fun t e => he15 t (by rw [e] at h; cases h; rfl)) (fun t e => he16 t (by rw [e] at h; cases h; rfl)) (fun t e => he17 t (by rw [e] at h; cases h; rfl)) (fun t e => he18 t (by rw [e] at h; cases h; rfl)) (fun t e => he19 t (by rw [e] at h; cases h; rfl)) (fun t e => he20 t (by rw [e] at h; cases h; rfl)) (fun t e => he21 t (by rw [e] at h; cases h; rfl)) (fun t e => he22 t (by rw [e] at h; cases h; rfl)) (fun t e => he23 t (by rw [e] at h; cases h; rfl)) (fun t e => he24 t (by rw [e] at h; cases h; rfl)) (fun t e => he25 t (by rw [e] at h; cases h; rfl)) (fun t e => he26 t (by rw [e] at h; cases h; rfl)) (fun t e => he27 t (by rw [e] at h; cases h; rfl)) (fun t e => he28 t (by rw [e] at h; cases h; rfl)) (fun t e => he29 t (by rw [e] at h; cases h; rfl)) (fun t e => he30 t (by rw [e] at h; cases h; rfl)) (fun t e => he31 t (by rw [e] at h; cases h; rfl)) (fun t e => he32 t (by rw [e] at h; cases h; rfl)) (fun t e => he33 t (by rw [e] at h; cases h; rfl)) (fun t e => he34 t (by rw [e] at h; cases h; rfl)) (fun t e => he35 t (by rw [e] at h; cases h; rfl)) (fun t e => he36 t (by rw [e] at h; cases h; rfl))
theorem L_law_F_ok {w : Gw} {d : Nat} {L : Nat} {xs : Nat → Int32} {M : Gm} (hX : va_X (rho w 1) L xs w.1 w.1.heap) {out : Int32 × Gm} (h : L_law_F L xs M = some out) : Wp w mdL_law (d + 13) 0 [some (.inr 1), none, none, none, none, none, none] [] M (.inl (some (.inl out.1))) out.2 := by
  unfold L_law_F at h
  obtain ⟨M1, e_, h⟩ := bnd h
  refine wp_new (c := 11) dL_law_0 (by decide) cl_RL_8 obi_11 obn_11 ?_
  rw [Option.some.inj e_]
  refine wp_dup dL_law_3 ?_
  obtain ⟨q2, e3, h⟩ := bnd h
  refine wp_callI (As := []) dL_law_4 (sh_X11_init_ok (d := d + 9) e3) okX11_init nnX11_init rfl rfl ⟨_, rfl⟩ iiX11_init ml_RL_55 rfl (Nat.le_of_ble_eq_true rfl) ?_
  refine wp_astore_n dL_law_7 (Nat.le_of_ble_eq_true rfl) ?_
  obtain ⟨M4, e_, h⟩ := bnd h
  refine wp_new (c := 12) dL_law_8 (by decide) cl_RL_56 obi_12 obn_12 ?_
  rw [Option.some.inj e_]
  refine wp_dup dL_law_11 ?_
  obtain ⟨q5, e6, h⟩ := bnd h
  refine wp_callI (As := []) dL_law_12 (sh_X12_init_ok (d := d + 11) e6) okX12_init nnX12_init rfl rfl ⟨_, rfl⟩ iiX12_init ml_RL_58 rfl (Nat.le_of_ble_eq_true rfl) ?_
  refine wp_astore_n dL_law_15 (Nat.le_of_ble_eq_true rfl) ?_
  refine wp_iconst (v := 1) dL_law_16 (by decide) ?_
  obtain ⟨M7, e8, h⟩ := bnd h
  refine wp_newL dL_law_17 e8 ac_long ?_
  refine wp_astore_n dL_law_19 (Nat.le_of_ble_eq_true rfl) ?_
  refine wp_iconst (v := 0) dL_law_20 (by decide) ?_
  refine wp_istore dL_law_21 (Nat.le_of_ble_eq_true rfl) ?_
  obtain ⟨r9, e10, h⟩ := bnd h
  refine wp_ls (lsS (lsS (lsS (lsS (lsS (lsN (lsN lsZ))))))) (L_law_B23_lp hX FU _ e10 ?_ ?_ ?_ ?_ ?_ ?_ ?_ ?_ ?_ ?_ ?_ ?_ ?_ ?_ ?_ ?_ ?_ ?_ ?_ ?_ ?_ ?_ ?_ ?_ ?_ ?_ ?_ ?_ ?_ ?_ ?_ ?_ ?_ ?_ ?_ ?_ ?_)
  · intro y11 ht_; subst ht_
    replace h := elim_l h
    refine wp_iconst (v := 1) dL_law_1402 (by decide) ?_
    obtain ⟨z12, e13, h⟩ := bnd h
    obtain ⟨hz_, rfl⟩ := zck_of e13
    cases h
    exact wp_zret dL_law_1403 rfl hz_
  · intro y14 ht_; subst ht_
    replace h := elim_r h
    replace h := elim_l h
    refine wp_iconst (v := 0) dL_law_227 (by decide) ?_
    obtain ⟨z15, e16, h⟩ := bnd h
    obtain ⟨hz_, rfl⟩ := zck_of e16
    cases h
    exact wp_zret dL_law_228 rfl hz_
  · intro y17 ht_; subst ht_
    replace h := elim_r h
    replace h := elim_r h
    replace h := elim_l h
    refine wp_iconst (v := 0) dL_law_263 (by decide) ?_
    obtain ⟨z18, e19, h⟩ := bnd h
    obtain ⟨hz_, rfl⟩ := zck_of e19
    cases h
    exact wp_zret dL_law_264 rfl hz_
  · intro y20 ht_; subst ht_
    replace h := elim_r h
    replace h := elim_r h
    replace h := elim_r h
    replace h := elim_l h
    refine wp_iconst (v := 0) dL_law_280 (by decide) ?_
    obtain ⟨z21, e22, h⟩ := bnd h
    obtain ⟨hz_, rfl⟩ := zck_of e22
    cases h
    exact wp_zret dL_law_281 rfl hz_
  · intro y23 ht_; subst ht_
    replace h := elim_r h
    replace h := elim_r h
    replace h := elim_r h
    replace h := elim_r h
    replace h := elim_l h
    refine wp_iconst (v := 0) dL_law_296 (by decide) ?_
    obtain ⟨z24, e25, h⟩ := bnd h
    obtain ⟨hz_, rfl⟩ := zck_of e25
    cases h
    exact wp_zret dL_law_297 rfl hz_
  · intro y26 ht_; subst ht_
    replace h := elim_r h
    replace h := elim_r h
    replace h := elim_r h
    replace h := elim_r h
    replace h := elim_r h
    replace h := elim_l h
    refine wp_iconst (v := 0) dL_law_332 (by decide) ?_
    obtain ⟨z27, e28, h⟩ := bnd h
    obtain ⟨hz_, rfl⟩ := zck_of e28
    cases h
    exact wp_zret dL_law_333 rfl hz_
  · intro y29 ht_; subst ht_
    replace h := elim_r h
    replace h := elim_r h
    replace h := elim_r h
    replace h := elim_r h
    replace h := elim_r h
    replace h := elim_r h
    replace h := elim_l h
    refine wp_iconst (v := 0) dL_law_349 (by decide) ?_
    obtain ⟨z30, e31, h⟩ := bnd h
    obtain ⟨hz_, rfl⟩ := zck_of e31
    cases h
    exact wp_zret dL_law_350 rfl hz_
  · intro y32 ht_; subst ht_
    replace h := elim_r h
    replace h := elim_r h
    replace h := elim_r h
    replace h := elim_r h
    replace h := elim_r h
    replace h := elim_r h
    replace h := elim_r h
    replace h := elim_l h
    refine wp_iconst (v := 0) dL_law_400 (by decide) ?_
    obtain ⟨z33, e34, h⟩ := bnd h
    obtain ⟨hz_, rfl⟩ := zck_of e34
    cases h
    exact wp_zret dL_law_401 rfl hz_
  · intro y35 ht_; subst ht_
    replace h := elim_r h
    replace h := elim_r h
    replace h := elim_r h
    replace h := elim_r h
    replace h := elim_r h
    replace h := elim_r h
    replace h := elim_r h
    replace h := elim_r h
    replace h := elim_l h
    refine wp_iconst (v := 0) dL_law_417 (by decide) ?_
    obtain ⟨z36, e37, h⟩ := bnd h
    obtain ⟨hz_, rfl⟩ := zck_of e37
    cases h
    exact wp_zret dL_law_418 rfl hz_
  · intro y38 ht_; subst ht_
    replace h := elim_r h
    replace h := elim_r h
    replace h := elim_r h
    replace h := elim_r h
    replace h := elim_r h
    replace h := elim_r h
    replace h := elim_r h
    replace h := elim_r h
    replace h := elim_r h
    replace h := elim_l h
    refine wp_iconst (v := 0) dL_law_468 (by decide) ?_
    obtain ⟨z39, e40, h⟩ := bnd h
    obtain ⟨hz_, rfl⟩ := zck_of e40
    cases h
    exact wp_zret dL_law_469 rfl hz_
  · intro y41 ht_; subst ht_
    replace h := elim_r h
    replace h := elim_r h
    replace h := elim_r h
    replace h := elim_r h
    replace h := elim_r h
    replace h := elim_r h
    replace h := elim_r h
    replace h := elim_r h
    replace h := elim_r h
    replace h := elim_r h
    replace h := elim_l h
    refine wp_iconst (v := 0) dL_law_485 (by decide) ?_
    obtain ⟨z42, e43, h⟩ := bnd h
    obtain ⟨hz_, rfl⟩ := zck_of e43
    cases h
    exact wp_zret dL_law_486 rfl hz_
  · intro y44 ht_; subst ht_
    replace h := elim_r h
    replace h := elim_r h
    replace h := elim_r h
    replace h := elim_r h
    replace h := elim_r h
    replace h := elim_r h
    replace h := elim_r h
    replace h := elim_r h
    replace h := elim_r h
    replace h := elim_r h
    replace h := elim_r h
    replace h := elim_l h
    refine wp_iconst (v := 0) dL_law_536 (by decide) ?_
    obtain ⟨z45, e46, h⟩ := bnd h
    obtain ⟨hz_, rfl⟩ := zck_of e46
    cases h
    exact wp_zret dL_law_537 rfl hz_
  · intro y47 ht_; subst ht_
    replace h := elim_r h
    replace h := elim_r h
    replace h := elim_r h
    replace h := elim_r h
    replace h := elim_r h
    replace h := elim_r h
    replace h := elim_r h
    replace h := elim_r h
    replace h := elim_r h
    replace h := elim_r h
    replace h := elim_r h
    replace h := elim_r h
    replace h := elim_l h
    refine wp_iconst (v := 0) dL_law_553 (by decide) ?_
    obtain ⟨z48, e49, h⟩ := bnd h
    obtain ⟨hz_, rfl⟩ := zck_of e49
    cases h
    exact wp_zret dL_law_554 rfl hz_
  · intro y50 ht_; subst ht_
    replace h := elim_r h
    replace h := elim_r h
    replace h := elim_r h
    replace h := elim_r h
    replace h := elim_r h
    replace h := elim_r h
    replace h := elim_r h
    replace h := elim_r h
    replace h := elim_r h
    replace h := elim_r h
    replace h := elim_r h
    replace h := elim_r h
    replace h := elim_r h
    replace h := elim_l h
    refine wp_iconst (v := 0) dL_law_616 (by decide) ?_
    obtain ⟨z51, e52, h⟩ := bnd h
    obtain ⟨hz_, rfl⟩ := zck_of e52
    cases h
    exact wp_zret dL_law_617 rfl hz_
  · intro y53 ht_; subst ht_
    replace h := elim_r h
    replace h := elim_r h
    replace h := elim_r h
    replace h := elim_r h
    replace h := elim_r h
    replace h := elim_r h
    replace h := elim_r h
    replace h := elim_r h
    replace h := elim_r h
    replace h := elim_r h
    replace h := elim_r h
    replace h := elim_r h
    replace h := elim_r h
    replace h := elim_r h
    replace h := elim_l h
    refine wp_iconst (v := 0) dL_law_633 (by decide) ?_
    obtain ⟨z54, e55, h⟩ := bnd h
    obtain ⟨hz_, rfl⟩ := zck_of e55
    cases h
    exact wp_zret dL_law_634 rfl hz_
  · intro y56 ht_; subst ht_
    replace h := elim_r h
    replace h := elim_r h
    replace h := elim_r h
    replace h := elim_r h
    replace h := elim_r h
    replace h := elim_r h
    replace h := elim_r h
    replace h := elim_r h
    replace h := elim_r h
    replace h := elim_r h
    replace h := elim_r h
    replace h := elim_r h
    replace h := elim_r h
    replace h := elim_r h
    replace h := elim_r h
    replace h := elim_l h
    refine wp_iconst (v := 0) dL_law_684 (by decide) ?_
    obtain ⟨z57, e58, h⟩ := bnd h
    obtain ⟨hz_, rfl⟩ := zck_of e58
    cases h
    exact wp_zret dL_law_685 rfl hz_
  · intro y59 ht_; subst ht_
    replace h := elim_r h
    replace h := elim_r h
    replace h := elim_r h
    replace h := elim_r h
    replace h := elim_r h
    replace h := elim_r h
    replace h := elim_r h
    replace h := elim_r h
    replace h := elim_r h
    replace h := elim_r h
    replace h := elim_r h
    replace h := elim_r h
    replace h := elim_r h
    replace h := elim_r h
    replace h := elim_r h
    replace h := elim_r h
    replace h := elim_l h
    refine wp_iconst (v := 0) dL_law_701 (by decide) ?_
    obtain ⟨z60, e61, h⟩ := bnd h
    obtain ⟨hz_, rfl⟩ := zck_of e61
    cases h
    exact wp_zret dL_law_702 rfl hz_
  · intro y62 ht_; subst ht_
    replace h := elim_r h
    replace h := elim_r h
    replace h := elim_r h
    replace h := elim_r h
    replace h := elim_r h
    replace h := elim_r h
    replace h := elim_r h
    replace h := elim_r h
    replace h := elim_r h
    replace h := elim_r h
    replace h := elim_r h
    replace h := elim_r h
    replace h := elim_r h
    replace h := elim_r h
    replace h := elim_r h
    replace h := elim_r h
    replace h := elim_r h
    replace h := elim_l h
    refine wp_iconst (v := 0) dL_law_764 (by decide) ?_
    obtain ⟨z63, e64, h⟩ := bnd h
    obtain ⟨hz_, rfl⟩ := zck_of e64
    cases h
    exact wp_zret dL_law_765 rfl hz_
  · intro y65 ht_; subst ht_
    replace h := elim_r h
    replace h := elim_r h
    replace h := elim_r h
    replace h := elim_r h
    replace h := elim_r h
    replace h := elim_r h
    replace h := elim_r h
    replace h := elim_r h
    replace h := elim_r h
    replace h := elim_r h
    replace h := elim_r h
    replace h := elim_r h
    replace h := elim_r h
    replace h := elim_r h
    replace h := elim_r h
    replace h := elim_r h
    replace h := elim_r h
    replace h := elim_r h
    replace h := elim_l h
    refine wp_iconst (v := 0) dL_law_781 (by decide) ?_
    obtain ⟨z66, e67, h⟩ := bnd h
    obtain ⟨hz_, rfl⟩ := zck_of e67
    cases h
    exact wp_zret dL_law_782 rfl hz_
  · intro y68 ht_; subst ht_
    replace h := elim_r h
    replace h := elim_r h
    replace h := elim_r h
    replace h := elim_r h
    replace h := elim_r h
    replace h := elim_r h
    replace h := elim_r h
    replace h := elim_r h
    replace h := elim_r h
    replace h := elim_r h
    replace h := elim_r h
    replace h := elim_r h
    replace h := elim_r h
    replace h := elim_r h
    replace h := elim_r h
    replace h := elim_r h
    replace h := elim_r h
    replace h := elim_r h
    replace h := elim_r h
    replace h := elim_l h
    refine wp_iconst (v := 0) dL_law_844 (by decide) ?_
    obtain ⟨z69, e70, h⟩ := bnd h
    obtain ⟨hz_, rfl⟩ := zck_of e70
    cases h
    exact wp_zret dL_law_845 rfl hz_
  · intro y71 ht_; subst ht_
    replace h := elim_r h
    replace h := elim_r h
    replace h := elim_r h
    replace h := elim_r h
    replace h := elim_r h
    replace h := elim_r h
    replace h := elim_r h
    replace h := elim_r h
    replace h := elim_r h
    replace h := elim_r h
    replace h := elim_r h
    replace h := elim_r h
    replace h := elim_r h
    replace h := elim_r h
    replace h := elim_r h
    replace h := elim_r h
    replace h := elim_r h
    replace h := elim_r h
    replace h := elim_r h
    replace h := elim_r h
    replace h := elim_l h
    refine wp_iconst (v := 0) dL_law_861 (by decide) ?_
    obtain ⟨z72, e73, h⟩ := bnd h
    obtain ⟨hz_, rfl⟩ := zck_of e73
    cases h
    exact wp_zret dL_law_862 rfl hz_
  · intro y74 ht_; subst ht_
    replace h := elim_r h
    replace h := elim_r h
    replace h := elim_r h
    replace h := elim_r h
    replace h := elim_r h
    replace h := elim_r h
    replace h := elim_r h
    replace h := elim_r h
    replace h := elim_r h
    replace h := elim_r h
    replace h := elim_r h
    replace h := elim_r h
    replace h := elim_r h
    replace h := elim_r h
    replace h := elim_r h
    replace h := elim_r h
    replace h := elim_r h
    replace h := elim_r h
    replace h := elim_r h
    replace h := elim_r h
    replace h := elim_r h
    replace h := elim_l h
    refine wp_iconst (v := 0) dL_law_912 (by decide) ?_
    obtain ⟨z75, e76, h⟩ := bnd h
    obtain ⟨hz_, rfl⟩ := zck_of e76
    cases h
    exact wp_zret dL_law_913 rfl hz_
  · intro y77 ht_; subst ht_
    replace h := elim_r h
    replace h := elim_r h
    replace h := elim_r h
    replace h := elim_r h
    replace h := elim_r h
    replace h := elim_r h
    replace h := elim_r h
    replace h := elim_r h
    replace h := elim_r h
    replace h := elim_r h
    replace h := elim_r h
    replace h := elim_r h
    replace h := elim_r h
    replace h := elim_r h
    replace h := elim_r h
    replace h := elim_r h
    replace h := elim_r h
    replace h := elim_r h
    replace h := elim_r h
    replace h := elim_r h
    replace h := elim_r h
    replace h := elim_r h
    replace h := elim_l h
    refine wp_iconst (v := 0) dL_law_929 (by decide) ?_
    obtain ⟨z78, e79, h⟩ := bnd h
    obtain ⟨hz_, rfl⟩ := zck_of e79
    cases h
    exact wp_zret dL_law_930 rfl hz_
  · intro y80 ht_; subst ht_
    replace h := elim_r h
    replace h := elim_r h
    replace h := elim_r h
    replace h := elim_r h
    replace h := elim_r h
    replace h := elim_r h
    replace h := elim_r h
    replace h := elim_r h
    replace h := elim_r h
    replace h := elim_r h
    replace h := elim_r h
    replace h := elim_r h
    replace h := elim_r h
    replace h := elim_r h
    replace h := elim_r h
    replace h := elim_r h
    replace h := elim_r h
    replace h := elim_r h
    replace h := elim_r h
    replace h := elim_r h
    replace h := elim_r h
    replace h := elim_r h
    replace h := elim_r h
    replace h := elim_l h
    refine wp_iconst (v := 0) dL_law_957 (by decide) ?_
    obtain ⟨z81, e82, h⟩ := bnd h
    obtain ⟨hz_, rfl⟩ := zck_of e82
    cases h
    exact wp_zret dL_law_958 rfl hz_
  · intro y83 ht_; subst ht_
    replace h := elim_r h
    replace h := elim_r h
    replace h := elim_r h
    replace h := elim_r h
    replace h := elim_r h
    replace h := elim_r h
    replace h := elim_r h
    replace h := elim_r h
    replace h := elim_r h
    replace h := elim_r h
    replace h := elim_r h
    replace h := elim_r h
    replace h := elim_r h
    replace h := elim_r h
    replace h := elim_r h
    replace h := elim_r h
    replace h := elim_r h
    replace h := elim_r h
    replace h := elim_r h
    replace h := elim_r h
    replace h := elim_r h
    replace h := elim_r h
    replace h := elim_r h
    replace h := elim_r h
    replace h := elim_l h
    refine wp_iconst (v := 0) dL_law_994 (by decide) ?_
    obtain ⟨z84, e85, h⟩ := bnd h
    obtain ⟨hz_, rfl⟩ := zck_of e85
    cases h
    exact wp_zret dL_law_995 rfl hz_
  · intro y86 ht_; subst ht_
    replace h := elim_r h
    replace h := elim_r h
    replace h := elim_r h
    replace h := elim_r h
    replace h := elim_r h
    replace h := elim_r h
    replace h := elim_r h
    replace h := elim_r h
    replace h := elim_r h
    replace h := elim_r h
    replace h := elim_r h
    replace h := elim_r h
    replace h := elim_r h
    replace h := elim_r h
    replace h := elim_r h
    replace h := elim_r h
    replace h := elim_r h
    replace h := elim_r h
    replace h := elim_r h
    replace h := elim_r h
    replace h := elim_r h
    replace h := elim_r h
    replace h := elim_r h
    replace h := elim_r h
    replace h := elim_r h
    replace h := elim_l h
    refine wp_iconst (v := 0) dL_law_1031 (by decide) ?_
    obtain ⟨z87, e88, h⟩ := bnd h
    obtain ⟨hz_, rfl⟩ := zck_of e88
    cases h
    exact wp_zret dL_law_1032 rfl hz_
  · intro y89 ht_; subst ht_
    replace h := elim_r h
    replace h := elim_r h
    replace h := elim_r h
    replace h := elim_r h
    replace h := elim_r h
    replace h := elim_r h
    replace h := elim_r h
    replace h := elim_r h
    replace h := elim_r h
    replace h := elim_r h
    replace h := elim_r h
    replace h := elim_r h
    replace h := elim_r h
    replace h := elim_r h
    replace h := elim_r h
    replace h := elim_r h
    replace h := elim_r h
    replace h := elim_r h
    replace h := elim_r h
    replace h := elim_r h
    replace h := elim_r h
    replace h := elim_r h
    replace h := elim_r h
    replace h := elim_r h
    replace h := elim_r h
    replace h := elim_r h
    replace h := elim_l h
    refine wp_iconst (v := 0) dL_law_1056 (by decide) ?_
    obtain ⟨z90, e91, h⟩ := bnd h
    obtain ⟨hz_, rfl⟩ := zck_of e91
    cases h
    exact wp_zret dL_law_1057 rfl hz_
  · intro y92 ht_; subst ht_
    replace h := elim_r h
    replace h := elim_r h
    replace h := elim_r h
    replace h := elim_r h
    replace h := elim_r h
    replace h := elim_r h
    replace h := elim_r h
    replace h := elim_r h
    replace h := elim_r h
    replace h := elim_r h
    replace h := elim_r h
    replace h := elim_r h
    replace h := elim_r h
    replace h := elim_r h
    replace h := elim_r h
    replace h := elim_r h
    replace h := elim_r h
    replace h := elim_r h
    replace h := elim_r h
    replace h := elim_r h
    replace h := elim_r h
    replace h := elim_r h
    replace h := elim_r h
    replace h := elim_r h
    replace h := elim_r h
    replace h := elim_r h
    replace h := elim_r h
    replace h := elim_l h
    refine wp_iconst (v := 0) dL_law_1081 (by decide) ?_
    obtain ⟨z93, e94, h⟩ := bnd h
    obtain ⟨hz_, rfl⟩ := zck_of e94
    cases h
    exact wp_zret dL_law_1082 rfl hz_
  · intro y95 ht_; subst ht_
    replace h := elim_r h
    replace h := elim_r h
    replace h := elim_r h
    replace h := elim_r h
    replace h := elim_r h
    replace h := elim_r h
    replace h := elim_r h
    replace h := elim_r h
    replace h := elim_r h
    replace h := elim_r h
    replace h := elim_r h
    replace h := elim_r h
    replace h := elim_r h
    replace h := elim_r h
    replace h := elim_r h
    replace h := elim_r h
    replace h := elim_r h
    replace h := elim_r h
    replace h := elim_r h
    replace h := elim_r h
    replace h := elim_r h
    replace h := elim_r h
    replace h := elim_r h
    replace h := elim_r h
    replace h := elim_r h
    replace h := elim_r h
    replace h := elim_r h
    replace h := elim_r h
    replace h := elim_l h
    refine wp_iconst (v := 0) dL_law_1094 (by decide) ?_
    obtain ⟨z96, e97, h⟩ := bnd h
    obtain ⟨hz_, rfl⟩ := zck_of e97
    cases h
    exact wp_zret dL_law_1095 rfl hz_
  · intro y98 ht_; subst ht_
    replace h := elim_r h
    replace h := elim_r h
    replace h := elim_r h
    replace h := elim_r h
    replace h := elim_r h
    replace h := elim_r h
    replace h := elim_r h
    replace h := elim_r h
    replace h := elim_r h
    replace h := elim_r h
    replace h := elim_r h
    replace h := elim_r h
    replace h := elim_r h
    replace h := elim_r h
    replace h := elim_r h
    replace h := elim_r h
    replace h := elim_r h
    replace h := elim_r h
    replace h := elim_r h
    replace h := elim_r h
    replace h := elim_r h
    replace h := elim_r h
    replace h := elim_r h
    replace h := elim_r h
    replace h := elim_r h
    replace h := elim_r h
    replace h := elim_r h
    replace h := elim_r h
    replace h := elim_r h
    replace h := elim_l h
    refine wp_iconst (v := 0) dL_law_1143 (by decide) ?_
    obtain ⟨z99, e100, h⟩ := bnd h
    obtain ⟨hz_, rfl⟩ := zck_of e100
    cases h
    exact wp_zret dL_law_1144 rfl hz_
  · intro y101 ht_; subst ht_
    replace h := elim_r h
    replace h := elim_r h
    replace h := elim_r h
    replace h := elim_r h
    replace h := elim_r h
    replace h := elim_r h
    replace h := elim_r h
    replace h := elim_r h
    replace h := elim_r h
    replace h := elim_r h
    replace h := elim_r h
    replace h := elim_r h
    replace h := elim_r h
    replace h := elim_r h
    replace h := elim_r h
    replace h := elim_r h
    replace h := elim_r h
    replace h := elim_r h
    replace h := elim_r h
    replace h := elim_r h
    replace h := elim_r h
    replace h := elim_r h
    replace h := elim_r h
    replace h := elim_r h
    replace h := elim_r h
    replace h := elim_r h
    replace h := elim_r h
    replace h := elim_r h
    replace h := elim_r h
    replace h := elim_r h
    replace h := elim_l h
    refine wp_iconst (v := 0) dL_law_1191 (by decide) ?_
    obtain ⟨z102, e103, h⟩ := bnd h
    obtain ⟨hz_, rfl⟩ := zck_of e103
    cases h
    exact wp_zret dL_law_1192 rfl hz_
  · intro y104 ht_; subst ht_
    replace h := elim_r h
    replace h := elim_r h
    replace h := elim_r h
    replace h := elim_r h
    replace h := elim_r h
    replace h := elim_r h
    replace h := elim_r h
    replace h := elim_r h
    replace h := elim_r h
    replace h := elim_r h
    replace h := elim_r h
    replace h := elim_r h
    replace h := elim_r h
    replace h := elim_r h
    replace h := elim_r h
    replace h := elim_r h
    replace h := elim_r h
    replace h := elim_r h
    replace h := elim_r h
    replace h := elim_r h
    replace h := elim_r h
    replace h := elim_r h
    replace h := elim_r h
    replace h := elim_r h
    replace h := elim_r h
    replace h := elim_r h
    replace h := elim_r h
    replace h := elim_r h
    replace h := elim_r h
    replace h := elim_r h
    replace h := elim_r h
    replace h := elim_l h
    refine wp_iconst (v := 0) dL_law_1208 (by decide) ?_
    obtain ⟨z105, e106, h⟩ := bnd h
    obtain ⟨hz_, rfl⟩ := zck_of e106
    cases h
    exact wp_zret dL_law_1209 rfl hz_
  · intro y107 ht_; subst ht_
    replace h := elim_r h
    replace h := elim_r h
    replace h := elim_r h
    replace h := elim_r h
    replace h := elim_r h
    replace h := elim_r h
    replace h := elim_r h
    replace h := elim_r h
    replace h := elim_r h
    replace h := elim_r h
    replace h := elim_r h
    replace h := elim_r h
    replace h := elim_r h
    replace h := elim_r h
    replace h := elim_r h
    replace h := elim_r h
    replace h := elim_r h
    replace h := elim_r h
    replace h := elim_r h
    replace h := elim_r h
    replace h := elim_r h
    replace h := elim_r h
    replace h := elim_r h
    replace h := elim_r h
    replace h := elim_r h
    replace h := elim_r h
    replace h := elim_r h
    replace h := elim_r h
    replace h := elim_r h
    replace h := elim_r h
    replace h := elim_r h
    replace h := elim_r h
    replace h := elim_l h
    refine wp_iconst (v := 0) dL_law_1259 (by decide) ?_
    obtain ⟨z108, e109, h⟩ := bnd h
    obtain ⟨hz_, rfl⟩ := zck_of e109
    cases h
    exact wp_zret dL_law_1260 rfl hz_
  · intro y110 ht_; subst ht_
    replace h := elim_r h
    replace h := elim_r h
    replace h := elim_r h
    replace h := elim_r h
    replace h := elim_r h
    replace h := elim_r h
    replace h := elim_r h
    replace h := elim_r h
    replace h := elim_r h
    replace h := elim_r h
    replace h := elim_r h
    replace h := elim_r h
    replace h := elim_r h
    replace h := elim_r h
    replace h := elim_r h
    replace h := elim_r h
    replace h := elim_r h
    replace h := elim_r h
    replace h := elim_r h
    replace h := elim_r h
    replace h := elim_r h
    replace h := elim_r h
    replace h := elim_r h
    replace h := elim_r h
    replace h := elim_r h
    replace h := elim_r h
    replace h := elim_r h
    replace h := elim_r h
    replace h := elim_r h
    replace h := elim_r h
    replace h := elim_r h
    replace h := elim_r h
    replace h := elim_r h
    replace h := elim_l h
    refine wp_iconst (v := 0) dL_law_1276 (by decide) ?_
    obtain ⟨z111, e112, h⟩ := bnd h
    obtain ⟨hz_, rfl⟩ := zck_of e112
    cases h
    exact wp_zret dL_law_1277 rfl hz_
  · intro y113 ht_; subst ht_
    replace h := elim_r h
    replace h := elim_r h
    replace h := elim_r h
    replace h := elim_r h
    replace h := elim_r h
    replace h := elim_r h
    replace h := elim_r h
    replace h := elim_r h
    replace h := elim_r h
    replace h := elim_r h
    replace h := elim_r h
    replace h := elim_r h
    replace h := elim_r h
    replace h := elim_r h
    replace h := elim_r h
    replace h := elim_r h
    replace h := elim_r h
    replace h := elim_r h
    replace h := elim_r h
    replace h := elim_r h
    replace h := elim_r h
    replace h := elim_r h
    replace h := elim_r h
    replace h := elim_r h
    replace h := elim_r h
    replace h := elim_r h
    replace h := elim_r h
    replace h := elim_r h
    replace h := elim_r h
    replace h := elim_r h
    replace h := elim_r h
    replace h := elim_r h
    replace h := elim_r h
    replace h := elim_r h
    replace h := elim_l h
    refine wp_iconst (v := 0) dL_law_1350 (by decide) ?_
    obtain ⟨z114, e115, h⟩ := bnd h
    obtain ⟨hz_, rfl⟩ := zck_of e115
    cases h
    exact wp_zret dL_law_1351 rfl hz_
  · intro y116 ht_; subst ht_
    replace h := elim_r h
    replace h := elim_r h
    replace h := elim_r h
    replace h := elim_r h
    replace h := elim_r h
    replace h := elim_r h
    replace h := elim_r h
    replace h := elim_r h
    replace h := elim_r h
    replace h := elim_r h
    replace h := elim_r h
    replace h := elim_r h
    replace h := elim_r h
    replace h := elim_r h
    replace h := elim_r h
    replace h := elim_r h
    replace h := elim_r h
    replace h := elim_r h
    replace h := elim_r h
    replace h := elim_r h
    replace h := elim_r h
    replace h := elim_r h
    replace h := elim_r h
    replace h := elim_r h
    replace h := elim_r h
    replace h := elim_r h
    replace h := elim_r h
    replace h := elim_r h
    replace h := elim_r h
    replace h := elim_r h
    replace h := elim_r h
    replace h := elim_r h
    replace h := elim_r h
    replace h := elim_r h
    replace h := elim_r h
    replace h := elim_l h
    refine wp_iconst (v := 0) dL_law_1367 (by decide) ?_
    obtain ⟨z117, e118, h⟩ := bnd h
    obtain ⟨hz_, rfl⟩ := zck_of e118
    cases h
    exact wp_zret dL_law_1368 rfl hz_
  · intro y119 ht_; subst ht_
    replace h := elim_r h
    replace h := elim_r h
    replace h := elim_r h
    replace h := elim_r h
    replace h := elim_r h
    replace h := elim_r h
    replace h := elim_r h
    replace h := elim_r h
    replace h := elim_r h
    replace h := elim_r h
    replace h := elim_r h
    replace h := elim_r h
    replace h := elim_r h
    replace h := elim_r h
    replace h := elim_r h
    replace h := elim_r h
    replace h := elim_r h
    replace h := elim_r h
    replace h := elim_r h
    replace h := elim_r h
    replace h := elim_r h
    replace h := elim_r h
    replace h := elim_r h
    replace h := elim_r h
    replace h := elim_r h
    replace h := elim_r h
    replace h := elim_r h
    replace h := elim_r h
    replace h := elim_r h
    replace h := elim_r h
    replace h := elim_r h
    replace h := elim_r h
    replace h := elim_r h
    replace h := elim_r h
    replace h := elim_r h
    replace h := elim_r h
    refine wp_iconst (v := 0) dL_law_1394 (by decide) ?_
    obtain ⟨z120, e121, h⟩ := bnd h
    obtain ⟨hz_, rfl⟩ := zck_of e121
    cases h
    exact wp_zret dL_law_1395 rfl hz_

