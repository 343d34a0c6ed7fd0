/-! ONE TURN OF THE LAW'S LOOP: written by wip/whole/genlaw.py -/
noncomputable def F_L_turn (h : PH) (i : Int32) : Option ((Int32 × PH) ⊕ Int32) :=
 if ((h.1 168 0) - (6 : Int32)) < i then
  some (.inr ((1 : Int32)))
 else
  (ald (h.1 168 0).toNatClampNeg h 167 i).bind fun z1 =>
  if (z1 &&& (31 : Int32)) = 0 then
   (ald (h.1 168 0).toNatClampNeg h 167 (i + (1 : Int32))).bind fun z2 =>
   (ald (h.1 168 0).toNatClampNeg h 167 (i + (2 : Int32))).bind fun z3 =>
   (ald (h.1 168 0).toNatClampNeg h 167 (i + (3 : Int32))).bind fun z4 =>
   (ald (h.1 168 0).toNatClampNeg h 167 (i + (4 : Int32))).bind fun z5 =>
   (ald (h.1 168 0).toNatClampNeg h 167 (i + (5 : Int32))).bind fun z6 =>
   (F_X7_append h z2 z3 z4 z5 z6).bind fun z7 =>
   (ald (z7.2.1 168 0).toNatClampNeg z7.2 167 (i + (1 : Int32))).bind fun z8 =>
   (ald (z7.2.1 168 0).toNatClampNeg z7.2 167 (i + (2 : Int32))).bind fun z9 =>
   (ald (z7.2.1 168 0).toNatClampNeg z7.2 167 (i + (3 : Int32))).bind fun z10 =>
   (ald (z7.2.1 168 0).toNatClampNeg z7.2 167 (i + (4 : Int32))).bind fun z11 =>
   (ald (z7.2.1 168 0).toNatClampNeg z7.2 167 (i + (5 : Int32))).bind fun z12 =>
   (F_X8_append z7.2 z8 z9 z10 z11 z12).bind fun z13 =>
   if z7.1 = z13.1 then
    some (.inl ((i + (6 : Int32)), z13.2))
   else
    some (.inr ((0 : Int32)))
  else
  if (z1 &&& (31 : Int32)) = 1 then
   (ald (h.1 168 0).toNatClampNeg h 167 (i + (1 : Int32))).bind fun z14 =>
   (F_L_load h z14).bind fun z15 =>
   (ald (z15.2.1 168 0).toNatClampNeg z15.2 167 (i + (1 : Int32))).bind fun z16 =>
   (F_X8_load z15.2 z16).bind fun z17 =>
   if (F_X8_thrown z17.2) = z15.1 then
    if ¬ z15.1 = 0 then
     some (.inl ((i + (6 : Int32)), z17.2))
    else
     (ldl 1 z17.2 166 (0 : Int32)).bind fun z18 =>
     if (lg_cmp z18 z17.1.toInt64) = 0 then
      some (.inl ((i + (6 : Int32)), z17.2))
     else
      some (.inr ((0 : Int32)))
   else
    some (.inr ((0 : Int32)))
  else
  if (z1 &&& (31 : Int32)) = 2 then
   if (F_X7_errorOffset h) = (F_X8_errorOffset h).1 then
    some (.inl ((i + (6 : Int32)), (F_X8_errorOffset h).2))
   else
    some (.inr ((0 : Int32)))
  else
  if (z1 &&& (31 : Int32)) = 3 then
   (F_X8_nodeCount h).bind fun z19 =>
   if (F_X7_nodeCount h) = z19.1 then
    some (.inl ((i + (6 : Int32)), z19.2))
   else
    some (.inr ((0 : Int32)))
  else
  if (z1 &&& (31 : Int32)) = 4 then
   (F_X8_edgeCount h).bind fun z20 =>
   if (F_X7_edgeCount h) = z20.1 then
    some (.inl ((i + (6 : Int32)), z20.2))
   else
    some (.inr ((0 : Int32)))
  else
  if (z1 &&& (31 : Int32)) = 5 then
   (F_X8_depotCount h).bind fun z21 =>
   if (F_X7_depotCount h) = z21.1 then
    some (.inl ((i + (6 : Int32)), z21.2))
   else
    some (.inr ((0 : Int32)))
  else
  if (z1 &&& (31 : Int32)) = 6 then
   (F_X8_tourCount h).bind fun z22 =>
   if (F_X7_tourCount h) = z22.1 then
    some (.inl ((i + (6 : Int32)), z22.2))
   else
    some (.inr ((0 : Int32)))
  else
  if (z1 &&& (31 : Int32)) = 7 then
   (ald (h.1 168 0).toNatClampNeg h 167 (i + (1 : Int32))).bind fun z23 =>
   (ald (h.1 168 0).toNatClampNeg h 167 (i + (2 : Int32))).bind fun z24 =>
   (F_L_edge h z23 z24).bind fun z25 =>
   (ald (z25.2.1 168 0).toNatClampNeg z25.2 167 (i + (1 : Int32))).bind fun z26 =>
   (ald (z25.2.1 168 0).toNatClampNeg z25.2 167 (i + (2 : Int32))).bind fun z27 =>
   (F_X8_edge_ z25.2 z26 z27).bind fun z28 =>
   if (F_X8_thrown z28.2) = z25.1 then
    if ¬ z25.1 = 0 then
     some (.inl ((i + (6 : Int32)), z28.2))
    else
     (ldl 1 z28.2 166 (0 : Int32)).bind fun z29 =>
     if (lg_cmp z29 z28.1.toInt64) = 0 then
      some (.inl ((i + (6 : Int32)), z28.2))
     else
      some (.inr ((0 : Int32)))
   else
    some (.inr ((0 : Int32)))
  else
  if (z1 &&& (31 : Int32)) = 8 then
   (ald (h.1 168 0).toNatClampNeg h 167 (i + (1 : Int32))).bind fun z30 =>
   (ald (h.1 168 0).toNatClampNeg h 167 (i + (2 : Int32))).bind fun z31 =>
   (F_L_mayFollow h z30 z31).bind fun z32 =>
   (ald (z32.2.1 168 0).toNatClampNeg z32.2 167 (i + (1 : Int32))).bind fun z33 =>
   (ald (z32.2.1 168 0).toNatClampNeg z32.2 167 (i + (2 : Int32))).bind fun z34 =>
   (F_X8_mayFollow z32.2 z33 z34).bind fun z35 =>
   if (F_X8_thrown z35.2) = z32.1 then
    if ¬ z32.1 = 0 then
     some (.inl ((i + (6 : Int32)), z35.2))
    else
     (ldl 1 z35.2 166 (0 : Int32)).bind fun z36 =>
     jn (fun (v38 : Int64) =>
      if (lg_cmp z36 v38) = 0 then
       some (.inl ((i + (6 : Int32)), z35.2))
      else
       some (.inr ((0 : Int32)))) (fun k37 =>
      if z35.1 = 0 then
       k37 ((0 : Int64))
      else
       k37 ((1 : Int64)))
   else
    some (.inr ((0 : Int32)))
  else
  if (z1 &&& (31 : Int32)) = 9 then
   (ald (h.1 168 0).toNatClampNeg h 167 (i + (1 : Int32))).bind fun z39 =>
   (ald (h.1 168 0).toNatClampNeg h 167 (i + (2 : Int32))).bind fun z40 =>
   (F_L_deadhead h z39 z40).bind fun z41 =>
   (ald (z41.2.1 168 0).toNatClampNeg z41.2 167 (i + (1 : Int32))).bind fun z42 =>
   (ald (z41.2.1 168 0).toNatClampNeg z41.2 167 (i + (2 : Int32))).bind fun z43 =>
   (F_X8_deadhead z41.2 z42 z43).bind fun z44 =>
   if (F_X8_thrown z44.2) = z41.1 then
    if ¬ z41.1 = 0 then
     some (.inl ((i + (6 : Int32)), z44.2))
    else
     (ldl 1 z44.2 166 (0 : Int32)).bind fun z45 =>
     if (lg_cmp z45 z44.1.toInt64) = 0 then
      some (.inl ((i + (6 : Int32)), z44.2))
     else
      some (.inr ((0 : Int32)))
   else
    some (.inr ((0 : Int32)))
  else
  if (z1 &&& (31 : Int32)) = 10 then
   (ald (h.1 168 0).toNatClampNeg h 167 (i + (1 : Int32))).bind fun z46 =>
   (ald (h.1 168 0).toNatClampNeg h 167 (i + (2 : Int32))).bind fun z47 =>
   (F_L_distance h z46 z47).bind fun z48 =>
   (ald (z48.2.1 168 0).toNatClampNeg z48.2 167 (i + (1 : Int32))).bind fun z49 =>
   (ald (z48.2.1 168 0).toNatClampNeg z48.2 167 (i + (2 : Int32))).bind fun z50 =>
   (F_X8_distance z48.2 z49 z50).bind fun z51 =>
   if (F_X8_thrown z51.2) = z48.1 then
    if ¬ z48.1 = 0 then
     some (.inl ((i + (6 : Int32)), z51.2))
    else
     (ldl 1 z51.2 166 (0 : Int32)).bind fun z52 =>
     if (lg_cmp z52 z51.1.toInt64) = 0 then
      some (.inl ((i + (6 : Int32)), z51.2))
     else
      some (.inr ((0 : Int32)))
   else
    some (.inr ((0 : Int32)))
  else
  if (z1 &&& (31 : Int32)) = 11 then
   (ald (h.1 168 0).toNatClampNeg h 167 (i + (1 : Int32))).bind fun z53 =>
   (F_L_serviceCost h z53).bind fun z54 =>
   (ald (z54.2.1 168 0).toNatClampNeg z54.2 167 (i + (1 : Int32))).bind fun z55 =>
   (F_X8_serviceCost z54.2 z55).bind fun z56 =>
   if (F_X8_thrown z56.2) = z54.1 then
    if ¬ z54.1 = 0 then
     some (.inl ((i + (6 : Int32)), z56.2))
    else
     (ldl 1 z56.2 166 (0 : Int32)).bind fun z57 =>
     if (lg_cmp z57 z56.1.toInt64) = 0 then
      some (.inl ((i + (6 : Int32)), z56.2))
     else
      some (.inr ((0 : Int32)))
   else
    some (.inr ((0 : Int32)))
  else
  if (z1 &&& (31 : Int32)) = 12 then
   (F_X7_oddNodes h).bind fun z58 =>
   (F_X8_oddNodes h).bind fun z59 =>
   if z58 = z59.1 then
    some (.inl ((i + (6 : Int32)), z59.2))
   else
    some (.inr ((0 : Int32)))
  else
  if (z1 &&& (31 : Int32)) = 13 then
   (F_X7_matching h).bind fun z60 =>
   (F_X8_matching h).bind fun z61 =>
   if z60 = z61.1 then
    some (.inl ((i + (6 : Int32)), z61.2))
   else
    some (.inr ((0 : Int32)))
  else
  if (z1 &&& (31 : Int32)) = 14 then
   (ald (h.1 168 0).toNatClampNeg h 167 (i + (1 : Int32))).bind fun z62 =>
   (F_L_depotOf h z62).bind fun z63 =>
   (ald (z63.2.1 168 0).toNatClampNeg z63.2 167 (i + (1 : Int32))).bind fun z64 =>
   (F_X8_depotOf z63.2 z64).bind fun z65 =>
   if (F_X8_thrown z65.2) = z63.1 then
    if ¬ z63.1 = 0 then
     some (.inl ((i + (6 : Int32)), z65.2))
    else
     (ldl 1 z65.2 166 (0 : Int32)).bind fun z66 =>
     if (lg_cmp z66 z65.1.toInt64) = 0 then
      some (.inl ((i + (6 : Int32)), z65.2))
     else
      some (.inr ((0 : Int32)))
   else
    some (.inr ((0 : Int32)))
  else
  if (z1 &&& (31 : Int32)) = 15 then
   (ald (h.1 168 0).toNatClampNeg h 167 (i + (1 : Int32))).bind fun z67 =>
   (F_L_length h z67).bind fun z68 =>
   (ald (z68.2.1 168 0).toNatClampNeg z68.2 167 (i + (1 : Int32))).bind fun z69 =>
   (F_X8_length z68.2 z69).bind fun z70 =>
   if (F_X8_thrown z70.2) = z68.1 then
    if ¬ z68.1 = 0 then
     some (.inl ((i + (6 : Int32)), z70.2))
    else
     (ldl 1 z70.2 166 (0 : Int32)).bind fun z71 =>
     if (lg_cmp z71 z70.1.toInt64) = 0 then
      some (.inl ((i + (6 : Int32)), z70.2))
     else
      some (.inr ((0 : Int32)))
   else
    some (.inr ((0 : Int32)))
  else
  if (z1 &&& (31 : Int32)) = 16 then
   (ald (h.1 168 0).toNatClampNeg h 167 (i + (1 : Int32))).bind fun z72 =>
   (ald (h.1 168 0).toNatClampNeg h 167 (i + (2 : Int32))).bind fun z73 =>
   (F_L_arcAt h z72 z73).bind fun z74 =>
   (ald (z74.2.1 168 0).toNatClampNeg z74.2 167 (i + (1 : Int32))).bind fun z75 =>
   (ald (z74.2.1 168 0).toNatClampNeg z74.2 167 (i + (2 : Int32))).bind fun z76 =>
   (F_X8_arcAt z74.2 z75 z76).bind fun z77 =>
   if (F_X8_thrown z77.2) = z74.1 then
    if ¬ z74.1 = 0 then
     some (.inl ((i + (6 : Int32)), z77.2))
    else
     (ldl 1 z77.2 166 (0 : Int32)).bind fun z78 =>
     if (lg_cmp z78 z77.1.toInt64) = 0 then
      some (.inl ((i + (6 : Int32)), z77.2))
     else
      some (.inr ((0 : Int32)))
   else
    some (.inr ((0 : Int32)))
  else
  if (z1 &&& (31 : Int32)) = 17 then
   (ald (h.1 168 0).toNatClampNeg h 167 (i + (1 : Int32))).bind fun z79 =>
   (F_L_loadOf h z79).bind fun z80 =>
   (ald (z80.2.1 168 0).toNatClampNeg z80.2 167 (i + (1 : Int32))).bind fun z81 =>
   (F_X8_loadOf z80.2 z81).bind fun z82 =>
   if (F_X8_thrown z82.2) = z80.1 then
    if ¬ z80.1 = 0 then
     some (.inl ((i + (6 : Int32)), z82.2))
    else
     (ldl 1 z82.2 166 (0 : Int32)).bind fun z83 =>
     if (lg_cmp z83 z82.1.toInt64) = 0 then
      some (.inl ((i + (6 : Int32)), z82.2))
     else
      some (.inr ((0 : Int32)))
   else
    some (.inr ((0 : Int32)))
  else
  if (z1 &&& (31 : Int32)) = 18 then
   (ald (h.1 168 0).toNatClampNeg h 167 (i + (1 : Int32))).bind fun z84 =>
   (F_L_tourCost h z84).bind fun z85 =>
   (ald (z85.2.1 168 0).toNatClampNeg z85.2 167 (i + (1 : Int32))).bind fun z86 =>
   (F_X8_tourCost z85.2 z86).bind fun z87 =>
   if (F_X8_thrown z87.2) = z85.1 then
    if ¬ z85.1 = 0 then
     some (.inl ((i + (6 : Int32)), z87.2))
    else
     (ldl 1 z87.2 166 (0 : Int32)).bind fun z88 =>
     if (lg_cmp z88 z87.1.toInt64) = 0 then
      some (.inl ((i + (6 : Int32)), z87.2))
     else
      some (.inr ((0 : Int32)))
   else
    some (.inr ((0 : Int32)))
  else
  if (z1 &&& (31 : Int32)) = 19 then
   (F_X7_totalCost h).bind fun z89 =>
   (F_X8_totalCost h).bind fun z90 =>
   if z89 = z90.1 then
    some (.inl ((i + (6 : Int32)), z90.2))
   else
    some (.inr ((0 : Int32)))
  else
  if (z1 &&& (31 : Int32)) = 20 then
   (F_X7_unserved h).bind fun z91 =>
   (F_X8_unserved h).bind fun z92 =>
   if z91 = z92.1 then
    some (.inl ((i + (6 : Int32)), z92.2))
   else
    some (.inr ((0 : Int32)))
  else
  if (z1 &&& (31 : Int32)) = 21 then
   (ald (h.1 168 0).toNatClampNeg h 167 (i + (1 : Int32))).bind fun z93 =>
   (F_L_tourOf h z93).bind fun z94 =>
   (ald (z94.2.1 168 0).toNatClampNeg z94.2 167 (i + (1 : Int32))).bind fun z95 =>
   (F_X8_tourOf z94.2 z95).bind fun z96 =>
   if (F_X8_thrown z96.2) = z94.1 then
    if ¬ z94.1 = 0 then
     some (.inl ((i + (6 : Int32)), z96.2))
    else
     (ldl 1 z96.2 166 (0 : Int32)).bind fun z97 =>
     if (lg_cmp z97 z96.1.toInt64) = 0 then
      some (.inl ((i + (6 : Int32)), z96.2))
     else
      some (.inr ((0 : Int32)))
   else
    some (.inr ((0 : Int32)))
  else
  if (z1 &&& (31 : Int32)) = 22 then
   (ald (h.1 168 0).toNatClampNeg h 167 (i + (1 : Int32))).bind fun z98 =>
   (F_L_bestInsertion h z98).bind fun z99 =>
   (ald (z99.2.1 168 0).toNatClampNeg z99.2 167 (i + (1 : Int32))).bind fun z100 =>
   (F_X8_bestInsertion z99.2 z100).bind fun z101 =>
   if (F_X8_thrown z101.2) = z99.1 then
    if ¬ z99.1 = 0 then
     some (.inl ((i + (6 : Int32)), z101.2))
    else
     (ldl 1 z101.2 166 (0 : Int32)).bind fun z102 =>
     if (lg_cmp z102 z101.1.toInt64) = 0 then
      some (.inl ((i + (6 : Int32)), z101.2))
     else
      some (.inr ((0 : Int32)))
   else
    some (.inr ((0 : Int32)))
  else
  if (z1 &&& (31 : Int32)) = 23 then
   (ald (h.1 168 0).toNatClampNeg h 167 (i + (1 : Int32))).bind fun z103 =>
   (F_L_openTour h z103).bind fun z104 =>
   (ald (z104.2.1 168 0).toNatClampNeg z104.2 167 (i + (1 : Int32))).bind fun z105 =>
   (F_X8_openTour z104.2 z105).bind fun z106 =>
   if (F_X8_thrown z106.2) = z104.1 then
    if ¬ z104.1 = 0 then
     some (.inl ((i + (6 : Int32)), z106.2))
    else
     (ldl 1 z106.2 166 (0 : Int32)).bind fun z107 =>
     if (lg_cmp z107 z106.1.toInt64) = 0 then
      some (.inl ((i + (6 : Int32)), z106.2))
     else
      some (.inr ((0 : Int32)))
   else
    some (.inr ((0 : Int32)))
  else
  if (z1 &&& (31 : Int32)) = 24 then
   (ald (h.1 168 0).toNatClampNeg h 167 (i + (1 : Int32))).bind fun z108 =>
   (ald (h.1 168 0).toNatClampNeg h 167 (i + (2 : Int32))).bind fun z109 =>
   (ald (h.1 168 0).toNatClampNeg h 167 (i + (3 : Int32))).bind fun z110 =>
   (F_L_insert h z108 z109 z110).bind fun z111 =>
   (ald (z111.2.1 168 0).toNatClampNeg z111.2 167 (i + (1 : Int32))).bind fun z112 =>
   (ald (z111.2.1 168 0).toNatClampNeg z111.2 167 (i + (2 : Int32))).bind fun z113 =>
   (ald (z111.2.1 168 0).toNatClampNeg z111.2 167 (i + (3 : Int32))).bind fun z114 =>
   (F_X8_insert z111.2 z112 z113 z114).bind fun z115 =>
   if (F_X8_thrown z115.2) = z111.1 then
    if ¬ z111.1 = 0 then
     some (.inl ((i + (6 : Int32)), z115.2))
    else
     (ldl 1 z115.2 166 (0 : Int32)).bind fun z116 =>
     if (lg_cmp z116 z115.1.toInt64) = 0 then
      some (.inl ((i + (6 : Int32)), z115.2))
     else
      some (.inr ((0 : Int32)))
   else
    some (.inr ((0 : Int32)))
  else
  if (z1 &&& (31 : Int32)) = 25 then
   (ald (h.1 168 0).toNatClampNeg h 167 (i + (1 : Int32))).bind fun z117 =>
   (F_L_drop h z117).bind fun z118 =>
   (ald (z118.2.1 168 0).toNatClampNeg z118.2 167 (i + (1 : Int32))).bind fun z119 =>
   (F_X8_drop z118.2 z119).bind fun z120 =>
   if (F_X8_thrown z120.2) = z118.1 then
    if ¬ z118.1 = 0 then
     some (.inl ((i + (6 : Int32)), z120.2))
    else
     (ldl 1 z120.2 166 (0 : Int32)).bind fun z121 =>
     if (lg_cmp z121 z120.1.toInt64) = 0 then
      some (.inl ((i + (6 : Int32)), z120.2))
     else
      some (.inr ((0 : Int32)))
   else
    some (.inr ((0 : Int32)))
  else
  if (z1 &&& (31 : Int32)) = 26 then
   (ald (h.1 168 0).toNatClampNeg h 167 (i + (1 : Int32))).bind fun z122 =>
   (F_L_flip h z122).bind fun z123 =>
   (ald (z123.2.1 168 0).toNatClampNeg z123.2 167 (i + (1 : Int32))).bind fun z124 =>
   (F_X8_flip z123.2 z124).bind fun z125 =>
   if (F_X8_thrown z125.2) = z123.1 then
    if ¬ z123.1 = 0 then
     some (.inl ((i + (6 : Int32)), z125.2))
    else
     (ldl 1 z125.2 166 (0 : Int32)).bind fun z126 =>
     if (lg_cmp z126 z125.1.toInt64) = 0 then
      some (.inl ((i + (6 : Int32)), z125.2))
     else
      some (.inr ((0 : Int32)))
   else
    some (.inr ((0 : Int32)))
  else
  if (z1 &&& (31 : Int32)) = 27 then
   (F_X7_build h).bind fun z127 =>
   (F_X8_build z127.2).bind fun z128 =>
   if z127.1 = z128.1 then
    some (.inl ((i + (6 : Int32)), z128.2))
   else
    some (.inr ((0 : Int32)))
  else
  if (z1 &&& (31 : Int32)) = 28 then
   (ald (h.1 168 0).toNatClampNeg h 167 (i + (1 : Int32))).bind fun z129 =>
   (F_L_improve h z129).bind fun z130 =>
   (ald (z130.2.1 168 0).toNatClampNeg z130.2 167 (i + (1 : Int32))).bind fun z131 =>
   (F_X8_improve z130.2 z131).bind fun z132 =>
   if (F_X8_thrown z132.2) = z130.1 then
    if ¬ z130.1 = 0 then
     some (.inl ((i + (6 : Int32)), z132.2))
    else
     (ldl 1 z132.2 166 (0 : Int32)).bind fun z133 =>
     if (lg_cmp z133 z132.1.toInt64) = 0 then
      some (.inl ((i + (6 : Int32)), z132.2))
     else
      some (.inr ((0 : Int32)))
   else
    some (.inr ((0 : Int32)))
  else
  if (z1 &&& (31 : Int32)) = 29 then
   (F_X7_undo h).bind fun z134 =>
   (F_X8_undo z134.2).bind fun z135 =>
   if z134.1 = z135.1 then
    some (.inl ((i + (6 : Int32)), z135.2))
   else
    some (.inr ((0 : Int32)))
  else
  if (z1 &&& (31 : Int32)) = 30 then
   (F_X7_checksum h).bind fun z136 =>
   (F_X8_checksum h).bind fun z137 =>
   if (lg_cmp z136 z137.1) = 0 then
    some (.inl ((i + (6 : Int32)), z137.2))
   else
    some (.inr ((0 : Int32)))
  else
  some (.inl ((i + (6 : Int32)), h))
def P_turn (d c : Nat) (s : Int32 × PH) : Prop := ∀ c', c' ≤ c + 5 → PW (Ex d) (miOf 221) (fun o _ => o = .inl (some (.int 1))) 23 [some (.ref 167), some (.ref 0), some (.ref 122), some (.ref 166), some (.int s.1), none, none] [] s.2 c'
set_option maxHeartbeats 8000000 in
set_option maxRecDepth 100000 in
theorem ok_L_turn (d : Nat) (hd : 60 ≤ d) (c : Nat) (hc : c + 5 ≤ 20000) (h : PH) (i : Int32) : ∀ t, F_L_turn h i = some t → gsum (P_turn d c) (fun r => r = (1 : Int32)) t → PW (Ex d) (miOf 221) (fun o _ => o = .inl (some (.int 1))) 23 [some (.ref 167), some (.ref 0), some (.ref 122), some (.ref 166), some (.int i), none, none] [] h c := by
  have hb : ∀ n, n ≤ 5 → Nat.ble (c + n) mi_L_law.2.2.1 = true := fun n hn => Nat.ble_eq_true_of_le (by show c + n ≤ 20000; omega)
  show Sim (Ex d) mi_L_law _ (F_L_turn h i) (gsum (P_turn d c) (fun r => r = (1 : Int32))) 23 _ [] h c
  unfold F_L_turn
  refine sS rfl rfl ?_
  refine sS rfl rfl ?_
  refine sS rfl rfl ?_
  refine sS rfl rfl ?_
  refine sS rfl rfl ?_
  refine sB rfl rfl ?_ ?_
  · refine sS rfl rfl ?_
    exact sR rfl rfl (fun hg => congrArg (fun y => (Sum.inl (some (Value.int y)) : PO)) hg)
  · refine sS rfl rfl ?_
    refine sS rfl rfl ?_
    refine sIald7 rfl rfl (fun z1 => ?_)
    refine sS rfl rfl ?_
    refine sS rfl rfl ?_
    refine sIf (fun q0 => ?_) (fun q0 => ?_)
    · rw [q0]
      refine sS rfl rfl ?_
      refine sS rfl rfl ?_
      refine sS rfl rfl ?_
      refine sS rfl rfl ?_
      refine sS rfl rfl ?_
      refine sS rfl rfl ?_
      refine sIald7 rfl rfl (fun z2 => ?_)
      refine sS rfl rfl ?_
      refine sS rfl rfl ?_
      refine sS rfl rfl ?_
      refine sS rfl rfl ?_
      refine sIald7 rfl rfl (fun z3 => ?_)
      refine sS rfl rfl ?_
      refine sS rfl rfl ?_
      refine sS rfl rfl ?_
      refine sS rfl rfl ?_
      refine sIald7 rfl rfl (fun z4 => ?_)
      refine sS rfl rfl ?_
      refine sS rfl rfl ?_
      refine sS rfl rfl ?_
      refine sS rfl rfl ?_
      refine sIald7 rfl rfl (fun z5 => ?_)
      refine sS rfl rfl ?_
      refine sS rfl rfl ?_
      refine sS rfl rfl ?_
      refine sS rfl rfl ?_
      refine sIald7 rfl rfl (fun z6 => ?_)
      refine sC1 (c' := c + 0) rfl rfl rfl rfl rfl (hb 0 (by omega)) (ok_X7_append d (by omega) h z2 z3 z4 z5 z6) (fun z7 => ?_)
      refine sS rfl rfl ?_
      refine sS rfl rfl ?_
      refine sS rfl rfl ?_
      refine sS rfl rfl ?_
      refine sS rfl rfl ?_
      refine sIald7 rfl rfl (fun z8 => ?_)
      refine sS rfl rfl ?_
      refine sS rfl rfl ?_
      refine sS rfl rfl ?_
      refine sS rfl rfl ?_
      refine sIald7 rfl rfl (fun z9 => ?_)
      refine sS rfl rfl ?_
      refine sS rfl rfl ?_
      refine sS rfl rfl ?_
      refine sS rfl rfl ?_
      refine sIald7 rfl rfl (fun z10 => ?_)
      refine sS rfl rfl ?_
      refine sS rfl rfl ?_
      refine sS rfl rfl ?_
      refine sS rfl rfl ?_
      refine sIald7 rfl rfl (fun z11 => ?_)
      refine sS rfl rfl ?_
      refine sS rfl rfl ?_
      refine sS rfl rfl ?_
      refine sS rfl rfl ?_
      refine sIald7 rfl rfl (fun z12 => ?_)
      refine sC1 (c' := c + 0) rfl rfl rfl rfl rfl (hb 0 (by omega)) (ok_X8_append d (by omega) z7.2 z8 z9 z10 z11 z12) (fun z13 => ?_)
      refine sB rfl rfl ?_ ?_
      · refine sS rfl rfl ?_
        refine sS rfl rfl ?_
        exact sJ (fun h2 => h2 _ (by omega))
      · refine sS rfl rfl ?_
        exact sR rfl rfl (fun hg => congrArg (fun y => (Sum.inl (some (Value.int y)) : PO)) hg)
    refine sIf (fun q1 => ?_) (fun q1 => ?_)
    · rw [q1]
      refine sS rfl rfl ?_
      refine sS rfl rfl ?_
      refine sS rfl rfl ?_
      refine sS rfl rfl ?_
      refine sS rfl rfl ?_
      refine sS rfl rfl ?_
      refine sIald7 rfl rfl (fun z14 => ?_)
      refine sS rfl rfl ?_
      refine sC1 (c' := c + 1) rfl rfl rfl rfl rfl (hb 1 (by omega)) (ok_L_load d (by omega) h z14) (fun z15 => ?_)
      refine sS rfl rfl ?_
      refine sS rfl rfl ?_
      refine sS rfl rfl ?_
      refine sS rfl rfl ?_
      refine sS rfl rfl ?_
      refine sS rfl rfl ?_
      refine sIald7 rfl rfl (fun z16 => ?_)
      refine sC1 (c' := c + 1) rfl rfl rfl rfl rfl (hb 1 (by omega)) (ok_X8_load d (by omega) z15.2 z16) (fun z17 => ?_)
      refine sS rfl rfl ?_
      refine sS rfl rfl ?_
      refine sT1 (c' := c + 1) rfl rfl rfl rfl rfl (hb 1 (by omega)) (ok_X8_thrown d (by omega) z17.2) ?_
      refine sS rfl rfl ?_
      refine sB rfl rfl ?_ ?_
      · refine sS rfl rfl ?_
        refine sB rfl rfl ?_ ?_
        · refine sS rfl rfl ?_
          refine sS rfl rfl ?_
          refine sS rfl rfl ?_
          refine sM [true, true, true, true, true, false, false] rfl ?_
          exact sJ (fun h2 => h2 _ (by omega))
        · refine sS rfl rfl ?_
          refine sS rfl rfl ?_
          refine sLald rfl rfl (fun z18 => ?_)
          refine sS rfl rfl ?_
          refine sS rfl rfl ?_
          refine sS rfl rfl ?_
          refine sB rfl rfl ?_ ?_
          · refine sS rfl rfl ?_
            refine sS rfl rfl ?_
            refine sS rfl rfl ?_
            refine sM [true, true, true, true, true, false, false] rfl ?_
            exact sJ (fun h2 => h2 _ (by omega))
          · refine sS rfl rfl ?_
            exact sR rfl rfl (fun hg => congrArg (fun y => (Sum.inl (some (Value.int y)) : PO)) hg)
      · refine sS rfl rfl ?_
        exact sR rfl rfl (fun hg => congrArg (fun y => (Sum.inl (some (Value.int y)) : PO)) hg)
    refine sIf (fun q2 => ?_) (fun q2 => ?_)
    · rw [q2]
      refine sS rfl rfl ?_
      refine sS rfl rfl ?_
      refine sT1 (c' := c + 0) rfl rfl rfl rfl rfl (hb 0 (by omega)) (ok_X7_errorOffset d (by omega) h) ?_
      refine sS rfl rfl ?_
      refine sT1 (c' := c + 0) rfl rfl rfl rfl rfl (hb 0 (by omega)) (ok_X8_errorOffset d (by omega) h) ?_
      refine sB rfl rfl ?_ ?_
      · refine sS rfl rfl ?_
        refine sS rfl rfl ?_
        exact sJ (fun h2 => h2 _ (by omega))
      · refine sS rfl rfl ?_
        exact sR rfl rfl (fun hg => congrArg (fun y => (Sum.inl (some (Value.int y)) : PO)) hg)
    refine sIf (fun q3 => ?_) (fun q3 => ?_)
    · rw [q3]
      refine sS rfl rfl ?_
      refine sS rfl rfl ?_
      refine sT1 (c' := c + 0) rfl rfl rfl rfl rfl (hb 0 (by omega)) (ok_X7_nodeCount d (by omega) h) ?_
      refine sS rfl rfl ?_
      refine sC1 (c' := c + 0) rfl rfl rfl rfl rfl (hb 0 (by omega)) (ok_X8_nodeCount d (by omega) h) (fun z19 => ?_)
      refine sB rfl rfl ?_ ?_
      · refine sS rfl rfl ?_
        refine sS rfl rfl ?_
        exact sJ (fun h2 => h2 _ (by omega))
      · refine sS rfl rfl ?_
        exact sR rfl rfl (fun hg => congrArg (fun y => (Sum.inl (some (Value.int y)) : PO)) hg)
    refine sIf (fun q4 => ?_) (fun q4 => ?_)
    · rw [q4]
      refine sS rfl rfl ?_
      refine sS rfl rfl ?_
      refine sT1 (c' := c + 0) rfl rfl rfl rfl rfl (hb 0 (by omega)) (ok_X7_edgeCount d (by omega) h) ?_
      refine sS rfl rfl ?_
      refine sC1 (c' := c + 0) rfl rfl rfl rfl rfl (hb 0 (by omega)) (ok_X8_edgeCount d (by omega) h) (fun z20 => ?_)
      refine sB rfl rfl ?_ ?_
      · refine sS rfl rfl ?_
        refine sS rfl rfl ?_
        exact sJ (fun h2 => h2 _ (by omega))
      · refine sS rfl rfl ?_
        exact sR rfl rfl (fun hg => congrArg (fun y => (Sum.inl (some (Value.int y)) : PO)) hg)
    refine sIf (fun q5 => ?_) (fun q5 => ?_)
    · rw [q5]
      refine sS rfl rfl ?_
      refine sS rfl rfl ?_
      refine sT1 (c' := c + 0) rfl rfl rfl rfl rfl (hb 0 (by omega)) (ok_X7_depotCount d (by omega) h) ?_
      refine sS rfl rfl ?_
      refine sC1 (c' := c + 0) rfl rfl rfl rfl rfl (hb 0 (by omega)) (ok_X8_depotCount d (by omega) h) (fun z21 => ?_)
      refine sB rfl rfl ?_ ?_
      · refine sS rfl rfl ?_
        refine sS rfl rfl ?_
        exact sJ (fun h2 => h2 _ (by omega))
      · refine sS rfl rfl ?_
        exact sR rfl rfl (fun hg => congrArg (fun y => (Sum.inl (some (Value.int y)) : PO)) hg)
    refine sIf (fun q6 => ?_) (fun q6 => ?_)
    · rw [q6]
      refine sS rfl rfl ?_
      refine sS rfl rfl ?_
      refine sT1 (c' := c + 0) rfl rfl rfl rfl rfl (hb 0 (by omega)) (ok_X7_tourCount d (by omega) h) ?_
      refine sS rfl rfl ?_
      refine sC1 (c' := c + 0) rfl rfl rfl rfl rfl (hb 0 (by omega)) (ok_X8_tourCount d (by omega) h) (fun z22 => ?_)
      refine sB rfl rfl ?_ ?_
      · refine sS rfl rfl ?_
        refine sS rfl rfl ?_
        exact sJ (fun h2 => h2 _ (by omega))
      · refine sS rfl rfl ?_
        exact sR rfl rfl (fun hg => congrArg (fun y => (Sum.inl (some (Value.int y)) : PO)) hg)
    refine sIf (fun q7 => ?_) (fun q7 => ?_)
    · rw [q7]
      refine sS rfl rfl ?_
      refine sS rfl rfl ?_
      refine sS rfl rfl ?_
      refine sS rfl rfl ?_
      refine sS rfl rfl ?_
      refine sS rfl rfl ?_
      refine sIald7 rfl rfl (fun z23 => ?_)
      refine sS rfl rfl ?_
      refine sS rfl rfl ?_
      refine sS rfl rfl ?_
      refine sS rfl rfl ?_
      refine sIald7 rfl rfl (fun z24 => ?_)
      refine sS rfl rfl ?_
      refine sC1 (c' := c + 2) rfl rfl rfl rfl rfl (hb 2 (by omega)) (ok_L_edge d (by omega) h z23 z24) (fun z25 => ?_)
      refine sS rfl rfl ?_
      refine sS rfl rfl ?_
      refine sS rfl rfl ?_
      refine sS rfl rfl ?_
      refine sS rfl rfl ?_
      refine sS rfl rfl ?_
      refine sIald7 rfl rfl (fun z26 => ?_)
      refine sS rfl rfl ?_
      refine sS rfl rfl ?_
      refine sS rfl rfl ?_
      refine sS rfl rfl ?_
      refine sIald7 rfl rfl (fun z27 => ?_)
      refine sC1 (c' := c + 2) rfl rfl rfl rfl rfl (hb 2 (by omega)) (ok_X8_edge_ d (by omega) z25.2 z26 z27) (fun z28 => ?_)
      refine sS rfl rfl ?_
      refine sS rfl rfl ?_
      refine sT1 (c' := c + 2) rfl rfl rfl rfl rfl (hb 2 (by omega)) (ok_X8_thrown d (by omega) z28.2) ?_
      refine sS rfl rfl ?_
      refine sB rfl rfl ?_ ?_
      · refine sS rfl rfl ?_
        refine sB rfl rfl ?_ ?_
        · refine sS rfl rfl ?_
          refine sS rfl rfl ?_
          refine sS rfl rfl ?_
          refine sM [true, true, true, true, true, false, false] rfl ?_
          exact sJ (fun h2 => h2 _ (by omega))
        · refine sS rfl rfl ?_
          refine sS rfl rfl ?_
          refine sLald rfl rfl (fun z29 => ?_)
          refine sS rfl rfl ?_
          refine sS rfl rfl ?_
          refine sS rfl rfl ?_
          refine sB rfl rfl ?_ ?_
          · refine sS rfl rfl ?_
            refine sS rfl rfl ?_
            refine sS rfl rfl ?_
            refine sM [true, true, true, true, true, false, false] rfl ?_
            exact sJ (fun h2 => h2 _ (by omega))
          · refine sS rfl rfl ?_
            exact sR rfl rfl (fun hg => congrArg (fun y => (Sum.inl (some (Value.int y)) : PO)) hg)
      · refine sS rfl rfl ?_
        exact sR rfl rfl (fun hg => congrArg (fun y => (Sum.inl (some (Value.int y)) : PO)) hg)
    refine sIf (fun q8 => ?_) (fun q8 => ?_)
    · rw [q8]
      refine sS rfl rfl ?_
      refine sS rfl rfl ?_
      refine sS rfl rfl ?_
      refine sS rfl rfl ?_
      refine sS rfl rfl ?_
      refine sS rfl rfl ?_
      refine sIald7 rfl rfl (fun z30 => ?_)
      refine sS rfl rfl ?_
      refine sS rfl rfl ?_
      refine sS rfl rfl ?_
      refine sS rfl rfl ?_
      refine sIald7 rfl rfl (fun z31 => ?_)
      refine sS rfl rfl ?_
      refine sC1 (c' := c + 2) rfl rfl rfl rfl rfl (hb 2 (by omega)) (ok_L_mayFollow d (by omega) h z30 z31) (fun z32 => ?_)
      refine sS rfl rfl ?_
      refine sS rfl rfl ?_
      refine sS rfl rfl ?_
      refine sS rfl rfl ?_
      refine sS rfl rfl ?_
      refine sS rfl rfl ?_
      refine sIald7 rfl rfl (fun z33 => ?_)
      refine sS rfl rfl ?_
      refine sS rfl rfl ?_
      refine sS rfl rfl ?_
      refine sS rfl rfl ?_
      refine sIald7 rfl rfl (fun z34 => ?_)
      refine sC1 (c' := c + 2) rfl rfl rfl rfl rfl (hb 2 (by omega)) (ok_X8_mayFollow d (by omega) z32.2 z33 z34) (fun z35 => ?_)
      refine sS rfl rfl ?_
      refine sS rfl rfl ?_
      refine sT1 (c' := c + 2) rfl rfl rfl rfl rfl (hb 2 (by omega)) (ok_X8_thrown d (by omega) z35.2) ?_
      refine sS rfl rfl ?_
      refine sB rfl rfl ?_ ?_
      · refine sS rfl rfl ?_
        refine sB rfl rfl ?_ ?_
        · refine sS rfl rfl ?_
          refine sS rfl rfl ?_
          refine sS rfl rfl ?_
          refine sM [true, true, true, true, true, false, false] rfl ?_
          exact sJ (fun h2 => h2 _ (by omega))
        · refine sS rfl rfl ?_
          refine sS rfl rfl ?_
          refine sLald rfl rfl (fun z36 => ?_)
          refine sS rfl rfl ?_
          refine sJn 508 (fun (v38 : Int64) => [some (.ref 167), some (.ref 0), some (.ref 122), some (.ref 166), some (.int i), none, none]) (fun (v38 : Int64) => [.long v38, .long z36]) (fun (v38 : Int64) => z35.2) (fun v38 => ?_) (fun k37 hk37 => ?_)
          · refine sS rfl rfl ?_
            refine sB rfl rfl ?_ ?_
            · refine sS rfl rfl ?_
              refine sS rfl rfl ?_
              refine sS rfl rfl ?_
              exact sJ (fun h2 => h2 _ (by omega))
            · refine sS rfl rfl ?_
              exact sR rfl rfl (fun hg => congrArg (fun y => (Sum.inl (some (Value.int y)) : PO)) hg)
          · refine sB rfl rfl ?_ ?_
            · refine sS rfl rfl ?_
              refine sM [true, true, true, true, true, false, false] rfl ?_
              have h3 := hk37 ((0 : Int64))
              try dsimp only at h3
              exact h3
            · refine sS rfl rfl ?_
              refine sS rfl rfl ?_
              refine sM [true, true, true, true, true, false, false] rfl ?_
              have h3 := hk37 ((1 : Int64))
              try dsimp only at h3
              exact h3
      · refine sS rfl rfl ?_
        exact sR rfl rfl (fun hg => congrArg (fun y => (Sum.inl (some (Value.int y)) : PO)) hg)
    refine sIf (fun q9 => ?_) (fun q9 => ?_)
    · rw [q9]
      refine sS rfl rfl ?_
      refine sS rfl rfl ?_
      refine sS rfl rfl ?_
      refine sS rfl rfl ?_
      refine sS rfl rfl ?_
      refine sS rfl rfl ?_
      refine sIald7 rfl rfl (fun z39 => ?_)
      refine sS rfl rfl ?_
      refine sS rfl rfl ?_
      refine sS rfl rfl ?_
      refine sS rfl rfl ?_
      refine sIald7 rfl rfl (fun z40 => ?_)
      refine sS rfl rfl ?_
      refine sC1 (c' := c + 2) rfl rfl rfl rfl rfl (hb 2 (by omega)) (ok_L_deadhead d (by omega) h z39 z40) (fun z41 => ?_)
      refine sS rfl rfl ?_
      refine sS rfl rfl ?_
      refine sS rfl rfl ?_
      refine sS rfl rfl ?_
      refine sS rfl rfl ?_
      refine sS rfl rfl ?_
      refine sIald7 rfl rfl (fun z42 => ?_)
      refine sS rfl rfl ?_
      refine sS rfl rfl ?_
      refine sS rfl rfl ?_
      refine sS rfl rfl ?_
      refine sIald7 rfl rfl (fun z43 => ?_)
      refine sC1 (c' := c + 2) rfl rfl rfl rfl rfl (hb 2 (by omega)) (ok_X8_deadhead d (by omega) z41.2 z42 z43) (fun z44 => ?_)
      refine sS rfl rfl ?_
      refine sS rfl rfl ?_
      refine sT1 (c' := c + 2) rfl rfl rfl rfl rfl (hb 2 (by omega)) (ok_X8_thrown d (by omega) z44.2) ?_
      refine sS rfl rfl ?_
      refine sB rfl rfl ?_ ?_
      · refine sS rfl rfl ?_
        refine sB rfl rfl ?_ ?_
        · refine sS rfl rfl ?_
          refine sS rfl rfl ?_
          refine sS rfl rfl ?_
          refine sM [true, true, true, true, true, false, false] rfl ?_
          exact sJ (fun h2 => h2 _ (by omega))
        · refine sS rfl rfl ?_
          refine sS rfl rfl ?_
          refine sLald rfl rfl (fun z45 => ?_)
          refine sS rfl rfl ?_
          refine sS rfl rfl ?_
          refine sS rfl rfl ?_
          refine sB rfl rfl ?_ ?_
          · refine sS rfl rfl ?_
            refine sS rfl rfl ?_
            refine sS rfl rfl ?_
            refine sM [true, true, true, true, true, false, false] rfl ?_
            exact sJ (fun h2 => h2 _ (by omega))
          · refine sS rfl rfl ?_
            exact sR rfl rfl (fun hg => congrArg (fun y => (Sum.inl (some (Value.int y)) : PO)) hg)
      · refine sS rfl rfl ?_
        exact sR rfl rfl (fun hg => congrArg (fun y => (Sum.inl (some (Value.int y)) : PO)) hg)
    refine sIf (fun q10 => ?_) (fun q10 => ?_)
    · rw [q10]
      refine sS rfl rfl ?_
      refine sS rfl rfl ?_
      refine sS rfl rfl ?_
      refine sS rfl rfl ?_
      refine sS rfl rfl ?_
      refine sS rfl rfl ?_
      refine sIald7 rfl rfl (fun z46 => ?_)
      refine sS rfl rfl ?_
      refine sS rfl rfl ?_
      refine sS rfl rfl ?_
      refine sS rfl rfl ?_
      refine sIald7 rfl rfl (fun z47 => ?_)
      refine sS rfl rfl ?_
      refine sC1 (c' := c + 2) rfl rfl rfl rfl rfl (hb 2 (by omega)) (ok_L_distance d (by omega) h z46 z47) (fun z48 => ?_)
      refine sS rfl rfl ?_
      refine sS rfl rfl ?_
      refine sS rfl rfl ?_
      refine sS rfl rfl ?_
      refine sS rfl rfl ?_
      refine sS rfl rfl ?_
      refine sIald7 rfl rfl (fun z49 => ?_)
      refine sS rfl rfl ?_
      refine sS rfl rfl ?_
      refine sS rfl rfl ?_
      refine sS rfl rfl ?_
      refine sIald7 rfl rfl (fun z50 => ?_)
      refine sC1 (c' := c + 2) rfl rfl rfl rfl rfl (hb 2 (by omega)) (ok_X8_distance d (by omega) z48.2 z49 z50) (fun z51 => ?_)
      refine sS rfl rfl ?_
      refine sS rfl rfl ?_
      refine sT1 (c' := c + 2) rfl rfl rfl rfl rfl (hb 2 (by omega)) (ok_X8_thrown d (by omega) z51.2) ?_
      refine sS rfl rfl ?_
      refine sB rfl rfl ?_ ?_
      · refine sS rfl rfl ?_
        refine sB rfl rfl ?_ ?_
        · refine sS rfl rfl ?_
          refine sS rfl rfl ?_
          refine sS rfl rfl ?_
          refine sM [true, true, true, true, true, false, false] rfl ?_
          exact sJ (fun h2 => h2 _ (by omega))
        · refine sS rfl rfl ?_
          refine sS rfl rfl ?_
          refine sLald rfl rfl (fun z52 => ?_)
          refine sS rfl rfl ?_
          refine sS rfl rfl ?_
          refine sS rfl rfl ?_
          refine sB rfl rfl ?_ ?_
          · refine sS rfl rfl ?_
            refine sS rfl rfl ?_
            refine sS rfl rfl ?_
            refine sM [true, true, true, true, true, false, false] rfl ?_
            exact sJ (fun h2 => h2 _ (by omega))
          · refine sS rfl rfl ?_
            exact sR rfl rfl (fun hg => congrArg (fun y => (Sum.inl (some (Value.int y)) : PO)) hg)
      · refine sS rfl rfl ?_
        exact sR rfl rfl (fun hg => congrArg (fun y => (Sum.inl (some (Value.int y)) : PO)) hg)
    refine sIf (fun q11 => ?_) (fun q11 => ?_)
    · rw [q11]
      refine sS rfl rfl ?_
      refine sS rfl rfl ?_
      refine sS rfl rfl ?_
      refine sS rfl rfl ?_
      refine sS rfl rfl ?_
      refine sS rfl rfl ?_
      refine sIald7 rfl rfl (fun z53 => ?_)
      refine sS rfl rfl ?_
      refine sC1 (c' := c + 1) rfl rfl rfl rfl rfl (hb 1 (by omega)) (ok_L_serviceCost d (by omega) h z53) (fun z54 => ?_)
      refine sS rfl rfl ?_
      refine sS rfl rfl ?_
      refine sS rfl rfl ?_
      refine sS rfl rfl ?_
      refine sS rfl rfl ?_
      refine sS rfl rfl ?_
      refine sIald7 rfl rfl (fun z55 => ?_)
      refine sC1 (c' := c + 1) rfl rfl rfl rfl rfl (hb 1 (by omega)) (ok_X8_serviceCost d (by omega) z54.2 z55) (fun z56 => ?_)
      refine sS rfl rfl ?_
      refine sS rfl rfl ?_
      refine sT1 (c' := c + 1) rfl rfl rfl rfl rfl (hb 1 (by omega)) (ok_X8_thrown d (by omega) z56.2) ?_
      refine sS rfl rfl ?_
      refine sB rfl rfl ?_ ?_
      · refine sS rfl rfl ?_
        refine sB rfl rfl ?_ ?_
        · refine sS rfl rfl ?_
          refine sS rfl rfl ?_
          refine sS rfl rfl ?_
          refine sM [true, true, true, true, true, false, false] rfl ?_
          exact sJ (fun h2 => h2 _ (by omega))
        · refine sS rfl rfl ?_
          refine sS rfl rfl ?_
          refine sLald rfl rfl (fun z57 => ?_)
          refine sS rfl rfl ?_
          refine sS rfl rfl ?_
          refine sS rfl rfl ?_
          refine sB rfl rfl ?_ ?_
          · refine sS rfl rfl ?_
            refine sS rfl rfl ?_
            refine sS rfl rfl ?_
            refine sM [true, true, true, true, true, false, false] rfl ?_
            exact sJ (fun h2 => h2 _ (by omega))
          · refine sS rfl rfl ?_
            exact sR rfl rfl (fun hg => congrArg (fun y => (Sum.inl (some (Value.int y)) : PO)) hg)
      · refine sS rfl rfl ?_
        exact sR rfl rfl (fun hg => congrArg (fun y => (Sum.inl (some (Value.int y)) : PO)) hg)
    refine sIf (fun q12 => ?_) (fun q12 => ?_)
    · rw [q12]
      refine sS rfl rfl ?_
      refine sS rfl rfl ?_
      refine sC1 (c' := c + 0) rfl rfl rfl rfl rfl (hb 0 (by omega)) (ok_X7_oddNodes d (by omega) h) (fun z58 => ?_)
      refine sS rfl rfl ?_
      refine sC1 (c' := c + 0) rfl rfl rfl rfl rfl (hb 0 (by omega)) (ok_X8_oddNodes d (by omega) h) (fun z59 => ?_)
      refine sB rfl rfl ?_ ?_
      · refine sS rfl rfl ?_
        refine sS rfl rfl ?_
        exact sJ (fun h2 => h2 _ (by omega))
      · refine sS rfl rfl ?_
        exact sR rfl rfl (fun hg => congrArg (fun y => (Sum.inl (some (Value.int y)) : PO)) hg)
    refine sIf (fun q13 => ?_) (fun q13 => ?_)
    · rw [q13]
      refine sS rfl rfl ?_
      refine sS rfl rfl ?_
      refine sC1 (c' := c + 0) rfl rfl rfl rfl rfl (hb 0 (by omega)) (ok_X7_matching d (by omega) h) (fun z60 => ?_)
      refine sS rfl rfl ?_
      refine sC1 (c' := c + 0) rfl rfl rfl rfl rfl (hb 0 (by omega)) (ok_X8_matching d (by omega) h) (fun z61 => ?_)
      refine sB rfl rfl ?_ ?_
      · refine sS rfl rfl ?_
        refine sS rfl rfl ?_
        exact sJ (fun h2 => h2 _ (by omega))
      · refine sS rfl rfl ?_
        exact sR rfl rfl (fun hg => congrArg (fun y => (Sum.inl (some (Value.int y)) : PO)) hg)
    refine sIf (fun q14 => ?_) (fun q14 => ?_)
    · rw [q14]
      refine sS rfl rfl ?_
      refine sS rfl rfl ?_
      refine sS rfl rfl ?_
      refine sS rfl rfl ?_
      refine sS rfl rfl ?_
      refine sS rfl rfl ?_
      refine sIald7 rfl rfl (fun z62 => ?_)
      refine sS rfl rfl ?_
      refine sC1 (c' := c + 1) rfl rfl rfl rfl rfl (hb 1 (by omega)) (ok_L_depotOf d (by omega) h z62) (fun z63 => ?_)
      refine sS rfl rfl ?_
      refine sS rfl rfl ?_
      refine sS rfl rfl ?_
      refine sS rfl rfl ?_
      refine sS rfl rfl ?_
      refine sS rfl rfl ?_
      refine sIald7 rfl rfl (fun z64 => ?_)
      refine sC1 (c' := c + 1) rfl rfl rfl rfl rfl (hb 1 (by omega)) (ok_X8_depotOf d (by omega) z63.2 z64) (fun z65 => ?_)
      refine sS rfl rfl ?_
      refine sS rfl rfl ?_
      refine sT1 (c' := c + 1) rfl rfl rfl rfl rfl (hb 1 (by omega)) (ok_X8_thrown d (by omega) z65.2) ?_
      refine sS rfl rfl ?_
      refine sB rfl rfl ?_ ?_
      · refine sS rfl rfl ?_
        refine sB rfl rfl ?_ ?_
        · refine sS rfl rfl ?_
          refine sS rfl rfl ?_
          refine sS rfl rfl ?_
          refine sM [true, true, true, true, true, false, false] rfl ?_
          exact sJ (fun h2 => h2 _ (by omega))
        · refine sS rfl rfl ?_
          refine sS rfl rfl ?_
          refine sLald rfl rfl (fun z66 => ?_)
          refine sS rfl rfl ?_
          refine sS rfl rfl ?_
          refine sS rfl rfl ?_
          refine sB rfl rfl ?_ ?_
          · refine sS rfl rfl ?_
            refine sS rfl rfl ?_
            refine sS rfl rfl ?_
            refine sM [true, true, true, true, true, false, false] rfl ?_
            exact sJ (fun h2 => h2 _ (by omega))
          · refine sS rfl rfl ?_
            exact sR rfl rfl (fun hg => congrArg (fun y => (Sum.inl (some (Value.int y)) : PO)) hg)
      · refine sS rfl rfl ?_
        exact sR rfl rfl (fun hg => congrArg (fun y => (Sum.inl (some (Value.int y)) : PO)) hg)
    refine sIf (fun q15 => ?_) (fun q15 => ?_)
    · rw [q15]
      refine sS rfl rfl ?_
      refine sS rfl rfl ?_
      refine sS rfl rfl ?_
      refine sS rfl rfl ?_
      refine sS rfl rfl ?_
      refine sS rfl rfl ?_
      refine sIald7 rfl rfl (fun z67 => ?_)
      refine sS rfl rfl ?_
      refine sC1 (c' := c + 1) rfl rfl rfl rfl rfl (hb 1 (by omega)) (ok_L_length d (by omega) h z67) (fun z68 => ?_)
      refine sS rfl rfl ?_
      refine sS rfl rfl ?_
      refine sS rfl rfl ?_
      refine sS rfl rfl ?_
      refine sS rfl rfl ?_
      refine sS rfl rfl ?_
      refine sIald7 rfl rfl (fun z69 => ?_)
      refine sC1 (c' := c + 1) rfl rfl rfl rfl rfl (hb 1 (by omega)) (ok_X8_length d (by omega) z68.2 z69) (fun z70 => ?_)
      refine sS rfl rfl ?_
      refine sS rfl rfl ?_
      refine sT1 (c' := c + 1) rfl rfl rfl rfl rfl (hb 1 (by omega)) (ok_X8_thrown d (by omega) z70.2) ?_
      refine sS rfl rfl ?_
      refine sB rfl rfl ?_ ?_
      · refine sS rfl rfl ?_
        refine sB rfl rfl ?_ ?_
        · refine sS rfl rfl ?_
          refine sS rfl rfl ?_
          refine sS rfl rfl ?_
          refine sM [true, true, true, true, true, false, false] rfl ?_
          exact sJ (fun h2 => h2 _ (by omega))
        · refine sS rfl rfl ?_
          refine sS rfl rfl ?_
          refine sLald rfl rfl (fun z71 => ?_)
          refine sS rfl rfl ?_
          refine sS rfl rfl ?_
          refine sS rfl rfl ?_
          refine sB rfl rfl ?_ ?_
          · refine sS rfl rfl ?_
            refine sS rfl rfl ?_
            refine sS rfl rfl ?_
            refine sM [true, true, true, true, true, false, false] rfl ?_
            exact sJ (fun h2 => h2 _ (by omega))
          · refine sS rfl rfl ?_
            exact sR rfl rfl (fun hg => congrArg (fun y => (Sum.inl (some (Value.int y)) : PO)) hg)
      · refine sS rfl rfl ?_
        exact sR rfl rfl (fun hg => congrArg (fun y => (Sum.inl (some (Value.int y)) : PO)) hg)
    refine sIf (fun q16 => ?_) (fun q16 => ?_)
    · rw [q16]
      refine sS rfl rfl ?_
      refine sS rfl rfl ?_
      refine sS rfl rfl ?_
      refine sS rfl rfl ?_
      refine sS rfl rfl ?_
      refine sS rfl rfl ?_
      refine sIald7 rfl rfl (fun z72 => ?_)
      refine sS rfl rfl ?_
      refine sS rfl rfl ?_
      refine sS rfl rfl ?_
      refine sS rfl rfl ?_
      refine sIald7 rfl rfl (fun z73 => ?_)
      refine sS rfl rfl ?_
      refine sC1 (c' := c + 2) rfl rfl rfl rfl rfl (hb 2 (by omega)) (ok_L_arcAt d (by omega) h z72 z73) (fun z74 => ?_)
      refine sS rfl rfl ?_
      refine sS rfl rfl ?_
      refine sS rfl rfl ?_
      refine sS rfl rfl ?_
      refine sS rfl rfl ?_
      refine sS rfl rfl ?_
      refine sIald7 rfl rfl (fun z75 => ?_)
      refine sS rfl rfl ?_
      refine sS rfl rfl ?_
      refine sS rfl rfl ?_
      refine sS rfl rfl ?_
      refine sIald7 rfl rfl (fun z76 => ?_)
      refine sC1 (c' := c + 2) rfl rfl rfl rfl rfl (hb 2 (by omega)) (ok_X8_arcAt d (by omega) z74.2 z75 z76) (fun z77 => ?_)
      refine sS rfl rfl ?_
      refine sS rfl rfl ?_
      refine sT1 (c' := c + 2) rfl rfl rfl rfl rfl (hb 2 (by omega)) (ok_X8_thrown d (by omega) z77.2) ?_
      refine sS rfl rfl ?_
      refine sB rfl rfl ?_ ?_
      · refine sS rfl rfl ?_
        refine sB rfl rfl ?_ ?_
        · refine sS rfl rfl ?_
          refine sS rfl rfl ?_
          refine sS rfl rfl ?_
          refine sM [true, true, true, true, true, false, false] rfl ?_
          exact sJ (fun h2 => h2 _ (by omega))
        · refine sS rfl rfl ?_
          refine sS rfl rfl ?_
          refine sLald rfl rfl (fun z78 => ?_)
          refine sS rfl rfl ?_
          refine sS rfl rfl ?_
          refine sS rfl rfl ?_
          refine sB rfl rfl ?_ ?_
          · refine sS rfl rfl ?_
            refine sS rfl rfl ?_
            refine sS rfl rfl ?_
            refine sM [true, true, true, true, true, false, false] rfl ?_
            exact sJ (fun h2 => h2 _ (by omega))
          · refine sS rfl rfl ?_
            exact sR rfl rfl (fun hg => congrArg (fun y => (Sum.inl (some (Value.int y)) : PO)) hg)
      · refine sS rfl rfl ?_
        exact sR rfl rfl (fun hg => congrArg (fun y => (Sum.inl (some (Value.int y)) : PO)) hg)
    refine sIf (fun q17 => ?_) (fun q17 => ?_)
    · rw [q17]
      refine sS rfl rfl ?_
      refine sS rfl rfl ?_
      refine sS rfl rfl ?_
      refine sS rfl rfl ?_
      refine sS rfl rfl ?_
      refine sS rfl rfl ?_
      refine sIald7 rfl rfl (fun z79 => ?_)
      refine sS rfl rfl ?_
      refine sC1 (c' := c + 1) rfl rfl rfl rfl rfl (hb 1 (by omega)) (ok_L_loadOf d (by omega) h z79) (fun z80 => ?_)
      refine sS rfl rfl ?_
      refine sS rfl rfl ?_
      refine sS rfl rfl ?_
      refine sS rfl rfl ?_
      refine sS rfl rfl ?_
      refine sS rfl rfl ?_
      refine sIald7 rfl rfl (fun z81 => ?_)
      refine sC1 (c' := c + 1) rfl rfl rfl rfl rfl (hb 1 (by omega)) (ok_X8_loadOf d (by omega) z80.2 z81) (fun z82 => ?_)
      refine sS rfl rfl ?_
      refine sS rfl rfl ?_
      refine sT1 (c' := c + 1) rfl rfl rfl rfl rfl (hb 1 (by omega)) (ok_X8_thrown d (by omega) z82.2) ?_
      refine sS rfl rfl ?_
      refine sB rfl rfl ?_ ?_
      · refine sS rfl rfl ?_
        refine sB rfl rfl ?_ ?_
        · refine sS rfl rfl ?_
          refine sS rfl rfl ?_
          refine sS rfl rfl ?_
          refine sM [true, true, true, true, true, false, false] rfl ?_
          exact sJ (fun h2 => h2 _ (by omega))
        · refine sS rfl rfl ?_
          refine sS rfl rfl ?_
          refine sLald rfl rfl (fun z83 => ?_)
          refine sS rfl rfl ?_
          refine sS rfl rfl ?_
          refine sS rfl rfl ?_
          refine sB rfl rfl ?_ ?_
          · refine sS rfl rfl ?_
            refine sS rfl rfl ?_
            refine sS rfl rfl ?_
            refine sM [true, true, true, true, true, false, false] rfl ?_
            exact sJ (fun h2 => h2 _ (by omega))
          · refine sS rfl rfl ?_
            exact sR rfl rfl (fun hg => congrArg (fun y => (Sum.inl (some (Value.int y)) : PO)) hg)
      · refine sS rfl rfl ?_
        exact sR rfl rfl (fun hg => congrArg (fun y => (Sum.inl (some (Value.int y)) : PO)) hg)
    refine sIf (fun q18 => ?_) (fun q18 => ?_)
    · rw [q18]
      refine sS rfl rfl ?_
      refine sS rfl rfl ?_
      refine sS rfl rfl ?_
      refine sS rfl rfl ?_
      refine sS rfl rfl ?_
      refine sS rfl rfl ?_
      refine sIald7 rfl rfl (fun z84 => ?_)
      refine sS rfl rfl ?_
      refine sC1 (c' := c + 1) rfl rfl rfl rfl rfl (hb 1 (by omega)) (ok_L_tourCost d (by omega) h z84) (fun z85 => ?_)
      refine sS rfl rfl ?_
      refine sS rfl rfl ?_
      refine sS rfl rfl ?_
      refine sS rfl rfl ?_
      refine sS rfl rfl ?_
      refine sS rfl rfl ?_
      refine sIald7 rfl rfl (fun z86 => ?_)
      refine sC1 (c' := c + 1) rfl rfl rfl rfl rfl (hb 1 (by omega)) (ok_X8_tourCost d (by omega) z85.2 z86) (fun z87 => ?_)
      refine sS rfl rfl ?_
      refine sS rfl rfl ?_
      refine sT1 (c' := c + 1) rfl rfl rfl rfl rfl (hb 1 (by omega)) (ok_X8_thrown d (by omega) z87.2) ?_
      refine sS rfl rfl ?_
      refine sB rfl rfl ?_ ?_
      · refine sS rfl rfl ?_
        refine sB rfl rfl ?_ ?_
        · refine sS rfl rfl ?_
          refine sS rfl rfl ?_
          refine sS rfl rfl ?_
          refine sM [true, true, true, true, true, false, false] rfl ?_
          exact sJ (fun h2 => h2 _ (by omega))
        · refine sS rfl rfl ?_
          refine sS rfl rfl ?_
          refine sLald rfl rfl (fun z88 => ?_)
          refine sS rfl rfl ?_
          refine sS rfl rfl ?_
          refine sS rfl rfl ?_
          refine sB rfl rfl ?_ ?_
          · refine sS rfl rfl ?_
            refine sS rfl rfl ?_
            refine sS rfl rfl ?_
            refine sM [true, true, true, true, true, false, false] rfl ?_
            exact sJ (fun h2 => h2 _ (by omega))
          · refine sS rfl rfl ?_
            exact sR rfl rfl (fun hg => congrArg (fun y => (Sum.inl (some (Value.int y)) : PO)) hg)
      · refine sS rfl rfl ?_
        exact sR rfl rfl (fun hg => congrArg (fun y => (Sum.inl (some (Value.int y)) : PO)) hg)
    refine sIf (fun q19 => ?_) (fun q19 => ?_)
    · rw [q19]
      refine sS rfl rfl ?_
      refine sS rfl rfl ?_
      refine sC1 (c' := c + 0) rfl rfl rfl rfl rfl (hb 0 (by omega)) (ok_X7_totalCost d (by omega) h) (fun z89 => ?_)
      refine sS rfl rfl ?_
      refine sC1 (c' := c + 0) rfl rfl rfl rfl rfl (hb 0 (by omega)) (ok_X8_totalCost d (by omega) h) (fun z90 => ?_)
      refine sB rfl rfl ?_ ?_
      · refine sS rfl rfl ?_
        refine sS rfl rfl ?_
        exact sJ (fun h2 => h2 _ (by omega))
      · refine sS rfl rfl ?_
        exact sR rfl rfl (fun hg => congrArg (fun y => (Sum.inl (some (Value.int y)) : PO)) hg)
    refine sIf (fun q20 => ?_) (fun q20 => ?_)
    · rw [q20]
      refine sS rfl rfl ?_
      refine sS rfl rfl ?_
      refine sC1 (c' := c + 0) rfl rfl rfl rfl rfl (hb 0 (by omega)) (ok_X7_unserved d (by omega) h) (fun z91 => ?_)
      refine sS rfl rfl ?_
      refine sC1 (c' := c + 0) rfl rfl rfl rfl rfl (hb 0 (by omega)) (ok_X8_unserved d (by omega) h) (fun z92 => ?_)
      refine sB rfl rfl ?_ ?_
      · refine sS rfl rfl ?_
        refine sS rfl rfl ?_
        exact sJ (fun h2 => h2 _ (by omega))
      · refine sS rfl rfl ?_
        exact sR rfl rfl (fun hg => congrArg (fun y => (Sum.inl (some (Value.int y)) : PO)) hg)
    refine sIf (fun q21 => ?_) (fun q21 => ?_)
    · rw [q21]
      refine sS rfl rfl ?_
      refine sS rfl rfl ?_
      refine sS rfl rfl ?_
      refine sS rfl rfl ?_
      refine sS rfl rfl ?_
      refine sS rfl rfl ?_
      refine sIald7 rfl rfl (fun z93 => ?_)
      refine sS rfl rfl ?_
      refine sC1 (c' := c + 1) rfl rfl rfl rfl rfl (hb 1 (by omega)) (ok_L_tourOf d (by omega) h z93) (fun z94 => ?_)
      refine sS rfl rfl ?_
      refine sS rfl rfl ?_
      refine sS rfl rfl ?_
      refine sS rfl rfl ?_
      refine sS rfl rfl ?_
      refine sS rfl rfl ?_
      refine sIald7 rfl rfl (fun z95 => ?_)
      refine sC1 (c' := c + 1) rfl rfl rfl rfl rfl (hb 1 (by omega)) (ok_X8_tourOf d (by omega) z94.2 z95) (fun z96 => ?_)
      refine sS rfl rfl ?_
      refine sS rfl rfl ?_
      refine sT1 (c' := c + 1) rfl rfl rfl rfl rfl (hb 1 (by omega)) (ok_X8_thrown d (by omega) z96.2) ?_
      refine sS rfl rfl ?_
      refine sB rfl rfl ?_ ?_
      · refine sS rfl rfl ?_
        refine sB rfl rfl ?_ ?_
        · refine sS rfl rfl ?_
          refine sS rfl rfl ?_
          refine sS rfl rfl ?_
          refine sM [true, true, true, true, true, false, false] rfl ?_
          exact sJ (fun h2 => h2 _ (by omega))
        · refine sS rfl rfl ?_
          refine sS rfl rfl ?_
          refine sLald rfl rfl (fun z97 => ?_)
          refine sS rfl rfl ?_
          refine sS rfl rfl ?_
          refine sS rfl rfl ?_
          refine sB rfl rfl ?_ ?_
          · refine sS rfl rfl ?_
            refine sS rfl rfl ?_
            refine sS rfl rfl ?_
            refine sM [true, true, true, true, true, false, false] rfl ?_
            exact sJ (fun h2 => h2 _ (by omega))
          · refine sS rfl rfl ?_
            exact sR rfl rfl (fun hg => congrArg (fun y => (Sum.inl (some (Value.int y)) : PO)) hg)
      · refine sS rfl rfl ?_
        exact sR rfl rfl (fun hg => congrArg (fun y => (Sum.inl (some (Value.int y)) : PO)) hg)
    refine sIf (fun q22 => ?_) (fun q22 => ?_)
    · rw [q22]
      refine sS rfl rfl ?_
      refine sS rfl rfl ?_
      refine sS rfl rfl ?_
      refine sS rfl rfl ?_
      refine sS rfl rfl ?_
      refine sS rfl rfl ?_
      refine sIald7 rfl rfl (fun z98 => ?_)
      refine sS rfl rfl ?_
      refine sC1 (c' := c + 2) rfl rfl rfl rfl rfl (hb 2 (by omega)) (ok_L_bestInsertion d (by omega) h z98) (fun z99 => ?_)
      refine sS rfl rfl ?_
      refine sS rfl rfl ?_
      refine sS rfl rfl ?_
      refine sS rfl rfl ?_
      refine sS rfl rfl ?_
      refine sS rfl rfl ?_
      refine sIald7 rfl rfl (fun z100 => ?_)
      refine sC1 (c' := c + 2) rfl rfl rfl rfl rfl (hb 2 (by omega)) (ok_X8_bestInsertion d (by omega) z99.2 z100) (fun z101 => ?_)
      refine sS rfl rfl ?_
      refine sS rfl rfl ?_
      refine sT1 (c' := c + 2) rfl rfl rfl rfl rfl (hb 2 (by omega)) (ok_X8_thrown d (by omega) z101.2) ?_
      refine sS rfl rfl ?_
      refine sB rfl rfl ?_ ?_
      · refine sS rfl rfl ?_
        refine sB rfl rfl ?_ ?_
        · refine sS rfl rfl ?_
          refine sS rfl rfl ?_
          refine sS rfl rfl ?_
          refine sM [true, true, true, true, true, false, false] rfl ?_
          exact sJ (fun h2 => h2 _ (by omega))
        · refine sS rfl rfl ?_
          refine sS rfl rfl ?_
          refine sLald rfl rfl (fun z102 => ?_)
          refine sS rfl rfl ?_
          refine sS rfl rfl ?_
          refine sS rfl rfl ?_
          refine sB rfl rfl ?_ ?_
          · refine sS rfl rfl ?_
            refine sS rfl rfl ?_
            refine sS rfl rfl ?_
            refine sM [true, true, true, true, true, false, false] rfl ?_
            exact sJ (fun h2 => h2 _ (by omega))
          · refine sS rfl rfl ?_
            exact sR rfl rfl (fun hg => congrArg (fun y => (Sum.inl (some (Value.int y)) : PO)) hg)
      · refine sS rfl rfl ?_
        exact sR rfl rfl (fun hg => congrArg (fun y => (Sum.inl (some (Value.int y)) : PO)) hg)
    refine sIf (fun q23 => ?_) (fun q23 => ?_)
    · rw [q23]
      refine sS rfl rfl ?_
      refine sS rfl rfl ?_
      refine sS rfl rfl ?_
      refine sS rfl rfl ?_
      refine sS rfl rfl ?_
      refine sS rfl rfl ?_
      refine sIald7 rfl rfl (fun z103 => ?_)
      refine sS rfl rfl ?_
      refine sC1 (c' := c + 2) rfl rfl rfl rfl rfl (hb 2 (by omega)) (ok_L_openTour d (by omega) h z103) (fun z104 => ?_)
      refine sS rfl rfl ?_
      refine sS rfl rfl ?_
      refine sS rfl rfl ?_
      refine sS rfl rfl ?_
      refine sS rfl rfl ?_
      refine sS rfl rfl ?_
      refine sIald7 rfl rfl (fun z105 => ?_)
      refine sC1 (c' := c + 2) rfl rfl rfl rfl rfl (hb 2 (by omega)) (ok_X8_openTour d (by omega) z104.2 z105) (fun z106 => ?_)
      refine sS rfl rfl ?_
      refine sS rfl rfl ?_
      refine sT1 (c' := c + 2) rfl rfl rfl rfl rfl (hb 2 (by omega)) (ok_X8_thrown d (by omega) z106.2) ?_
      refine sS rfl rfl ?_
      refine sB rfl rfl ?_ ?_
      · refine sS rfl rfl ?_
        refine sB rfl rfl ?_ ?_
        · refine sS rfl rfl ?_
          refine sS rfl rfl ?_
          refine sS rfl rfl ?_
          refine sM [true, true, true, true, true, false, false] rfl ?_
          exact sJ (fun h2 => h2 _ (by omega))
        · refine sS rfl rfl ?_
          refine sS rfl rfl ?_
          refine sLald rfl rfl (fun z107 => ?_)
          refine sS rfl rfl ?_
          refine sS rfl rfl ?_
          refine sS rfl rfl ?_
          refine sB rfl rfl ?_ ?_
          · refine sS rfl rfl ?_
            refine sS rfl rfl ?_
            refine sS rfl rfl ?_
            refine sM [true, true, true, true, true, false, false] rfl ?_
            exact sJ (fun h2 => h2 _ (by omega))
          · refine sS rfl rfl ?_
            exact sR rfl rfl (fun hg => congrArg (fun y => (Sum.inl (some (Value.int y)) : PO)) hg)
      · refine sS rfl rfl ?_
        exact sR rfl rfl (fun hg => congrArg (fun y => (Sum.inl (some (Value.int y)) : PO)) hg)
    refine sIf (fun q24 => ?_) (fun q24 => ?_)
    · rw [q24]
      refine sS rfl rfl ?_
      refine sS rfl rfl ?_
      refine sS rfl rfl ?_
      refine sS rfl rfl ?_
      refine sS rfl rfl ?_
      refine sS rfl rfl ?_
      refine sIald7 rfl rfl (fun z108 => ?_)
      refine sS rfl rfl ?_
      refine sS rfl rfl ?_
      refine sS rfl rfl ?_
      refine sS rfl rfl ?_
      refine sIald7 rfl rfl (fun z109 => ?_)
      refine sS rfl rfl ?_
      refine sS rfl rfl ?_
      refine sS rfl rfl ?_
      refine sS rfl rfl ?_
      refine sIald7 rfl rfl (fun z110 => ?_)
      refine sS rfl rfl ?_
      refine sC1 (c' := c + 5) rfl rfl rfl rfl rfl (hb 5 (by omega)) (ok_L_insert d (by omega) h z108 z109 z110) (fun z111 => ?_)
      refine sS rfl rfl ?_
      refine sS rfl rfl ?_
      refine sS rfl rfl ?_
      refine sS rfl rfl ?_
      refine sS rfl rfl ?_
      refine sS rfl rfl ?_
      refine sIald7 rfl rfl (fun z112 => ?_)
      refine sS rfl rfl ?_
      refine sS rfl rfl ?_
      refine sS rfl rfl ?_
      refine sS rfl rfl ?_
      refine sIald7 rfl rfl (fun z113 => ?_)
      refine sS rfl rfl ?_
      refine sS rfl rfl ?_
      refine sS rfl rfl ?_
      refine sS rfl rfl ?_
      refine sIald7 rfl rfl (fun z114 => ?_)
      refine sC1 (c' := c + 5) rfl rfl rfl rfl rfl (hb 5 (by omega)) (ok_X8_insert d (by omega) z111.2 z112 z113 z114) (fun z115 => ?_)
      refine sS rfl rfl ?_
      refine sS rfl rfl ?_
      refine sT1 (c' := c + 5) rfl rfl rfl rfl rfl (hb 5 (by omega)) (ok_X8_thrown d (by omega) z115.2) ?_
      refine sS rfl rfl ?_
      refine sB rfl rfl ?_ ?_
      · refine sS rfl rfl ?_
        refine sB rfl rfl ?_ ?_
        · refine sS rfl rfl ?_
          refine sS rfl rfl ?_
          refine sS rfl rfl ?_
          refine sM [true, true, true, true, true, false, false] rfl ?_
          exact sJ (fun h2 => h2 _ (by omega))
        · refine sS rfl rfl ?_
          refine sS rfl rfl ?_
          refine sLald rfl rfl (fun z116 => ?_)
          refine sS rfl rfl ?_
          refine sS rfl rfl ?_
          refine sS rfl rfl ?_
          refine sB rfl rfl ?_ ?_
          · refine sS rfl rfl ?_
            refine sS rfl rfl ?_
            refine sS rfl rfl ?_
            refine sM [true, true, true, true, true, false, false] rfl ?_
            exact sJ (fun h2 => h2 _ (by omega))
          · refine sS rfl rfl ?_
            exact sR rfl rfl (fun hg => congrArg (fun y => (Sum.inl (some (Value.int y)) : PO)) hg)
      · refine sS rfl rfl ?_
        exact sR rfl rfl (fun hg => congrArg (fun y => (Sum.inl (some (Value.int y)) : PO)) hg)
    refine sIf (fun q25 => ?_) (fun q25 => ?_)
    · rw [q25]
      refine sS rfl rfl ?_
      refine sS rfl rfl ?_
      refine sS rfl rfl ?_
      refine sS rfl rfl ?_
      refine sS rfl rfl ?_
      refine sS rfl rfl ?_
      refine sIald7 rfl rfl (fun z117 => ?_)
      refine sS rfl rfl ?_
      refine sC1 (c' := c + 3) rfl rfl rfl rfl rfl (hb 3 (by omega)) (ok_L_drop d (by omega) h z117) (fun z118 => ?_)
      refine sS rfl rfl ?_
      refine sS rfl rfl ?_
      refine sS rfl rfl ?_
      refine sS rfl rfl ?_
      refine sS rfl rfl ?_
      refine sS rfl rfl ?_
      refine sIald7 rfl rfl (fun z119 => ?_)
      refine sC1 (c' := c + 3) rfl rfl rfl rfl rfl (hb 3 (by omega)) (ok_X8_drop d (by omega) z118.2 z119) (fun z120 => ?_)
      refine sS rfl rfl ?_
      refine sS rfl rfl ?_
      refine sT1 (c' := c + 3) rfl rfl rfl rfl rfl (hb 3 (by omega)) (ok_X8_thrown d (by omega) z120.2) ?_
      refine sS rfl rfl ?_
      refine sB rfl rfl ?_ ?_
      · refine sS rfl rfl ?_
        refine sB rfl rfl ?_ ?_
        · refine sS rfl rfl ?_
          refine sS rfl rfl ?_
          refine sS rfl rfl ?_
          refine sM [true, true, true, true, true, false, false] rfl ?_
          exact sJ (fun h2 => h2 _ (by omega))
        · refine sS rfl rfl ?_
          refine sS rfl rfl ?_
          refine sLald rfl rfl (fun z121 => ?_)
          refine sS rfl rfl ?_
          refine sS rfl rfl ?_
          refine sS rfl rfl ?_
          refine sB rfl rfl ?_ ?_
          · refine sS rfl rfl ?_
            refine sS rfl rfl ?_
            refine sS rfl rfl ?_
            refine sM [true, true, true, true, true, false, false] rfl ?_
            exact sJ (fun h2 => h2 _ (by omega))
          · refine sS rfl rfl ?_
            exact sR rfl rfl (fun hg => congrArg (fun y => (Sum.inl (some (Value.int y)) : PO)) hg)
      · refine sS rfl rfl ?_
        exact sR rfl rfl (fun hg => congrArg (fun y => (Sum.inl (some (Value.int y)) : PO)) hg)
    refine sIf (fun q26 => ?_) (fun q26 => ?_)
    · rw [q26]
      refine sS rfl rfl ?_
      refine sS rfl rfl ?_
      refine sS rfl rfl ?_
      refine sS rfl rfl ?_
      refine sS rfl rfl ?_
      refine sS rfl rfl ?_
      refine sIald7 rfl rfl (fun z122 => ?_)
      refine sS rfl rfl ?_
      refine sC1 (c' := c + 3) rfl rfl rfl rfl rfl (hb 3 (by omega)) (ok_L_flip d (by omega) h z122) (fun z123 => ?_)
      refine sS rfl rfl ?_
      refine sS rfl rfl ?_
      refine sS rfl rfl ?_
      refine sS rfl rfl ?_
      refine sS rfl rfl ?_
      refine sS rfl rfl ?_
      refine sIald7 rfl rfl (fun z124 => ?_)
      refine sC1 (c' := c + 3) rfl rfl rfl rfl rfl (hb 3 (by omega)) (ok_X8_flip d (by omega) z123.2 z124) (fun z125 => ?_)
      refine sS rfl rfl ?_
      refine sS rfl rfl ?_
      refine sT1 (c' := c + 3) rfl rfl rfl rfl rfl (hb 3 (by omega)) (ok_X8_thrown d (by omega) z125.2) ?_
      refine sS rfl rfl ?_
      refine sB rfl rfl ?_ ?_
      · refine sS rfl rfl ?_
        refine sB rfl rfl ?_ ?_
        · refine sS rfl rfl ?_
          refine sS rfl rfl ?_
          refine sS rfl rfl ?_
          refine sM [true, true, true, true, true, false, false] rfl ?_
          exact sJ (fun h2 => h2 _ (by omega))
        · refine sS rfl rfl ?_
          refine sS rfl rfl ?_
          refine sLald rfl rfl (fun z126 => ?_)
          refine sS rfl rfl ?_
          refine sS rfl rfl ?_
          refine sS rfl rfl ?_
          refine sB rfl rfl ?_ ?_
          · refine sS rfl rfl ?_
            refine sS rfl rfl ?_
            refine sS rfl rfl ?_
            refine sM [true, true, true, true, true, false, false] rfl ?_
            exact sJ (fun h2 => h2 _ (by omega))
          · refine sS rfl rfl ?_
            exact sR rfl rfl (fun hg => congrArg (fun y => (Sum.inl (some (Value.int y)) : PO)) hg)
      · refine sS rfl rfl ?_
        exact sR rfl rfl (fun hg => congrArg (fun y => (Sum.inl (some (Value.int y)) : PO)) hg)
    refine sIf (fun q27 => ?_) (fun q27 => ?_)
    · rw [q27]
      refine sS rfl rfl ?_
      refine sS rfl rfl ?_
      refine sC1 (c' := c + 0) rfl rfl rfl rfl rfl (hb 0 (by omega)) (ok_X7_build d (by omega) h) (fun z127 => ?_)
      refine sS rfl rfl ?_
      refine sC1 (c' := c + 0) rfl rfl rfl rfl rfl (hb 0 (by omega)) (ok_X8_build d (by omega) z127.2) (fun z128 => ?_)
      refine sB rfl rfl ?_ ?_
      · refine sS rfl rfl ?_
        refine sS rfl rfl ?_
        exact sJ (fun h2 => h2 _ (by omega))
      · refine sS rfl rfl ?_
        exact sR rfl rfl (fun hg => congrArg (fun y => (Sum.inl (some (Value.int y)) : PO)) hg)
    refine sIf (fun q28 => ?_) (fun q28 => ?_)
    · rw [q28]
      refine sS rfl rfl ?_
      refine sS rfl rfl ?_
      refine sS rfl rfl ?_
      refine sS rfl rfl ?_
      refine sS rfl rfl ?_
      refine sS rfl rfl ?_
      refine sIald7 rfl rfl (fun z129 => ?_)
      refine sS rfl rfl ?_
      refine sC1 (c' := c + 1) rfl rfl rfl rfl rfl (hb 1 (by omega)) (ok_L_improve d (by omega) h z129) (fun z130 => ?_)
      refine sS rfl rfl ?_
      refine sS rfl rfl ?_
      refine sS rfl rfl ?_
      refine sS rfl rfl ?_
      refine sS rfl rfl ?_
      refine sS rfl rfl ?_
      refine sIald7 rfl rfl (fun z131 => ?_)
      refine sC1 (c' := c + 1) rfl rfl rfl rfl rfl (hb 1 (by omega)) (ok_X8_improve d (by omega) z130.2 z131) (fun z132 => ?_)
      refine sS rfl rfl ?_
      refine sS rfl rfl ?_
      refine sT1 (c' := c + 1) rfl rfl rfl rfl rfl (hb 1 (by omega)) (ok_X8_thrown d (by omega) z132.2) ?_
      refine sS rfl rfl ?_
      refine sB rfl rfl ?_ ?_
      · refine sS rfl rfl ?_
        refine sB rfl rfl ?_ ?_
        · refine sS rfl rfl ?_
          refine sS rfl rfl ?_
          refine sS rfl rfl ?_
          refine sM [true, true, true, true, true, false, false] rfl ?_
          exact sJ (fun h2 => h2 _ (by omega))
        · refine sS rfl rfl ?_
          refine sS rfl rfl ?_
          refine sLald rfl rfl (fun z133 => ?_)
          refine sS rfl rfl ?_
          refine sS rfl rfl ?_
          refine sS rfl rfl ?_
          refine sB rfl rfl ?_ ?_
          · refine sS rfl rfl ?_
            refine sS rfl rfl ?_
            refine sS rfl rfl ?_
            refine sM [true, true, true, true, true, false, false] rfl ?_
            exact sJ (fun h2 => h2 _ (by omega))
          · refine sS rfl rfl ?_
            exact sR rfl rfl (fun hg => congrArg (fun y => (Sum.inl (some (Value.int y)) : PO)) hg)
      · refine sS rfl rfl ?_
        exact sR rfl rfl (fun hg => congrArg (fun y => (Sum.inl (some (Value.int y)) : PO)) hg)
    refine sIf (fun q29 => ?_) (fun q29 => ?_)
    · rw [q29]
      refine sS rfl rfl ?_
      refine sS rfl rfl ?_
      refine sC1 (c' := c + 0) rfl rfl rfl rfl rfl (hb 0 (by omega)) (ok_X7_undo d (by omega) h) (fun z134 => ?_)
      refine sS rfl rfl ?_
      refine sC1 (c' := c + 0) rfl rfl rfl rfl rfl (hb 0 (by omega)) (ok_X8_undo d (by omega) z134.2) (fun z135 => ?_)
      refine sB rfl rfl ?_ ?_
      · refine sS rfl rfl ?_
        refine sS rfl rfl ?_
        exact sJ (fun h2 => h2 _ (by omega))
      · refine sS rfl rfl ?_
        exact sR rfl rfl (fun hg => congrArg (fun y => (Sum.inl (some (Value.int y)) : PO)) hg)
    refine sIf (fun q30 => ?_) (fun q30 => ?_)
    · rw [q30]
      refine sS rfl rfl ?_
      refine sS rfl rfl ?_
      refine sC1 (c' := c + 0) rfl rfl rfl rfl rfl (hb 0 (by omega)) (ok_X7_checksum d (by omega) h) (fun z136 => ?_)
      refine sS rfl rfl ?_
      refine sC1 (c' := c + 0) rfl rfl rfl rfl rfl (hb 0 (by omega)) (ok_X8_checksum d (by omega) h) (fun z137 => ?_)
      refine sS rfl rfl ?_
      refine sB rfl rfl ?_ ?_
      · refine sS rfl rfl ?_
        refine sS rfl rfl ?_
        exact sJ (fun h2 => h2 _ (by omega))
      · refine sS rfl rfl ?_
        exact sR rfl rfl (fun hg => congrArg (fun y => (Sum.inl (some (Value.int y)) : PO)) hg)
    have e0 := psw_ne (n := 0) rfl q0
    have e1 := psw_ne (n := 1) rfl q1
    have e2 := psw_ne (n := 2) rfl q2
    have e3 := psw_ne (n := 3) rfl q3
    have e4 := psw_ne (n := 4) rfl q4
    have e5 := psw_ne (n := 5) rfl q5
    have e6 := psw_ne (n := 6) rfl q6
    have e7 := psw_ne (n := 7) rfl q7
    have e8 := psw_ne (n := 8) rfl q8
    have e9 := psw_ne (n := 9) rfl q9
    have e10 := psw_ne (n := 10) rfl q10
    have e11 := psw_ne (n := 11) rfl q11
    have e12 := psw_ne (n := 12) rfl q12
    have e13 := psw_ne (n := 13) rfl q13
    have e14 := psw_ne (n := 14) rfl q14
    have e15 := psw_ne (n := 15) rfl q15
    have e16 := psw_ne (n := 16) rfl q16
    have e17 := psw_ne (n := 17) rfl q17
    have e18 := psw_ne (n := 18) rfl q18
    have e19 := psw_ne (n := 19) rfl q19
    have e20 := psw_ne (n := 20) rfl q20
    have e21 := psw_ne (n := 21) rfl q21
    have e22 := psw_ne (n := 22) rfl q22
    have e23 := psw_ne (n := 23) rfl q23
    have e24 := psw_ne (n := 24) rfl q24
    have e25 := psw_ne (n := 25) rfl q25
    have e26 := psw_ne (n := 26) rfl q26
    have e27 := psw_ne (n := 27) rfl q27
    have e28 := psw_ne (n := 28) rfl q28
    have e29 := psw_ne (n := 29) rfl q29
    have e30 := psw_ne (n := 30) rfl q30
    refine sSw rfl (by omega) ?_
    refine sS rfl rfl ?_
    refine sS rfl rfl ?_
    exact sJ (fun h2 => h2 _ (by omega))
