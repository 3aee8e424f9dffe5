set_option maxRecDepth 100000 in
theorem ok_History_empty : okM m_History_empty := okM_of 685 (by rfl) (by decide +kernel) (by decide +kernel)
set_option maxRecDepth 100000 in
theorem ok_History_remember : okM m_History_remember := okM_of 1028 (by rfl) (by decide +kernel) (by decide +kernel)
set_option maxRecDepth 100000 in
theorem ok_History_takeBack : okM m_History_takeBack := okM_of 1065 (by rfl) (by decide +kernel) (by decide +kernel)
set_option maxRecDepth 100000 in
theorem ok_Market_leastToBuy : okM m_Market_leastToBuy := okM_of 874 (by rfl) (by decide +kernel) (by decide +kernel)
set_option maxRecDepth 100000 in
theorem ok_Market_runClock : okM m_Market_runClock := okM_of 901 (by rfl) (by decide +kernel) (by decide +kernel)
set_option maxRecDepth 100000 in
theorem ok_Market_runRound : okM m_Market_runRound := okM_of 905 (by rfl) (by decide +kernel) (by decide +kernel)
set_option maxRecDepth 100000 in
theorem ok_Market_quietRounds : okM m_Market_quietRounds := okM_of 910 (by rfl) (by decide +kernel) (by decide +kernel)
set_option maxRecDepth 100000 in
theorem ok_Market_frozenPrices : okM m_Market_frozenPrices := okM_of 915 (by rfl) (by decide +kernel) (by decide +kernel)
set_option maxRecDepth 100000 in
theorem ok_Now_begin : okM m_Now_begin := okM_of 680 (by rfl) (by decide +kernel) (by decide +kernel)
set_option maxRecDepth 100000 in
theorem ok_Now_writeTo : okM m_Now_writeTo := okM_of 1032 (by rfl) (by decide +kernel) (by decide +kernel)
set_option maxRecDepth 100000 in
theorem ok_Now_readFrom : okM m_Now_readFrom := okM_of 1069 (by rfl) (by decide +kernel) (by decide +kernel)
set_option maxRecDepth 100000 in
theorem ok_Now_listOf : okM m_Now_listOf := okM_of 718 (by rfl) (by decide +kernel) (by decide +kernel)
set_option maxRecDepth 100000 in
theorem ok_Now_disturbers : okM m_Now_disturbers := okM_of 723 (by rfl) (by decide +kernel) (by decide +kernel)
set_option maxRecDepth 100000 in
theorem ok_Now_isFree : okM m_Now_isFree := okM_of 714 (by rfl) (by decide +kernel) (by decide +kernel)
set_option maxRecDepth 100000 in
theorem ok_Now_freeChannels : okM m_Now_freeChannels := okM_of 781 (by rfl) (by decide +kernel) (by decide +kernel)
set_option maxRecDepth 100000 in
theorem ok_Now_wrongOnes : okM m_Now_wrongOnes := okM_of 709 (by rfl) (by decide +kernel) (by decide +kernel)
set_option maxRecDepth 100000 in
theorem ok_Now_worthOf : okM m_Now_worthOf := okM_of 731 (by rfl) (by decide +kernel) (by decide +kernel)
set_option maxRecDepth 100000 in
theorem ok_Now_greatestChannel : okM m_Now_greatestChannel := okM_of 735 (by rfl) (by decide +kernel) (by decide +kernel)
set_option maxRecDepth 100000 in
theorem ok_Packer_learn : okM m_Packer_learn := okM_of 793 (by rfl) (by decide +kernel) (by decide +kernel)
set_option maxRecDepth 100000 in
theorem ok_Packer_learnNeeded : okM m_Packer_learnNeeded := okM_of 798 (by rfl) (by decide +kernel) (by decide +kernel)
set_option maxRecDepth 100000 in
theorem ok_Packer_packs : okM m_Packer_packs := okM_of 811 (by rfl) (by decide +kernel) (by decide +kernel)
set_option maxRecDepth 100000 in
theorem ok_Packer_leastThatDoesNotPack : okM m_Packer_leastThatDoesNotPack := okM_of 865 (by rfl) (by decide +kernel) (by decide +kernel)
set_option maxRecDepth 100000 in
theorem ok_Packer_begin : okM m_Packer_begin := okM_of 815 (by rfl) (by decide +kernel) (by decide +kernel)
set_option maxRecDepth 100000 in
theorem ok_Packer_limit : okM m_Packer_limit := okM_of 885 (by rfl) (by decide +kernel) (by decide +kernel)
set_option maxRecDepth 100000 in
theorem ok_Packer_search : okM m_Packer_search := okM_of 819 (by rfl) (by decide +kernel) (by decide +kernel)
set_option maxRecDepth 100000 in
theorem ok_Packer_countRows : okM m_Packer_countRows := okM_of 849 (by rfl) (by decide +kernel) (by decide +kernel)
set_option maxRecDepth 100000 in
theorem ok_Packer_tightest : okM m_Packer_tightest := okM_of 823 (by rfl) (by decide +kernel) (by decide +kernel)
set_option maxRecDepth 100000 in
theorem ok_Packer_take : okM m_Packer_take := okM_of 828 (by rfl) (by decide +kernel) (by decide +kernel)
set_option maxRecDepth 100000 in
theorem ok_Packer_settle : okM m_Packer_settle := okM_of 837 (by rfl) (by decide +kernel) (by decide +kernel)
set_option maxRecDepth 100000 in
theorem ok_Packer_settledChannel : okM m_Packer_settledChannel := okM_of 841 (by rfl) (by decide +kernel) (by decide +kernel)
set_option maxRecDepth 100000 in
theorem ok_Plan_empty : okM m_Plan_empty := okM_of 503 (by rfl) (by decide +kernel) (by decide +kernel)
set_option maxRecDepth 100000 in
theorem ok_Plan_findNeighbours : okM m_Plan_findNeighbours := okM_of 649 (by rfl) (by decide +kernel) (by decide +kernel)
set_option maxRecDepth 100000 in
theorem ok_Plan_findBorders : okM m_Plan_findBorders := okM_of 656 (by rfl) (by decide +kernel) (by decide +kernel)
set_option maxRecDepth 100000 in
theorem ok_Plan_findPair : okM m_Plan_findPair := okM_of 672 (by rfl) (by decide +kernel) (by decide +kernel)
set_option maxRecDepth 100000 in
theorem ok_Plan_disturb : okM m_Plan_disturb := okM_of 727 (by rfl) (by decide +kernel) (by decide +kernel)
set_option maxRecDepth 100000 in
theorem ok_Plan_islandOf : okM m_Plan_islandOf := okM_of 1015 (by rfl) (by decide +kernel) (by decide +kernel)
set_option maxRecDepth 100000 in
theorem ok_Reader_read : okM m_Reader_read := okM_of 499 (by rfl) (by decide +kernel) (by decide +kernel)
set_option maxRecDepth 100000 in
theorem ok_Reader_readChannels : okM m_Reader_readChannels := okM_of 522 (by rfl) (by decide +kernel) (by decide +kernel)
set_option maxRecDepth 100000 in
theorem ok_Reader_readStation : okM m_Reader_readStation := okM_of 604 (by rfl) (by decide +kernel) (by decide +kernel)
set_option maxRecDepth 100000 in
theorem ok_Reader_readBorder : okM m_Reader_readBorder := okM_of 637 (by rfl) (by decide +kernel) (by decide +kernel)
set_option maxRecDepth 100000 in
theorem ok_Reader_readName : okM m_Reader_readName := okM_of 608 (by rfl) (by decide +kernel) (by decide +kernel)
set_option maxRecDepth 100000 in
theorem ok_Reader_readPlace : okM m_Reader_readPlace := okM_of 626 (by rfl) (by decide +kernel) (by decide +kernel)
set_option maxRecDepth 100000 in
theorem ok_Reader_readNot : okM m_Reader_readNot := okM_of 630 (by rfl) (by decide +kernel) (by decide +kernel)
set_option maxRecDepth 100000 in
theorem ok_Reader_faulty : okM m_Reader_faulty := okM_of 583 (by rfl) (by decide +kernel) (by decide +kernel)
set_option maxRecDepth 100000 in
theorem ok_Reader_passWord : okM m_Reader_passWord := okM_of 527 (by rfl) (by decide +kernel) (by decide +kernel)
set_option maxRecDepth 100000 in
theorem ok_Reader_passSemicolon : okM m_Reader_passSemicolon := okM_of 595 (by rfl) (by decide +kernel) (by decide +kernel)
set_option maxRecDepth 100000 in
theorem ok_Reader_isWhole : okM m_Reader_isWhole := okM_of 587 (by rfl) (by decide +kernel) (by decide +kernel)
set_option maxRecDepth 100000 in
theorem ok_Reader_taken : okM m_Reader_taken := okM_of 591 (by rfl) (by decide +kernel) (by decide +kernel)
set_option maxRecDepth 100000 in
theorem ok_Reader_isSign : okM m_Reader_isSign := okM_of 599 (by rfl) (by decide +kernel) (by decide +kernel)
set_option maxRecDepth 100000 in
theorem ok_Reader_isWord : okM m_Reader_isWord := okM_of 531 (by rfl) (by decide +kernel) (by decide +kernel)
set_option maxRecDepth 100000 in
theorem ok_Reader_isOwnWord : okM m_Reader_isOwnWord := okM_of 612 (by rfl) (by decide +kernel) (by decide +kernel)
set_option maxRecDepth 100000 in
theorem ok_Reader_isName : okM m_Reader_isName := okM_of 622 (by rfl) (by decide +kernel) (by decide +kernel)
set_option maxRecDepth 100000 in
theorem ok_Reader_nextToken : okM m_Reader_nextToken := okM_of 511 (by rfl) (by decide +kernel) (by decide +kernel)
set_option maxRecDepth 100000 in
theorem ok_Reader_kindOf : okM m_Reader_kindOf := okM_of 518 (by rfl) (by decide +kernel) (by decide +kernel)
set_option maxRecDepth 100000 in
theorem ok_Sites_empty : okM m_Sites_empty := okM_of 507 (by rfl) (by decide +kernel) (by decide +kernel)
set_option maxRecDepth 100000 in
theorem ok_Sites_farFrom : okM m_Sites_farFrom := okM_of 664 (by rfl) (by decide +kernel) (by decide +kernel)
set_option maxRecDepth 100000 in
theorem ok_Sites_reaching : okM m_Sites_reaching := okM_of 660 (by rfl) (by decide +kernel) (by decide +kernel)
set_option maxRecDepth 100000 in
theorem ok_Squeezer_findRow : okM m_Squeezer_findRow := okM_of 931 (by rfl) (by decide +kernel) (by decide +kernel)
set_option maxRecDepth 100000 in
theorem ok_Squeezer_thoseThatMust : okM m_Squeezer_thoseThatMust := okM_of 936 (by rfl) (by decide +kernel) (by decide +kernel)
set_option maxRecDepth 100000 in
theorem ok_Squeezer_isChoice : okM m_Squeezer_isChoice := okM_of 944 (by rfl) (by decide +kernel) (by decide +kernel)
set_option maxRecDepth 100000 in
theorem ok_Squeezer_holdAllBut : okM m_Squeezer_holdAllBut := okM_of 948 (by rfl) (by decide +kernel) (by decide +kernel)
set_option maxRecDepth 100000 in
theorem ok_Squeezer_isAheadOfRow : okM m_Squeezer_isAheadOfRow := okM_of 954 (by rfl) (by decide +kernel) (by decide +kernel)
set_option maxRecDepth 100000 in
theorem ok_Squeezer_takeRow : okM m_Squeezer_takeRow := okM_of 959 (by rfl) (by decide +kernel) (by decide +kernel)
set_option maxRecDepth 100000 in
theorem ok_Squeezer_findSequence : okM m_Squeezer_findSequence := okM_of 972 (by rfl) (by decide +kernel) (by decide +kernel)
set_option maxRecDepth 100000 in
theorem ok_Squeezer_nextToGo : okM m_Squeezer_nextToGo := okM_of 976 (by rfl) (by decide +kernel) (by decide +kernel)
set_option maxRecDepth 100000 in
theorem ok_Squeezer_mayGo : okM m_Squeezer_mayGo := okM_of 980 (by rfl) (by decide +kernel) (by decide +kernel)
set_option maxRecDepth 100000 in
theorem ok_Squeezer_goDown : okM m_Squeezer_goDown := okM_of 989 (by rfl) (by decide +kernel) (by decide +kernel)
set_option maxRecDepth 100000 in
theorem ok_Squeezer_movedAtLast : okM m_Squeezer_movedAtLast := okM_of 995 (by rfl) (by decide +kernel) (by decide +kernel)
set_option maxRecDepth 100000 in
theorem ok_Tape_hasRoomFor : okM m_Tape_hasRoomFor := okM_of 483 (by rfl) (by decide +kernel) (by decide +kernel)
set_option maxRecDepth 100000 in
theorem ok_Tape_addNumber : okM m_Tape_addNumber := okM_of 487 (by rfl) (by decide +kernel) (by decide +kernel)
set_option maxRecDepth 100000 in
theorem ok_Tape_byteAt : okM m_Tape_byteAt := okM_of 515 (by rfl) (by decide +kernel) (by decide +kernel)
set_option maxRecDepth 100000 in
theorem ok_Tape_empty : okM m_Tape_empty := okM_of 641 (by rfl) (by decide +kernel) (by decide +kernel)
set_option maxRecDepth 100000 in
theorem ok_CS_feed : okM m_CS_feed := okM_of 479 (by rfl) (by decide +kernel) (by decide +kernel)
set_option maxRecDepth 100000 in
theorem ok_CS_text : okM m_CS_text := okM_of 491 (by rfl) (by decide +kernel) (by decide +kernel)
set_option maxRecDepth 100000 in
theorem ok_CS_beginAnew : okM m_CS_beginAnew := okM_of 645 (by rfl) (by decide +kernel) (by decide +kernel)
set_option maxRecDepth 100000 in
theorem ok_CS_fault : okM m_CS_fault := okM_of 693 (by rfl) (by decide +kernel) (by decide +kernel)
set_option maxRecDepth 100000 in
theorem ok_CS_where : okM m_CS_where := okM_of 697 (by rfl) (by decide +kernel) (by decide +kernel)
set_option maxRecDepth 100000 in
theorem ok_CS_about : okM m_CS_about := okM_of 701 (by rfl) (by decide +kernel) (by decide +kernel)
set_option maxRecDepth 100000 in
theorem ok_CS_station : okM m_CS_station := okM_of 740 (by rfl) (by decide +kernel) (by decide +kernel)
set_option maxRecDepth 100000 in
theorem ok_CS_border : okM m_CS_border := okM_of 750 (by rfl) (by decide +kernel) (by decide +kernel)
set_option maxRecDepth 100000 in
theorem ok_CS_far : okM m_CS_far := okM_of 754 (by rfl) (by decide +kernel) (by decide +kernel)
set_option maxRecDepth 100000 in
theorem ok_CS_near : okM m_CS_near := okM_of 759 (by rfl) (by decide +kernel) (by decide +kernel)
set_option maxRecDepth 100000 in
theorem ok_CS_on : okM m_CS_on := okM_of 764 (by rfl) (by decide +kernel) (by decide +kernel)
set_option maxRecDepth 100000 in
theorem ok_CS_free : okM m_CS_free := okM_of 777 (by rfl) (by decide +kernel) (by decide +kernel)
set_option maxRecDepth 100000 in
theorem ok_CS_fits : okM m_CS_fits := okM_of 785 (by rfl) (by decide +kernel) (by decide +kernel)
set_option maxRecDepth 100000 in
theorem ok_CS_rowOf : okM m_CS_rowOf := okM_of 832 (by rfl) (by decide +kernel) (by decide +kernel)
set_option maxRecDepth 100000 in
theorem ok_CS_rows : okM m_CS_rows := okM_of 845 (by rfl) (by decide +kernel) (by decide +kernel)
set_option maxRecDepth 100000 in
theorem ok_CS_fewest : okM m_CS_fewest := okM_of 857 (by rfl) (by decide +kernel) (by decide +kernel)
set_option maxRecDepth 100000 in
theorem ok_CS_proof : okM m_CS_proof := okM_of 861 (by rfl) (by decide +kernel) (by decide +kernel)
set_option maxRecDepth 100000 in
theorem ok_CS_cheapest : okM m_CS_cheapest := okM_of 870 (by rfl) (by decide +kernel) (by decide +kernel)
set_option maxRecDepth 100000 in
theorem ok_CS_could : okM m_CS_could := okM_of 880 (by rfl) (by decide +kernel) (by decide +kernel)
set_option maxRecDepth 100000 in
theorem ok_CS_clock : okM m_CS_clock := okM_of 890 (by rfl) (by decide +kernel) (by decide +kernel)
set_option maxRecDepth 100000 in
theorem ok_CS_pay : okM m_CS_pay := okM_of 919 (by rfl) (by decide +kernel) (by decide +kernel)
set_option maxRecDepth 100000 in
theorem ok_CS_squeeze : okM m_CS_squeeze := okM_of 923 (by rfl) (by decide +kernel) (by decide +kernel)
set_option maxRecDepth 100000 in
theorem ok_CS_squeezeOf : okM m_CS_squeezeOf := okM_of 964 (by rfl) (by decide +kernel) (by decide +kernel)
set_option maxRecDepth 100000 in
theorem ok_CS_order : okM m_CS_order := okM_of 968 (by rfl) (by decide +kernel) (by decide +kernel)
set_option maxRecDepth 100000 in
theorem ok_CS_steps : okM m_CS_steps := okM_of 985 (by rfl) (by decide +kernel) (by decide +kernel)
set_option maxRecDepth 100000 in
theorem ok_CS_squeezeNow : okM m_CS_squeezeNow := okM_of 927 (by rfl) (by decide +kernel) (by decide +kernel)
set_option maxRecDepth 100000 in
theorem ok_CS_due : okM m_CS_due := okM_of 999 (by rfl) (by decide +kernel) (by decide +kernel)
set_option maxRecDepth 100000 in
theorem ok_CS_heard : okM m_CS_heard := okM_of 1003 (by rfl) (by decide +kernel) (by decide +kernel)
set_option maxRecDepth 100000 in
theorem ok_CS_islands : okM m_CS_islands := okM_of 1011 (by rfl) (by decide +kernel) (by decide +kernel)
set_option maxRecDepth 100000 in
theorem ok_CS_lower : okM m_CS_lower := okM_of 1019 (by rfl) (by decide +kernel) (by decide +kernel)
set_option maxRecDepth 100000 in
theorem ok_CS_move : okM m_CS_move := okM_of 1023 (by rfl) (by decide +kernel) (by decide +kernel)
set_option maxRecDepth 100000 in
theorem ok_CS_buy : okM m_CS_buy := okM_of 1037 (by rfl) (by decide +kernel) (by decide +kernel)
set_option maxRecDepth 100000 in
theorem ok_CS_air : okM m_CS_air := okM_of 1041 (by rfl) (by decide +kernel) (by decide +kernel)
set_option maxRecDepth 100000 in
theorem ok_CS_lay : okM m_CS_lay := okM_of 1045 (by rfl) (by decide +kernel) (by decide +kernel)
set_option maxRecDepth 100000 in
theorem ok_CS_clear : okM m_CS_clear := okM_of 1049 (by rfl) (by decide +kernel) (by decide +kernel)
set_option maxRecDepth 100000 in
theorem ok_CS_value : okM m_CS_value := okM_of 1053 (by rfl) (by decide +kernel) (by decide +kernel)
set_option maxRecDepth 100000 in
theorem ok_CS_ban : okM m_CS_ban := okM_of 1057 (by rfl) (by decide +kernel) (by decide +kernel)
set_option maxRecDepth 100000 in
theorem ok_CS_undo : okM m_CS_undo := okM_of 1061 (by rfl) (by decide +kernel) (by decide +kernel)
set_option maxRecDepth 100000 in
theorem ok_CS_keep : okM m_CS_keep := okM_of 1073 (by rfl) (by decide +kernel) (by decide +kernel)
set_option maxRecDepth 100000 in
theorem ok_CS_back : okM m_CS_back := okM_of 1078 (by rfl) (by decide +kernel) (by decide +kernel)
set_option maxRecDepth 100000 in
theorem ok_CS_bytes : okM m_CS_bytes := okM_of 1083 (by rfl) (by decide +kernel) (by decide +kernel)
set_option maxRecDepth 100000 in
theorem ok_CS_trouble : okM m_CS_trouble := okM_of 1087 (by rfl) (by decide +kernel) (by decide +kernel)
set_option maxRecDepth 100000 in
theorem ok_CS_isRefused : okM m_CS_isRefused := okM_of 772 (by rfl) (by decide +kernel) (by decide +kernel)
set_option maxRecDepth 100000 in
theorem ok_CS_refused : okM m_CS_refused := okM_of 495 (by rfl) (by decide +kernel) (by decide +kernel)
set_option maxRecDepth 100000 in
theorem ok_CS_answered : okM m_CS_answered := okM_of 689 (by rfl) (by decide +kernel) (by decide +kernel)
set_option maxRecDepth 100000 in
theorem ok_CS_hasText : okM m_CS_hasText := okM_of 705 (by rfl) (by decide +kernel) (by decide +kernel)
set_option maxRecDepth 100000 in
theorem ok_CS_isStation : okM m_CS_isStation := okM_of 744 (by rfl) (by decide +kernel) (by decide +kernel)
set_option maxRecDepth 100000 in
theorem ok_CS_isChannel : okM m_CS_isChannel := okM_of 768 (by rfl) (by decide +kernel) (by decide +kernel)
set_option maxRecDepth 100000 in
theorem ok_CS_isSet : okM m_CS_isSet := okM_of 789 (by rfl) (by decide +kernel) (by decide +kernel)
set_option maxRecDepth 100000 in
theorem ok_CS_isClock : okM m_CS_isClock := okM_of 894 (by rfl) (by decide +kernel) (by decide +kernel)
set_option maxRecDepth 100000 in
theorem ok_CS_isPrice : okM m_CS_isPrice := okM_of 897 (by rfl) (by decide +kernel) (by decide +kernel)
set_option maxRecDepth 100000 in
theorem ok_CS_isPlace : okM m_CS_isPlace := okM_of 1006 (by rfl) (by decide +kernel) (by decide +kernel)
set_option maxRecDepth 100000 in
theorem ok_CS_bit : okM m_CS_bit := okM_of 652 (by rfl) (by decide +kernel) (by decide +kernel)
set_option maxRecDepth 100000 in
theorem ok_CS_channelBit : okM m_CS_channelBit := okM_of 633 (by rfl) (by decide +kernel) (by decide +kernel)
set_option maxRecDepth 100000 in
theorem ok_CS_has : okM m_CS_has := okM_of 668 (by rfl) (by decide +kernel) (by decide +kernel)
set_option maxRecDepth 100000 in
theorem ok_Mo_thrown : okM m_Mo_thrown := okM_of 1307 (by rfl) (by decide +kernel) (by decide +kernel)
set_option maxRecDepth 100000 in
theorem ok_Mo_refused : okM m_Mo_refused := okM_of 1330 (by rfl) (by decide +kernel) (by decide +kernel)
set_option maxRecDepth 100000 in
theorem ok_Mo_good : okM m_Mo_good := okM_of 1412 (by rfl) (by decide +kernel) (by decide +kernel)
set_option maxRecDepth 100000 in
theorem ok_Mo_granted : okM m_Mo_granted := okM_of 1679 (by rfl) (by decide +kernel) (by decide +kernel)
set_option maxRecDepth 100000 in
theorem ok_Mo_in : okM m_Mo_in := okM_of 1326 (by rfl) (by decide +kernel) (by decide +kernel)
set_option maxRecDepth 100000 in
theorem ok_Mo_has : okM m_Mo_has := okM_of 1400 (by rfl) (by decide +kernel) (by decide +kernel)
set_option maxRecDepth 100000 in
theorem ok_Mo_bits : okM m_Mo_bits := okM_of 1543 (by rfl) (by decide +kernel) (by decide +kernel)
set_option maxRecDepth 100000 in
theorem ok_Mo_feed : okM m_Mo_feed := okM_of 1311 (by rfl) (by decide +kernel) (by decide +kernel)
set_option maxRecDepth 100000 in
theorem ok_Mo_flaw : okM m_Mo_flaw := okM_of 1362 (by rfl) (by decide +kernel) (by decide +kernel)
set_option maxRecDepth 100000 in
theorem ok_Mo_isLetterAt : okM m_Mo_isLetterAt := okM_of 1338 (by rfl) (by decide +kernel) (by decide +kernel)
set_option maxRecDepth 100000 in
theorem ok_Mo_isDigitAt : okM m_Mo_isDigitAt := okM_of 1344 (by rfl) (by decide +kernel) (by decide +kernel)
set_option maxRecDepth 100000 in
theorem ok_Mo_goOn : okM m_Mo_goOn := okM_of 1334 (by rfl) (by decide +kernel) (by decide +kernel)
set_option maxRecDepth 100000 in
theorem ok_Mo_wordOf : okM m_Mo_wordOf := okM_of 1356 (by rfl) (by decide +kernel) (by decide +kernel)
set_option maxRecDepth 100000 in
theorem ok_Mo_isWord : okM m_Mo_isWord := okM_of 1353 (by rfl) (by decide +kernel) (by decide +kernel)
set_option maxRecDepth 100000 in
theorem ok_Mo_isSign : okM m_Mo_isSign := okM_of 1370 (by rfl) (by decide +kernel) (by decide +kernel)
set_option maxRecDepth 100000 in
theorem ok_Mo_needs : okM m_Mo_needs := okM_of 1349 (by rfl) (by decide +kernel) (by decide +kernel)
set_option maxRecDepth 100000 in
theorem ok_Mo_isOwn : okM m_Mo_isOwn := okM_of 1383 (by rfl) (by decide +kernel) (by decide +kernel)
set_option maxRecDepth 100000 in
theorem ok_Mo_readWhole : okM m_Mo_readWhole := okM_of 1366 (by rfl) (by decide +kernel) (by decide +kernel)
set_option maxRecDepth 100000 in
theorem ok_Mo_fault : okM m_Mo_fault := okM_of 1315 (by rfl) (by decide +kernel) (by decide +kernel)
set_option maxRecDepth 100000 in
theorem ok_Mo_where : okM m_Mo_where := okM_of 1319 (by rfl) (by decide +kernel) (by decide +kernel)
set_option maxRecDepth 100000 in
theorem ok_Mo_readPlace : okM m_Mo_readPlace := okM_of 1393 (by rfl) (by decide +kernel) (by decide +kernel)
set_option maxRecDepth 100000 in
theorem ok_Mo_readNot : okM m_Mo_readNot := okM_of 1397 (by rfl) (by decide +kernel) (by decide +kernel)
set_option maxRecDepth 100000 in
theorem ok_Mo_readStation : okM m_Mo_readStation := okM_of 1379 (by rfl) (by decide +kernel) (by decide +kernel)
set_option maxRecDepth 100000 in
theorem ok_Mo_readBorder : okM m_Mo_readBorder := okM_of 1404 (by rfl) (by decide +kernel) (by decide +kernel)
set_option maxRecDepth 100000 in
theorem ok_Mo_readLine : okM m_Mo_readLine := okM_of 1374 (by rfl) (by decide +kernel) (by decide +kernel)
set_option maxRecDepth 100000 in
theorem ok_Mo_text : okM m_Mo_text := okM_of 1323 (by rfl) (by decide +kernel) (by decide +kernel)
set_option maxRecDepth 100000 in
theorem ok_Mo_becomes : okM m_Mo_becomes := okM_of 1408 (by rfl) (by decide +kernel) (by decide +kernel)
set_option maxRecDepth 100000 in
theorem ok_Mo_farOf : okM m_Mo_farOf := okM_of 1436 (by rfl) (by decide +kernel) (by decide +kernel)
set_option maxRecDepth 100000 in
theorem ok_Mo_reach : okM m_Mo_reach := okM_of 1440 (by rfl) (by decide +kernel) (by decide +kernel)
set_option maxRecDepth 100000 in
theorem ok_Mo_doClash : okM m_Mo_doClash := okM_of 1452 (by rfl) (by decide +kernel) (by decide +kernel)
set_option maxRecDepth 100000 in
theorem ok_Mo_doBrush : okM m_Mo_doBrush := okM_of 1456 (by rfl) (by decide +kernel) (by decide +kernel)
set_option maxRecDepth 100000 in
theorem ok_Mo_disturb : okM m_Mo_disturb := okM_of 1448 (by rfl) (by decide +kernel) (by decide +kernel)
set_option maxRecDepth 100000 in
theorem ok_Mo_counts : okM m_Mo_counts := okM_of 1432 (by rfl) (by decide +kernel) (by decide +kernel)
set_option maxRecDepth 100000 in
theorem ok_Mo_list : okM m_Mo_list := okM_of 1428 (by rfl) (by decide +kernel) (by decide +kernel)
set_option maxRecDepth 100000 in
theorem ok_Mo_isOn : okM m_Mo_isOn := okM_of 1420 (by rfl) (by decide +kernel) (by decide +kernel)
set_option maxRecDepth 100000 in
theorem ok_Mo_disturbers : okM m_Mo_disturbers := okM_of 1444 (by rfl) (by decide +kernel) (by decide +kernel)
set_option maxRecDepth 100000 in
theorem ok_Mo_wrongOnes : okM m_Mo_wrongOnes := okM_of 1424 (by rfl) (by decide +kernel) (by decide +kernel)
set_option maxRecDepth 100000 in
theorem ok_Mo_worthOf : okM m_Mo_worthOf := okM_of 1460 (by rfl) (by decide +kernel) (by decide +kernel)
set_option maxRecDepth 100000 in
theorem ok_Mo_isStation : okM m_Mo_isStation := okM_of 1468 (by rfl) (by decide +kernel) (by decide +kernel)
set_option maxRecDepth 100000 in
theorem ok_Mo_isChannel : okM m_Mo_isChannel := okM_of 1488 (by rfl) (by decide +kernel) (by decide +kernel)
set_option maxRecDepth 100000 in
theorem ok_Mo_isSet : okM m_Mo_isSet := okM_of 1504 (by rfl) (by decide +kernel) (by decide +kernel)
set_option maxRecDepth 100000 in
theorem ok_Mo_about : okM m_Mo_about := okM_of 1416 (by rfl) (by decide +kernel) (by decide +kernel)
set_option maxRecDepth 100000 in
theorem ok_Mo_station : okM m_Mo_station := okM_of 1464 (by rfl) (by decide +kernel) (by decide +kernel)
set_option maxRecDepth 100000 in
theorem ok_Mo_border : okM m_Mo_border := okM_of 1472 (by rfl) (by decide +kernel) (by decide +kernel)
set_option maxRecDepth 100000 in
theorem ok_Mo_far : okM m_Mo_far := okM_of 1476 (by rfl) (by decide +kernel) (by decide +kernel)
set_option maxRecDepth 100000 in
theorem ok_Mo_near : okM m_Mo_near := okM_of 1480 (by rfl) (by decide +kernel) (by decide +kernel)
set_option maxRecDepth 100000 in
theorem ok_Mo_on : okM m_Mo_on := okM_of 1484 (by rfl) (by decide +kernel) (by decide +kernel)
set_option maxRecDepth 100000 in
theorem ok_Mo_free : okM m_Mo_free := okM_of 1492 (by rfl) (by decide +kernel) (by decide +kernel)
set_option maxRecDepth 100000 in
theorem ok_Mo_mayStand : okM m_Mo_mayStand := okM_of 1516 (by rfl) (by decide +kernel) (by decide +kernel)
set_option maxRecDepth 100000 in
theorem ok_Mo_isOpen : okM m_Mo_isOpen := okM_of 1520 (by rfl) (by decide +kernel) (by decide +kernel)
set_option maxRecDepth 100000 in
theorem ok_Mo_rowsFrom : okM m_Mo_rowsFrom := okM_of 1512 (by rfl) (by decide +kernel) (by decide +kernel)
set_option maxRecDepth 100000 in
theorem ok_Mo_isFit : okM m_Mo_isFit := okM_of 1508 (by rfl) (by decide +kernel) (by decide +kernel)
set_option maxRecDepth 100000 in
theorem ok_Mo_whyNot : okM m_Mo_whyNot := okM_of 1500 (by rfl) (by decide +kernel) (by decide +kernel)
set_option maxRecDepth 100000 in
theorem ok_Mo_fits : okM m_Mo_fits := okM_of 1496 (by rfl) (by decide +kernel) (by decide +kernel)
set_option maxRecDepth 100000 in
theorem ok_Mo_whyNotOf : okM m_Mo_whyNotOf := okM_of 1528 (by rfl) (by decide +kernel) (by decide +kernel)
set_option maxRecDepth 100000 in
theorem ok_Mo_rowOf : okM m_Mo_rowOf := okM_of 1524 (by rfl) (by decide +kernel) (by decide +kernel)
set_option maxRecDepth 100000 in
theorem ok_Mo_rows : okM m_Mo_rows := okM_of 1532 (by rfl) (by decide +kernel) (by decide +kernel)
set_option maxRecDepth 100000 in
theorem ok_Mo_fewest : okM m_Mo_fewest := okM_of 1536 (by rfl) (by decide +kernel) (by decide +kernel)
set_option maxRecDepth 100000 in
theorem ok_Mo_proof : okM m_Mo_proof := okM_of 1540 (by rfl) (by decide +kernel) (by decide +kernel)
set_option maxRecDepth 100000 in
theorem ok_Mo_could : okM m_Mo_could := okM_of 1547 (by rfl) (by decide +kernel) (by decide +kernel)
set_option maxRecDepth 100000 in
theorem ok_Mo_cheapestOf : okM m_Mo_cheapestOf := okM_of 1555 (by rfl) (by decide +kernel) (by decide +kernel)
set_option maxRecDepth 100000 in
theorem ok_Mo_cheapest : okM m_Mo_cheapest := okM_of 1551 (by rfl) (by decide +kernel) (by decide +kernel)
set_option maxRecDepth 100000 in
theorem ok_Mo_isKnown : okM m_Mo_isKnown := okM_of 1571 (by rfl) (by decide +kernel) (by decide +kernel)
set_option maxRecDepth 100000 in
theorem ok_Mo_runs : okM m_Mo_runs := okM_of 1567 (by rfl) (by decide +kernel) (by decide +kernel)
set_option maxRecDepth 100000 in
theorem ok_Mo_prices : okM m_Mo_prices := okM_of 1575 (by rfl) (by decide +kernel) (by decide +kernel)
set_option maxRecDepth 100000 in
theorem ok_Mo_isClock : okM m_Mo_isClock := okM_of 1563 (by rfl) (by decide +kernel) (by decide +kernel)
set_option maxRecDepth 100000 in
theorem ok_Mo_clock : okM m_Mo_clock := okM_of 1559 (by rfl) (by decide +kernel) (by decide +kernel)
set_option maxRecDepth 100000 in
theorem ok_Mo_pay : okM m_Mo_pay := okM_of 1579 (by rfl) (by decide +kernel) (by decide +kernel)
set_option maxRecDepth 100000 in
theorem ok_Mo_squeezes : okM m_Mo_squeezes := okM_of 1591 (by rfl) (by decide +kernel) (by decide +kernel)
set_option maxRecDepth 100000 in
theorem ok_Mo_isSqueezed : okM m_Mo_isSqueezed := okM_of 1587 (by rfl) (by decide +kernel) (by decide +kernel)
set_option maxRecDepth 100000 in
theorem ok_Mo_squeeze : okM m_Mo_squeeze := okM_of 1583 (by rfl) (by decide +kernel) (by decide +kernel)
set_option maxRecDepth 100000 in
theorem ok_Mo_squeezeOf : okM m_Mo_squeezeOf := okM_of 1595 (by rfl) (by decide +kernel) (by decide +kernel)
set_option maxRecDepth 100000 in
theorem ok_Mo_isQuiet : okM m_Mo_isQuiet := okM_of 1607 (by rfl) (by decide +kernel) (by decide +kernel)
set_option maxRecDepth 100000 in
theorem ok_Mo_isOrdered : okM m_Mo_isOrdered := okM_of 1603 (by rfl) (by decide +kernel) (by decide +kernel)
set_option maxRecDepth 100000 in
theorem ok_Mo_order : okM m_Mo_order := okM_of 1599 (by rfl) (by decide +kernel) (by decide +kernel)
set_option maxRecDepth 100000 in
theorem ok_Mo_steps : okM m_Mo_steps := okM_of 1611 (by rfl) (by decide +kernel) (by decide +kernel)
set_option maxRecDepth 100000 in
theorem ok_Mo_due : okM m_Mo_due := okM_of 1615 (by rfl) (by decide +kernel) (by decide +kernel)
set_option maxRecDepth 100000 in
theorem ok_Mo_heard : okM m_Mo_heard := okM_of 1619 (by rfl) (by decide +kernel) (by decide +kernel)
set_option maxRecDepth 100000 in
theorem ok_Mo_island : okM m_Mo_island := okM_of 1627 (by rfl) (by decide +kernel) (by decide +kernel)
set_option maxRecDepth 100000 in
theorem ok_Mo_islands : okM m_Mo_islands := okM_of 1623 (by rfl) (by decide +kernel) (by decide +kernel)
set_option maxRecDepth 100000 in
theorem ok_Mo_lower : okM m_Mo_lower := okM_of 1631 (by rfl) (by decide +kernel) (by decide +kernel)
set_option maxRecDepth 100000 in
theorem ok_Mo_remembers : okM m_Mo_remembers := okM_of 1643 (by rfl) (by decide +kernel) (by decide +kernel)
set_option maxRecDepth 100000 in
theorem ok_Mo_mayBe : okM m_Mo_mayBe := okM_of 1635 (by rfl) (by decide +kernel) (by decide +kernel)
set_option maxRecDepth 100000 in
theorem ok_Mo_move : okM m_Mo_move := okM_of 1639 (by rfl) (by decide +kernel) (by decide +kernel)
set_option maxRecDepth 100000 in
theorem ok_Mo_buy : okM m_Mo_buy := okM_of 1647 (by rfl) (by decide +kernel) (by decide +kernel)
set_option maxRecDepth 100000 in
theorem ok_Mo_air : okM m_Mo_air := okM_of 1651 (by rfl) (by decide +kernel) (by decide +kernel)
set_option maxRecDepth 100000 in
theorem ok_Mo_lay : okM m_Mo_lay := okM_of 1655 (by rfl) (by decide +kernel) (by decide +kernel)
set_option maxRecDepth 100000 in
theorem ok_Mo_clear : okM m_Mo_clear := okM_of 1659 (by rfl) (by decide +kernel) (by decide +kernel)
set_option maxRecDepth 100000 in
theorem ok_Mo_value : okM m_Mo_value := okM_of 1663 (by rfl) (by decide +kernel) (by decide +kernel)
set_option maxRecDepth 100000 in
theorem ok_Mo_ban : okM m_Mo_ban := okM_of 1667 (by rfl) (by decide +kernel) (by decide +kernel)
set_option maxRecDepth 100000 in
theorem ok_Mo_undo : okM m_Mo_undo := okM_of 1671 (by rfl) (by decide +kernel) (by decide +kernel)
set_option maxRecDepth 100000 in
theorem ok_Mo_keep : okM m_Mo_keep := okM_of 1675 (by rfl) (by decide +kernel) (by decide +kernel)
set_option maxRecDepth 100000 in
theorem ok_Mo_back : okM m_Mo_back := okM_of 1683 (by rfl) (by decide +kernel) (by decide +kernel)
set_option maxRecDepth 100000 in
theorem ok_Mo_letter : okM m_Mo_letter := okM_of 1687 (by rfl) (by decide +kernel) (by decide +kernel)
set_option maxRecDepth 100000 in
theorem ok_Mo_bytes : okM m_Mo_bytes := okM_of 1691 (by rfl) (by decide +kernel) (by decide +kernel)
set_option maxRecDepth 100000 in
theorem ok_Mo_trouble : okM m_Mo_trouble := okM_of 1695 (by rfl) (by decide +kernel) (by decide +kernel)
set_option maxRecDepth 100000 in
theorem ok_Integer_bitCount : okM m_Integer_bitCount := okM_of 804 (by rfl) (by decide +kernel) (by decide +kernel)
