/-! decode rows, printed by wip/gen/evid.py -/
theorem d_La_law_794 : decode m_La_law.2.1 794 = .ok (.aload_n 1, 1) := by decide +kernel
theorem d_La_law_795 : decode m_La_law.2.1 795 = .ok (.iconst 4, 1) := by decide +kernel
theorem d_La_law_796 : decode m_La_law.2.1 796 = .ok (.iconst 0, 1) := by decide +kernel
theorem d_La_law_797 : decode m_La_law.2.1 797 = .ok (.iconst 0, 1) := by decide +kernel
theorem d_La_law_798 : decode m_La_law.2.1 798 = .ok (.iconst 0, 1) := by decide +kernel
theorem d_La_law_799 : decode m_La_law.2.1 799 = .ok (.iconst 0, 1) := by decide +kernel
theorem d_La_law_800 : decode m_La_law.2.1 800 = .ok (.invokestatic 83, 3) := by decide +kernel
theorem d_La_law_803 : decode m_La_law.2.1 803 = .ok (.istore 21, 2) := by decide +kernel
theorem d_La_law_805 : decode m_La_law.2.1 805 = .ok (.iload 21, 2) := by decide +kernel
theorem d_La_law_807 : decode m_La_law.2.1 807 = .ok (.bipush (-13), 2) := by decide +kernel
theorem d_La_law_809 : decode m_La_law.2.1 809 = .ok (.if_icmp .ne 20, 3) := by decide +kernel
theorem d_La_law_812 : decode m_La_law.2.1 812 = .ok (.aload_n 1, 1) := by decide +kernel
theorem d_La_law_813 : decode m_La_law.2.1 813 = .ok (.invokevirtual 77, 3) := by decide +kernel
theorem d_La_law_816 : decode m_La_law.2.1 816 = .ok (.iload 20, 2) := by decide +kernel
theorem d_La_law_818 : decode m_La_law.2.1 818 = .ok (.if_icmp .ne 7, 3) := by decide +kernel
theorem d_La_law_821 : decode m_La_law.2.1 821 = .ok (.iconst 1, 1) := by decide +kernel
theorem d_La_law_822 : decode m_La_law.2.1 822 = .ok (.goto 48, 3) := by decide +kernel
theorem d_La_law_825 : decode m_La_law.2.1 825 = .ok (.iconst 0, 1) := by decide +kernel
theorem d_La_law_826 : decode m_La_law.2.1 826 = .ok (.goto 44, 3) := by decide +kernel
theorem d_La_law_829 : decode m_La_law.2.1 829 = .ok (.iload 21, 2) := by decide +kernel
theorem d_La_law_831 : decode m_La_law.2.1 831 = .ok (.iload 10, 2) := by decide +kernel
theorem d_La_law_833 : decode m_La_law.2.1 833 = .ok (.if_icmp .lt 36, 3) := by decide +kernel
theorem d_La_law_836 : decode m_La_law.2.1 836 = .ok (.aload_n 1, 1) := by decide +kernel
theorem d_La_law_837 : decode m_La_law.2.1 837 = .ok (.invokevirtual 77, 3) := by decide +kernel
theorem d_La_law_840 : decode m_La_law.2.1 840 = .ok (.iload 20, 2) := by decide +kernel
theorem d_La_law_842 : decode m_La_law.2.1 842 = .ok (.iload 21, 2) := by decide +kernel
theorem d_La_law_844 : decode m_La_law.2.1 844 = .ok (.iload 10, 2) := by decide +kernel
theorem d_La_law_846 : decode m_La_law.2.1 846 = .ok (.isub, 1) := by decide +kernel
theorem d_La_law_847 : decode m_La_law.2.1 847 = .ok (.isub, 1) := by decide +kernel
theorem d_La_law_848 : decode m_La_law.2.1 848 = .ok (.if_icmp .ne 21, 3) := by decide +kernel
theorem d_La_law_851 : decode m_La_law.2.1 851 = .ok (.aload_n 1, 1) := by decide +kernel
theorem d_La_law_852 : decode m_La_law.2.1 852 = .ok (.iconst 4, 1) := by decide +kernel
theorem d_La_law_853 : decode m_La_law.2.1 853 = .ok (.iconst 0, 1) := by decide +kernel
theorem d_La_law_854 : decode m_La_law.2.1 854 = .ok (.iconst 0, 1) := by decide +kernel
theorem d_La_law_855 : decode m_La_law.2.1 855 = .ok (.iconst 0, 1) := by decide +kernel
theorem d_La_law_856 : decode m_La_law.2.1 856 = .ok (.iconst 0, 1) := by decide +kernel
theorem d_La_law_857 : decode m_La_law.2.1 857 = .ok (.invokestatic 83, 3) := by decide +kernel
theorem d_La_law_860 : decode m_La_law.2.1 860 = .ok (.bipush (-13), 2) := by decide +kernel
theorem d_La_law_862 : decode m_La_law.2.1 862 = .ok (.if_icmp .ne 7, 3) := by decide +kernel
theorem d_La_law_865 : decode m_La_law.2.1 865 = .ok (.iconst 1, 1) := by decide +kernel
theorem d_La_law_866 : decode m_La_law.2.1 866 = .ok (.goto 4, 3) := by decide +kernel
theorem d_La_law_869 : decode m_La_law.2.1 869 = .ok (.iconst 0, 1) := by decide +kernel
theorem d_La_law_870 : decode m_La_law.2.1 870 = .ok (.istore 9, 2) := by decide +kernel
theorem d_La_law_872 : decode m_La_law.2.1 872 = .ok (.iload 21, 2) := by decide +kernel
theorem d_La_law_874 : decode m_La_law.2.1 874 = .ok (.ifCond .lt 8, 3) := by decide +kernel
theorem d_La_law_877 : decode m_La_law.2.1 877 = .ok (.iload 21, 2) := by decide +kernel
theorem d_La_law_879 : decode m_La_law.2.1 879 = .ok (.goto 5, 3) := by decide +kernel
theorem d_La_law_882 : decode m_La_law.2.1 882 = .ok (.iload 10, 2) := by decide +kernel
theorem d_La_law_884 : decode m_La_law.2.1 884 = .ok (.istore 10, 2) := by decide +kernel
theorem d_La_law_886 : decode m_La_law.2.1 886 = .ok (.goto 323, 3) := by decide +kernel
theorem d_La_law_889 : decode m_La_law.2.1 889 = .ok (.iload 17, 2) := by decide +kernel
theorem d_La_law_891 : decode m_La_law.2.1 891 = .ok (.bipush 14, 2) := by decide +kernel
theorem d_La_law_893 : decode m_La_law.2.1 893 = .ok (.if_icmp .ne 68, 3) := by decide +kernel
theorem d_La_law_896 : decode m_La_law.2.1 896 = .ok (.iload 16, 2) := by decide +kernel
theorem d_La_law_898 : decode m_La_law.2.1 898 = .ok (.iconst 4, 1) := by decide +kernel
theorem d_La_law_899 : decode m_La_law.2.1 899 = .ok (.ishr, 1) := by decide +kernel
theorem d_La_law_900 : decode m_La_law.2.1 900 = .ok (.iconst 1, 1) := by decide +kernel
theorem d_La_law_901 : decode m_La_law.2.1 901 = .ok (.iand, 1) := by decide +kernel
theorem d_La_law_902 : decode m_La_law.2.1 902 = .ok (.iconst 1, 1) := by decide +kernel
theorem d_La_law_903 : decode m_La_law.2.1 903 = .ok (.if_icmp .ne 7, 3) := by decide +kernel
theorem d_La_law_906 : decode m_La_law.2.1 906 = .ok (.iconst 1, 1) := by decide +kernel
theorem d_La_law_907 : decode m_La_law.2.1 907 = .ok (.goto 4, 3) := by decide +kernel
theorem d_La_law_910 : decode m_La_law.2.1 910 = .ok (.iconst 0, 1) := by decide +kernel
theorem d_La_law_911 : decode m_La_law.2.1 911 = .ok (.istore 22, 2) := by decide +kernel
theorem d_La_law_913 : decode m_La_law.2.1 913 = .ok (.aload_n 1, 1) := by decide +kernel
theorem d_La_law_914 : decode m_La_law.2.1 914 = .ok (.iload 18, 2) := by decide +kernel
theorem d_La_law_916 : decode m_La_law.2.1 916 = .ok (.iload 22, 2) := by decide +kernel
theorem d_La_law_918 : decode m_La_law.2.1 918 = .ok (.invokevirtual 89, 3) := by decide +kernel
theorem d_La_law_921 : decode m_La_law.2.1 921 = .ok (.aload_n 3, 1) := by decide +kernel
theorem d_La_law_922 : decode m_La_law.2.1 922 = .ok (.iload 18, 2) := by decide +kernel
theorem d_La_law_924 : decode m_La_law.2.1 924 = .ok (.iaload, 1) := by decide +kernel
theorem d_La_law_925 : decode m_La_law.2.1 925 = .ok (.iconst 1, 1) := by decide +kernel
theorem d_La_law_926 : decode m_La_law.2.1 926 = .ok (.if_icmp .ne 7, 3) := by decide +kernel
theorem d_La_law_929 : decode m_La_law.2.1 929 = .ok (.iconst 1, 1) := by decide +kernel
theorem d_La_law_930 : decode m_La_law.2.1 930 = .ok (.goto 4, 3) := by decide +kernel
theorem d_La_law_933 : decode m_La_law.2.1 933 = .ok (.iconst 0, 1) := by decide +kernel
theorem d_La_law_934 : decode m_La_law.2.1 934 = .ok (.if_icmp .ne 7, 3) := by decide +kernel
theorem d_La_law_937 : decode m_La_law.2.1 937 = .ok (.iconst 1, 1) := by decide +kernel
theorem d_La_law_938 : decode m_La_law.2.1 938 = .ok (.goto 4, 3) := by decide +kernel
theorem d_La_law_941 : decode m_La_law.2.1 941 = .ok (.iconst 0, 1) := by decide +kernel
theorem d_La_law_942 : decode m_La_law.2.1 942 = .ok (.istore 9, 2) := by decide +kernel
theorem d_La_law_944 : decode m_La_law.2.1 944 = .ok (.aload_n 3, 1) := by decide +kernel
theorem d_La_law_945 : decode m_La_law.2.1 945 = .ok (.iload 18, 2) := by decide +kernel
theorem d_La_law_947 : decode m_La_law.2.1 947 = .ok (.iload 22, 2) := by decide +kernel
theorem d_La_law_949 : decode m_La_law.2.1 949 = .ok (.ifCond .eq 7, 3) := by decide +kernel
theorem d_La_law_952 : decode m_La_law.2.1 952 = .ok (.iconst 1, 1) := by decide +kernel
theorem d_La_law_953 : decode m_La_law.2.1 953 = .ok (.goto 4, 3) := by decide +kernel
theorem d_La_law_956 : decode m_La_law.2.1 956 = .ok (.iconst 0, 1) := by decide +kernel
theorem d_La_law_957 : decode m_La_law.2.1 957 = .ok (.iastore, 1) := by decide +kernel
theorem d_La_law_958 : decode m_La_law.2.1 958 = .ok (.goto 251, 3) := by decide +kernel
theorem d_La_law_961 : decode m_La_law.2.1 961 = .ok (.iload 16, 2) := by decide +kernel
theorem d_La_law_963 : decode m_La_law.2.1 963 = .ok (.iconst 4, 1) := by decide +kernel
theorem d_La_law_964 : decode m_La_law.2.1 964 = .ok (.ishr, 1) := by decide +kernel
theorem d_La_law_965 : decode m_La_law.2.1 965 = .ok (.iconst 1, 1) := by decide +kernel
theorem d_La_law_966 : decode m_La_law.2.1 966 = .ok (.iand, 1) := by decide +kernel
theorem d_La_law_967 : decode m_La_law.2.1 967 = .ok (.ifCond .ne 7, 3) := by decide +kernel
theorem d_La_law_970 : decode m_La_law.2.1 970 = .ok (.iconst 1, 1) := by decide +kernel
theorem d_La_law_971 : decode m_La_law.2.1 971 = .ok (.goto 4, 3) := by decide +kernel
theorem d_La_law_974 : decode m_La_law.2.1 974 = .ok (.iconst 0, 1) := by decide +kernel
theorem d_La_law_975 : decode m_La_law.2.1 975 = .ok (.istore 22, 2) := by decide +kernel
theorem d_La_law_977 : decode m_La_law.2.1 977 = .ok (.iconst 1, 1) := by decide +kernel
theorem d_La_law_978 : decode m_La_law.2.1 978 = .ok (.iload 16, 2) := by decide +kernel
theorem d_La_law_980 : decode m_La_law.2.1 980 = .ok (.iconst 5, 1) := by decide +kernel
theorem d_La_law_981 : decode m_La_law.2.1 981 = .ok (.ishr, 1) := by decide +kernel
theorem d_La_law_982 : decode m_La_law.2.1 982 = .ok (.iconst 3, 1) := by decide +kernel
theorem d_La_law_983 : decode m_La_law.2.1 983 = .ok (.irem, 1) := by decide +kernel
theorem d_La_law_984 : decode m_La_law.2.1 984 = .ok (.iadd, 1) := by decide +kernel
theorem d_La_law_985 : decode m_La_law.2.1 985 = .ok (.istore 23, 2) := by decide +kernel
theorem d_La_law_987 : decode m_La_law.2.1 987 = .ok (.iload 22, 2) := by decide +kernel
theorem d_La_law_989 : decode m_La_law.2.1 989 = .ok (.ifCond .eq 10, 3) := by decide +kernel
theorem d_La_law_992 : decode m_La_law.2.1 992 = .ok (.aload_n 1, 1) := by decide +kernel
theorem d_La_law_993 : decode m_La_law.2.1 993 = .ok (.invokevirtual 93, 3) := by decide +kernel
theorem d_La_law_996 : decode m_La_law.2.1 996 = .ok (.goto 13, 3) := by decide +kernel
theorem d_La_law_999 : decode m_La_law.2.1 999 = .ok (.aload_n 1, 1) := by decide +kernel
theorem d_La_law_1000 : decode m_La_law.2.1 1000 = .ok (.iconst 5, 1) := by decide +kernel
theorem d_La_law_1001 : decode m_La_law.2.1 1001 = .ok (.iload 23, 2) := by decide +kernel
theorem d_La_law_1003 : decode m_La_law.2.1 1003 = .ok (.iconst 0, 1) := by decide +kernel
theorem d_La_law_1004 : decode m_La_law.2.1 1004 = .ok (.iconst 0, 1) := by decide +kernel
theorem d_La_law_1005 : decode m_La_law.2.1 1005 = .ok (.iconst 0, 1) := by decide +kernel
theorem d_La_law_1006 : decode m_La_law.2.1 1006 = .ok (.invokestatic 83, 3) := by decide +kernel
theorem d_La_law_1009 : decode m_La_law.2.1 1009 = .ok (.istore 21, 2) := by decide +kernel
theorem d_La_law_1011 : decode m_La_law.2.1 1011 = .ok (.iload 22, 2) := by decide +kernel
theorem d_La_law_1013 : decode m_La_law.2.1 1013 = .ok (.ifCond .ne 13, 3) := by decide +kernel
theorem d_La_law_1016 : decode m_La_law.2.1 1016 = .ok (.iload 21, 2) := by decide +kernel
theorem d_La_law_1018 : decode m_La_law.2.1 1018 = .ok (.ifCond .lt 8, 3) := by decide +kernel
theorem d_La_law_1021 : decode m_La_law.2.1 1021 = .ok (.iload 23, 2) := by decide +kernel
theorem d_La_law_1023 : decode m_La_law.2.1 1023 = .ok (.goto 5, 3) := by decide +kernel
theorem d_La_law_1026 : decode m_La_law.2.1 1026 = .ok (.iload 12, 2) := by decide +kernel
theorem d_La_law_1028 : decode m_La_law.2.1 1028 = .ok (.istore 12, 2) := by decide +kernel
theorem d_La_law_1030 : decode m_La_law.2.1 1030 = .ok (.iload 21, 2) := by decide +kernel
theorem d_La_law_1032 : decode m_La_law.2.1 1032 = .ok (.bipush (-13), 2) := by decide +kernel
theorem d_La_law_1034 : decode m_La_law.2.1 1034 = .ok (.if_icmp .ne 21, 3) := by decide +kernel
theorem d_La_law_1037 : decode m_La_law.2.1 1037 = .ok (.iload 11, 2) := by decide +kernel
theorem d_La_law_1039 : decode m_La_law.2.1 1039 = .ok (.ifCond .ne 12, 3) := by decide +kernel
theorem d_La_law_1042 : decode m_La_law.2.1 1042 = .ok (.iload 22, 2) := by decide +kernel
theorem d_La_law_1044 : decode m_La_law.2.1 1044 = .ok (.ifCond .ne 7, 3) := by decide +kernel
theorem d_La_law_1047 : decode m_La_law.2.1 1047 = .ok (.iconst 1, 1) := by decide +kernel
theorem d_La_law_1048 : decode m_La_law.2.1 1048 = .ok (.goto 49, 3) := by decide +kernel
theorem d_La_law_1051 : decode m_La_law.2.1 1051 = .ok (.iconst 0, 1) := by decide +kernel
theorem d_La_law_1052 : decode m_La_law.2.1 1052 = .ok (.goto 45, 3) := by decide +kernel
theorem d_La_law_1055 : decode m_La_law.2.1 1055 = .ok (.iload 22, 2) := by decide +kernel
theorem d_La_law_1057 : decode m_La_law.2.1 1057 = .ok (.ifCond .eq 28, 3) := by decide +kernel
theorem d_La_law_1060 : decode m_La_law.2.1 1060 = .ok (.iload 21, 2) := by decide +kernel
theorem d_La_law_1062 : decode m_La_law.2.1 1062 = .ok (.iload 10, 2) := by decide +kernel
theorem d_La_law_1064 : decode m_La_law.2.1 1064 = .ok (.if_icmp .lt 17, 3) := by decide +kernel
theorem d_La_law_1067 : decode m_La_law.2.1 1067 = .ok (.iload 21, 2) := by decide +kernel
theorem d_La_law_1069 : decode m_La_law.2.1 1069 = .ok (.iload 10, 2) := by decide +kernel
theorem d_La_law_1071 : decode m_La_law.2.1 1071 = .ok (.iload 20, 2) := by decide +kernel
theorem d_La_law_1073 : decode m_La_law.2.1 1073 = .ok (.iadd, 1) := by decide +kernel
theorem d_La_law_1074 : decode m_La_law.2.1 1074 = .ok (.if_icmp .gt 7, 3) := by decide +kernel
theorem d_La_law_1077 : decode m_La_law.2.1 1077 = .ok (.iconst 1, 1) := by decide +kernel
theorem d_La_law_1078 : decode m_La_law.2.1 1078 = .ok (.goto 19, 3) := by decide +kernel
theorem d_La_law_1081 : decode m_La_law.2.1 1081 = .ok (.iconst 0, 1) := by decide +kernel
theorem d_La_law_1082 : decode m_La_law.2.1 1082 = .ok (.goto 15, 3) := by decide +kernel
theorem d_La_law_1085 : decode m_La_law.2.1 1085 = .ok (.iload 21, 2) := by decide +kernel
theorem d_La_law_1087 : decode m_La_law.2.1 1087 = .ok (.bipush 7, 2) := by decide +kernel
theorem d_La_law_1089 : decode m_La_law.2.1 1089 = .ok (.if_icmp .ge 7, 3) := by decide +kernel
theorem d_La_law_1092 : decode m_La_law.2.1 1092 = .ok (.iconst 1, 1) := by decide +kernel
theorem d_La_law_1093 : decode m_La_law.2.1 1093 = .ok (.goto 4, 3) := by decide +kernel
theorem d_La_law_1096 : decode m_La_law.2.1 1096 = .ok (.iconst 0, 1) := by decide +kernel
theorem d_La_law_1097 : decode m_La_law.2.1 1097 = .ok (.istore 9, 2) := by decide +kernel
theorem d_La_law_1099 : decode m_La_law.2.1 1099 = .ok (.iload 9, 2) := by decide +kernel
theorem d_La_law_1101 : decode m_La_law.2.1 1101 = .ok (.ifCond .eq 108, 3) := by decide +kernel
theorem d_La_law_1104 : decode m_La_law.2.1 1104 = .ok (.iload 21, 2) := by decide +kernel
theorem d_La_law_1106 : decode m_La_law.2.1 1106 = .ok (.ifCond .lt 103, 3) := by decide +kernel
theorem d_La_law_1109 : decode m_La_law.2.1 1109 = .ok (.iload 22, 2) := by decide +kernel
theorem d_La_law_1111 : decode m_La_law.2.1 1111 = .ok (.ifCond .eq 8, 3) := by decide +kernel
theorem d_La_law_1114 : decode m_La_law.2.1 1114 = .ok (.iload 21, 2) := by decide +kernel
theorem d_La_law_1116 : decode m_La_law.2.1 1116 = .ok (.goto 7, 3) := by decide +kernel
theorem d_La_law_1119 : decode m_La_law.2.1 1119 = .ok (.aload_n 1, 1) := by decide +kernel
theorem d_La_law_1120 : decode m_La_law.2.1 1120 = .ok (.invokevirtual 93, 3) := by decide +kernel
theorem d_La_law_1123 : decode m_La_law.2.1 1123 = .ok (.istore 10, 2) := by decide +kernel
theorem d_La_law_1125 : decode m_La_law.2.1 1125 = .ok (.iconst (-1), 1) := by decide +kernel
theorem d_La_law_1126 : decode m_La_law.2.1 1126 = .ok (.istore 19, 2) := by decide +kernel
theorem d_La_law_1128 : decode m_La_law.2.1 1128 = .ok (.aload_n 1, 1) := by decide +kernel
theorem d_La_law_1129 : decode m_La_law.2.1 1129 = .ok (.invokevirtual 86, 3) := by decide +kernel
theorem d_La_law_1132 : decode m_La_law.2.1 1132 = .ok (.istore 24, 2) := by decide +kernel
theorem d_La_law_1134 : decode m_La_law.2.1 1134 = .ok (.aload_n 1, 1) := by decide +kernel
theorem d_La_law_1135 : decode m_La_law.2.1 1135 = .ok (.invokevirtual 52, 3) := by decide +kernel
theorem d_La_law_1138 : decode m_La_law.2.1 1138 = .ok (.istore 25, 2) := by decide +kernel
theorem d_La_law_1140 : decode m_La_law.2.1 1140 = .ok (.aload_n 1, 1) := by decide +kernel
theorem d_La_law_1141 : decode m_La_law.2.1 1141 = .ok (.invokevirtual 77, 3) := by decide +kernel
theorem d_La_law_1144 : decode m_La_law.2.1 1144 = .ok (.istore 26, 2) := by decide +kernel
theorem d_La_law_1146 : decode m_La_law.2.1 1146 = .ok (.aload_n 1, 1) := by decide +kernel
theorem d_La_law_1147 : decode m_La_law.2.1 1147 = .ok (.iconst 4, 1) := by decide +kernel
theorem d_La_law_1148 : decode m_La_law.2.1 1148 = .ok (.iconst 0, 1) := by decide +kernel
theorem d_La_law_1149 : decode m_La_law.2.1 1149 = .ok (.iconst 0, 1) := by decide +kernel
theorem d_La_law_1150 : decode m_La_law.2.1 1150 = .ok (.iconst 0, 1) := by decide +kernel
theorem d_La_law_1151 : decode m_La_law.2.1 1151 = .ok (.iconst 0, 1) := by decide +kernel
theorem d_La_law_1152 : decode m_La_law.2.1 1152 = .ok (.invokestatic 83, 3) := by decide +kernel
theorem d_La_law_1155 : decode m_La_law.2.1 1155 = .ok (.bipush (-13), 2) := by decide +kernel
theorem d_La_law_1157 : decode m_La_law.2.1 1157 = .ok (.if_icmp .ne 43, 3) := by decide +kernel
theorem d_La_law_1160 : decode m_La_law.2.1 1160 = .ok (.aload_n 1, 1) := by decide +kernel
theorem d_La_law_1161 : decode m_La_law.2.1 1161 = .ok (.invokevirtual 93, 3) := by decide +kernel
theorem d_La_law_1164 : decode m_La_law.2.1 1164 = .ok (.iload 10, 2) := by decide +kernel
theorem d_La_law_1166 : decode m_La_law.2.1 1166 = .ok (.if_icmp .ne 34, 3) := by decide +kernel
theorem d_La_law_1169 : decode m_La_law.2.1 1169 = .ok (.aload_n 1, 1) := by decide +kernel
theorem d_La_law_1170 : decode m_La_law.2.1 1170 = .ok (.invokevirtual 86, 3) := by decide +kernel
theorem d_La_law_1173 : decode m_La_law.2.1 1173 = .ok (.iload 24, 2) := by decide +kernel
theorem d_La_law_1175 : decode m_La_law.2.1 1175 = .ok (.if_icmp .ne 25, 3) := by decide +kernel
theorem d_La_law_1178 : decode m_La_law.2.1 1178 = .ok (.aload_n 1, 1) := by decide +kernel
theorem d_La_law_1179 : decode m_La_law.2.1 1179 = .ok (.invokevirtual 52, 3) := by decide +kernel
theorem d_La_law_1182 : decode m_La_law.2.1 1182 = .ok (.iload 25, 2) := by decide +kernel
theorem d_La_law_1184 : decode m_La_law.2.1 1184 = .ok (.if_icmp .ne 16, 3) := by decide +kernel
theorem d_La_law_1187 : decode m_La_law.2.1 1187 = .ok (.aload_n 1, 1) := by decide +kernel
theorem d_La_law_1188 : decode m_La_law.2.1 1188 = .ok (.invokevirtual 77, 3) := by decide +kernel
theorem d_La_law_1191 : decode m_La_law.2.1 1191 = .ok (.iload 26, 2) := by decide +kernel
theorem d_La_law_1193 : decode m_La_law.2.1 1193 = .ok (.if_icmp .ne 7, 3) := by decide +kernel
theorem d_La_law_1196 : decode m_La_law.2.1 1196 = .ok (.iconst 1, 1) := by decide +kernel
theorem d_La_law_1197 : decode m_La_law.2.1 1197 = .ok (.goto 4, 3) := by decide +kernel
theorem d_La_law_1200 : decode m_La_law.2.1 1200 = .ok (.iconst 0, 1) := by decide +kernel
theorem d_La_law_1201 : decode m_La_law.2.1 1201 = .ok (.istore 9, 2) := by decide +kernel
theorem d_La_law_1203 : decode m_La_law.2.1 1203 = .ok (.aload_n 1, 1) := by decide +kernel
theorem d_La_law_1204 : decode m_La_law.2.1 1204 = .ok (.invokevirtual 68, 3) := by decide +kernel
theorem d_La_law_1207 : decode m_La_law.2.1 1207 = .ok (.istore 19, 2) := by decide +kernel
theorem d_La_law_1209 : decode m_La_law.2.1 1209 = .ok (.iload 9, 2) := by decide +kernel
theorem d_La_law_1211 : decode m_La_law.2.1 1211 = .ok (.ifCond .eq 50, 3) := by decide +kernel
theorem d_La_law_1214 : decode m_La_law.2.1 1214 = .ok (.aload_n 1, 1) := by decide +kernel
theorem d_La_law_1215 : decode m_La_law.2.1 1215 = .ok (.aload_n 2, 1) := by decide +kernel
theorem d_La_law_1216 : decode m_La_law.2.1 1216 = .ok (.aload_n 3, 1) := by decide +kernel
theorem d_La_law_1217 : decode m_La_law.2.1 1217 = .ok (.iload 19, 2) := by decide +kernel
theorem d_La_law_1219 : decode m_La_law.2.1 1219 = .ok (.invokestatic 96, 3) := by decide +kernel
theorem d_La_law_1222 : decode m_La_law.2.1 1222 = .ok (.ifCond .eq 39, 3) := by decide +kernel
theorem d_La_law_1225 : decode m_La_law.2.1 1225 = .ok (.aload_n 1, 1) := by decide +kernel
theorem d_La_law_1226 : decode m_La_law.2.1 1226 = .ok (.bipush 6, 2) := by decide +kernel
theorem d_La_law_1228 : decode m_La_law.2.1 1228 = .ok (.iload 12, 2) := by decide +kernel
theorem d_La_law_1230 : decode m_La_law.2.1 1230 = .ok (.iconst 0, 1) := by decide +kernel
theorem d_La_law_1231 : decode m_La_law.2.1 1231 = .ok (.iconst 0, 1) := by decide +kernel
theorem d_La_law_1232 : decode m_La_law.2.1 1232 = .ok (.iconst 0, 1) := by decide +kernel
theorem d_La_law_1233 : decode m_La_law.2.1 1233 = .ok (.invokestatic 83, 3) := by decide +kernel
theorem d_La_law_1236 : decode m_La_law.2.1 1236 = .ok (.bipush (-11), 2) := by decide +kernel
theorem d_La_law_1238 : decode m_La_law.2.1 1238 = .ok (.if_icmp .ne 23, 3) := by decide +kernel
theorem d_La_law_1241 : decode m_La_law.2.1 1241 = .ok (.aload_n 1, 1) := by decide +kernel
theorem d_La_law_1242 : decode m_La_law.2.1 1242 = .ok (.bipush 6, 2) := by decide +kernel
theorem d_La_law_1244 : decode m_La_law.2.1 1244 = .ok (.iload 12, 2) := by decide +kernel
theorem d_La_law_1246 : decode m_La_law.2.1 1246 = .ok (.iconst 1, 1) := by decide +kernel
theorem d_La_law_1247 : decode m_La_law.2.1 1247 = .ok (.isub, 1) := by decide +kernel
theorem d_La_law_1248 : decode m_La_law.2.1 1248 = .ok (.iconst 0, 1) := by decide +kernel
theorem d_La_law_1249 : decode m_La_law.2.1 1249 = .ok (.iconst 0, 1) := by decide +kernel
theorem d_La_law_1250 : decode m_La_law.2.1 1250 = .ok (.iconst 0, 1) := by decide +kernel
theorem d_La_law_1251 : decode m_La_law.2.1 1251 = .ok (.invokestatic 83, 3) := by decide +kernel
theorem d_La_law_1254 : decode m_La_law.2.1 1254 = .ok (.ifCond .lt 7, 3) := by decide +kernel
theorem d_La_law_1257 : decode m_La_law.2.1 1257 = .ok (.iconst 1, 1) := by decide +kernel
theorem d_La_law_1258 : decode m_La_law.2.1 1258 = .ok (.goto 4, 3) := by decide +kernel
theorem d_La_law_1261 : decode m_La_law.2.1 1261 = .ok (.iconst 0, 1) := by decide +kernel
theorem d_La_law_1262 : decode m_La_law.2.1 1262 = .ok (.istore 9, 2) := by decide +kernel
theorem d_La_law_1264 : decode m_La_law.2.1 1264 = .ok (.iload 9, 2) := by decide +kernel
theorem d_La_law_1266 : decode m_La_law.2.1 1266 = .ok (.ifCond .eq 47, 3) := by decide +kernel
theorem d_La_law_1269 : decode m_La_law.2.1 1269 = .ok (.iload 14, 2) := by decide +kernel
theorem d_La_law_1271 : decode m_La_law.2.1 1271 = .ok (.iconst 3, 1) := by decide +kernel
theorem d_La_law_1272 : decode m_La_law.2.1 1272 = .ok (.irem, 1) := by decide +kernel
theorem d_La_law_1273 : decode m_La_law.2.1 1273 = .ok (.ifCond .gt 36, 3) := by decide +kernel
theorem d_La_law_1276 : decode m_La_law.2.1 1276 = .ok (.aload_n 1, 1) := by decide +kernel
theorem d_La_law_1277 : decode m_La_law.2.1 1277 = .ok (.iload 16, 2) := by decide +kernel
theorem d_La_law_1279 : decode m_La_law.2.1 1279 = .ok (.iconst 3, 1) := by decide +kernel
theorem d_La_law_1280 : decode m_La_law.2.1 1280 = .ok (.ishr, 1) := by decide +kernel
theorem d_La_law_1281 : decode m_La_law.2.1 1281 = .ok (.bipush 6, 2) := by decide +kernel
theorem d_La_law_1283 : decode m_La_law.2.1 1283 = .ok (.irem, 1) := by decide +kernel
theorem d_La_law_1284 : decode m_La_law.2.1 1284 = .ok (.iload 7, 2) := by decide +kernel
theorem d_La_law_1286 : decode m_La_law.2.1 1286 = .ok (.iload 16, 2) := by decide +kernel
theorem d_La_law_1288 : decode m_La_law.2.1 1288 = .ok (.bipush 6, 2) := by decide +kernel
theorem d_La_law_1290 : decode m_La_law.2.1 1290 = .ok (.ishr, 1) := by decide +kernel
theorem d_La_law_1291 : decode m_La_law.2.1 1291 = .ok (.sipush 1000, 3) := by decide +kernel
theorem d_La_law_1294 : decode m_La_law.2.1 1294 = .ok (.iload 7, 2) := by decide +kernel
theorem d_La_law_1296 : decode m_La_law.2.1 1296 = .ok (.idiv, 1) := by decide +kernel
theorem d_La_law_1297 : decode m_La_law.2.1 1297 = .ok (.irem, 1) := by decide +kernel
theorem d_La_law_1298 : decode m_La_law.2.1 1298 = .ok (.imul, 1) := by decide +kernel
theorem d_La_law_1299 : decode m_La_law.2.1 1299 = .ok (.iload 6, 2) := by decide +kernel
theorem d_La_law_1301 : decode m_La_law.2.1 1301 = .ok (.iload 5, 2) := by decide +kernel
theorem d_La_law_1303 : decode m_La_law.2.1 1303 = .ok (.invokestatic 100, 3) := by decide +kernel
theorem d_La_law_1306 : decode m_La_law.2.1 1306 = .ok (.ifCond .eq 7, 3) := by decide +kernel
theorem d_La_law_1309 : decode m_La_law.2.1 1309 = .ok (.iconst 1, 1) := by decide +kernel
theorem d_La_law_1310 : decode m_La_law.2.1 1310 = .ok (.goto 4, 3) := by decide +kernel
theorem d_La_law_1313 : decode m_La_law.2.1 1313 = .ok (.iconst 0, 1) := by decide +kernel
theorem d_La_law_1314 : decode m_La_law.2.1 1314 = .ok (.istore 9, 2) := by decide +kernel
theorem d_La_law_1316 : decode m_La_law.2.1 1316 = .ok (.iinc 14 1, 3) := by decide +kernel
theorem d_La_law_1319 : decode m_La_law.2.1 1319 = .ok (.goto (-1121), 3) := by decide +kernel
theorem d_La_law_1322 : decode m_La_law.2.1 1322 = .ok (.iload 9, 2) := by decide +kernel
theorem d_La_law_1324 : decode m_La_law.2.1 1324 = .ok (.ireturn, 1) := by decide +kernel
